theorem w_placedCells {M : cm} {K : Nat → Nat} {c : Nat} {s : Nat → Nat → Int} {n : Nat} (hce : ceM M K c s n) (hc : c < 8) : wp (f_X1_placedCells (1000 + 100 * c) K M) (fun r => ∀ i, bi r i = true ↔ ∃ k, k < n ∧ s k 0 = 4 ∧ s k 1 = (i : Int)) := by
  have hn16 := hce.1
  unfold f_X1_placedCells
  refine wp_s1 (fun r => ∀ i, bi r i = true ↔ ∃ k, k < n ∧ s k 0 = 4 ∧ s k 1 = (i : Int)) ?_ (fun _ h => wp_r h)
  rw [zI_0]
  refine lpm (fun f (t : Int32 × Int32) => f_X1_placedCells_L4 (1000 + 100 * c) K M f t.1 t.2) _ (fun t => ∃ k, k ≤ n ∧ t.2 = zI ((k : Nat) : Int) ∧ ∀ i, bi t.1 i = true ↔ ∃ j, j < k ∧ s j 0 = 4 ∧ s j 1 = (i : Int)) (fun t => 100 - t.2.toInt.toNat) ?_ nm_F (zI 0, zI 0) (by show 100 - _ < nm_F; rw [nm_F_eq]; omega) ⟨0, by omega, rfl, fun i => ?_⟩
  · rintro f ⟨u, v⟩ ⟨k, hk, e1, hI⟩ hn9
    simp only at e1 hI
    subst e1
    show wp (f_X1_placedCells_L4 _ K M (f + 1) _ _) _
    rw [f_X1_placedCells_L4, hce.2.1]
    simp (disch := omega) only [zI_le]
    refine wp_if (fun h => wp_r ?_) (fun h => ?_)
    · have : k = n := by omega
      subst this
      exact hI
    obtain ⟨o1, o2⟩ := hce.2.2 k (by omega)
    obtain ⟨K0, K6, K5, K7⟩ := okS_K o1 o2
    unfold f_X1_placedCells_J43
    simp (disch := omega) only [nm_cz, zI_cl, nm_l_eq, zI_inc]
    rw [show 1000 + 100 * c + 10 + ((k : Nat) : Int).toNat = 1010 + 100 * c + k by omega, nm_nzp K0]
    have hm : 100 - (zI (((k : Nat) : Int) + 1)).toInt.toNat < 100 - (zI ((k : Nat) : Int)).toInt.toNat := by
      rw [zI_ti (by omega) (by omega), zI_ti (by omega) (by omega)]
      omega
    refine wp_if (fun h => ?_) (fun h => ?_)
    · have h4 : s k 0 ≠ 4 := fun h4 => (nm_is0.mp h) (K7.mpr h4)
      refine hn9 (_, _) ⟨k + 1, by omega, rfl, fun i => ?_⟩ hm
      rw [hI i]
      constructor
      · rintro ⟨j, j1, j2, j3⟩
        exact ⟨j, by omega, j2, j3⟩
      · rintro ⟨j, j1, j2, j3⟩
        by_cases hjk : j = k
        · subst hjk
          exact absurd j2 h4
        · exact ⟨j, by omega, j2, j3⟩
    · have h4 : s k 0 = 4 := by
        apply K7.mp
        apply Classical.byContradiction
        intro h8
        exact h (nm_is0.mpr h8)
      obtain ⟨q1, q2, -⟩ := put_rng o1 h4
      refine hn9 (_, _) ⟨k + 1, by omega, rfl, fun i => ?_⟩ hm
      show bi (u ||| _) i = true ↔ _
      rw [o2.2.1, q2, bi_or, bi_one (by omega), Bool.or_eq_true, hI i, decide_eq_true_iff]
      constructor
      · rintro (⟨j, j1, j2, j3⟩ | h9)
        · exact ⟨j, by omega, j2, j3⟩
        · exact ⟨k, by omega, h4, by omega⟩
      · rintro ⟨j, j1, j2, j3⟩
        by_cases hjk : j = k
        · subst hjk
          exact Or.inr (by omega)
        · exact Or.inl ⟨j, by omega, j2, j3⟩
  · rw [show bi (zI 0, zI 0).1 i = false from bi_z i]
    constructor
    · intro h
      exact absurd h (by decide)
    · rintro ⟨j, j1, -⟩
      exact absurd j1 (Nat.not_lt_zero _)
/-- all cells, as the program holds them: their shapes; those that are settled hold what they come to -/
def cls (S : ca) (K : Nat → Nat) (sd : Nat → Nat → Nat → Int) (cnt : Nat → Nat) : Prop := ∀ c, c < 8 → ceM S.1 K c (sd c) (cnt c) ∧ ((S.2 (1000 + 100 * c + 2) = 0 ∧ S.2 (1000 + 100 * c + 3) = 0) ∨ (S.2 (1000 + 100 * c + 2) = 512 ∧ S.2 (1000 + 100 * c + 3) = 200)) ∧ (S.1.1 (1000 + 100 * c) 2 = 0 ∨ (S.1.1 (1000 + 100 * c) 2 = 1 ∧ stl S c (FL sd cnt c)))
theorem fo_congr {α : Type} {f g : Nat → α → α} {n : Nat} (h : ∀ k, k < n → ∀ a, f k a = g k a) (a : α) : fo f n a = fo g n a := by
  induction n with
  | zero => rfl
  | succ n ih =>
    show f n (fo f n a) = g n (fo g n a)
    rw [ih (fun k hk => h k (by omega)), h n (by omega)]
theorem stl_fr {S S' : ca} {c x : Nat} {f : fl} (hx : x ≠ c) (h : seD c S S') (hs : stl S x f) : stl S' x f := by
  obtain ⟨h1, h2, h3⟩ := h
  obtain ⟨z1, z2, z3, z4, z5, z6⟩ := hs
  refine ⟨by rw [h3 _ (by omega) (by omega)]; exact z1, by rw [h3 _ (by omega) (by omega)]; exact z2, fun y x hy hx => by rw [h2 _ (by omega) (by omega)]; exact z3 y x hy hx, by rw [h1 _ _ (by omega) (by omega)]; exact z4, z5, fun i hi => ⟨(z6 i hi).1, by rw [h1 _ _ (by omega) (by omega)]; exact (z6 i hi).2⟩⟩
theorem ceM_fr {M M' : cm} {K : Nat → Nat} {c x : Nat} {s : Nat → Nat → Int} {n : Nat} (h1 : ∀ m j, ¬ (m = 1000 + 100 * c ∧ (j = 5 ∨ j = 2)) → m ≠ 1000 + 100 * c + 3 → M'.1 m j = M.1 m j) (h2 : ∀ m, m ≠ 1000 + 100 * c + 2 → m ≠ 3 → M'.2 m = M.2 m) (h : ceM M K x s n) : ceM M' K x s n := by
  have := h.1
  refine ⟨h.1, by rw [h1 _ _ (by omega) (by omega)]; exact h.2.1, fun k hk => ⟨(h.2.2 k hk).1, shM_fr (h.2.2 k hk).2 (fun j => h1 _ _ (by omega) (by omega)) (h2 _ (by omega) (by omega))⟩⟩
/-- what settling any cells leaves as it was -/
def seA (S S' : ca) : Prop := (∀ m j, m < 1000 → S'.1.1 m j = S.1.1 m j) ∧ (∀ m, m < 1000 → m ≠ 3 → S'.1.2 m = S.1.2 m) ∧ ∀ x, x < 1000 → S'.2 x = S.2 x
theorem w_flatA {c : Nat} (hc8 : c < 8) {K : Nat → Nat} {sd : Nat → Nat → Nat → Int} {cnt : Nat → Nat} {S : ca} (hc : cO S.2) (hcl : cls S K sd cnt) :
    wp (f_X11_flat_L22 K nm_F ((1 : Int32) <<< (zI (c : Nat) &&& 31)) (zI (c : Nat)) S) (fun r => r.2 = S ∧ bi r.1 c = true ∧ ∀ x, x ≤ c → bi r.1 x = true → ∀ k, k < cnt x → sd x k 0 = 4 → bi r.1 (sd x k 1).toNat = true) := by
  refine lpm (fun f (t : Int32 × Int32 × ca) => f_X11_flat_L22 K f t.1 t.2.1 t.2.2) _ (fun t => t.2.2 = S ∧ ∃ z : Int, t.2.1 = zI z ∧ -1 ≤ z ∧ z ≤ c ∧ bi t.1 c = true ∧ ∀ x : Nat, x ≤ c → z < x → bi t.1 x = true → ∀ k, k < cnt x → sd x k 0 = 4 → bi t.1 (sd x k 1).toNat = true) (fun t => (t.2.1.toInt + 1).toNat) ?_ nm_F ((1 : Int32) <<< (zI (c : Nat) &&& 31), zI (c : Nat), S) ?_ ⟨rfl, (c : Int), rfl, by omega, by omega, ?_, fun x h1 h2 => by omega⟩
  · rintro f ⟨m, t, S'⟩ ⟨rfl, z, e1, z1, z2, hb, hI⟩ hn9
    simp only at e1 hb hI
    subst e1
    show wp (f_X11_flat_L22 K (f + 1) m (zI z) S') _
    rw [f_X11_flat_L22, zI_0]
    simp (disch := omega) only [zI_lt]
    refine wp_if (fun h => wp_r ⟨rfl, hb, fun x hx => hI x hx (by omega)⟩) (fun h => ?_)
    obtain ⟨i, rfl⟩ := Int.eq_ofNat_of_zero_le (show 0 ≤ z by omega)
    unfold f_X11_flat_J46
    rw [show (-1 : Int32) = zI (-1) from rfl, zI_add, ← zI_0]
    have hm : ((zI (((i : Nat) : Int) + -1)).toInt + 1).toNat < ((zI ((i : Nat) : Int)).toInt + 1).toNat := by
      rw [zI_ti (by omega) (by omega), zI_ti (by omega) (by omega)]
      omega
    refine wp_if (fun h2 => ?_) (fun h2 => ?_)
    · have hbi := (bi_0 m (by omega)).mp h2
      refine hn9 (_, _, _) ⟨rfl, _, rfl, by omega, by omega, hb, fun x hx hz => ?_⟩ hm
      intro hxb
      by_cases hxi : x = i
      · subst hxi
        rw [hbi] at hxb
        exact absurd hxb (by decide)
      · exact hI x hx (by omega) hxb
    · refine wp_cz (by omega) (by omega) (by omega) ?_
      rw [zI_cl (by omega) (by omega), nm_l_eq, Int.toNat_natCast]
      refine wp_s1 _ (w_placedCells (hcl i (by omega)).1 (by omega)) ?_
      intro r hr
      rw [nm_l_eq]
      refine hn9 (_, _, _) ⟨rfl, _, rfl, by omega, by omega, ?_, fun x hx hz hxb k hk h4 => ?_⟩ hm
      · show bi (m ||| r) c = true
        rw [bi_or, hb]
        rfl
      · show bi (m ||| r) _ = true
        have hxb : bi (m ||| r) x = true := hxb
        have o1 := ((hcl x (by omega)).1.2.2 k hk).1
        obtain ⟨q1, q2, -⟩ := put_rng o1 h4
        rw [bi_or, Bool.or_eq_true]
        by_cases hxi : x = i
        · subst hxi
          exact Or.inr ((hr _).mpr ⟨k, hk, h4, q2⟩)
        · left
          refine hI x hx (by omega) ?_ k hk h4
          rw [bi_or, Bool.or_eq_true] at hxb
          rcases hxb with h9 | h9
          · exact h9
          · obtain ⟨j, j1, j2, j3⟩ := (hr x).mp h9
            have o2 := ((hcl i (by omega)).1.2.2 j j1).1
            have := put_rng o2 j2
            omega
  · show ((zI _).toInt + 1).toNat < nm_F
    rw [zI_ti (by omega) (by omega), nm_F_eq]
    omega
  · show bi _ c = true
    rw [bi_one (by omega)]
    simp
set_option maxHeartbeats 2000000 in
theorem w_flatB {c : Nat} (hc8 : c < 8) {K : Nat → Nat} {sd : Nat → Nat → Nat → Int} {cnt : Nat → Nat} {S : ca} (hc : cO S.2) (hcl : cls S K sd cnt) {m : Int32} (hm : bi m c = true) (hcm : ∀ x, x ≤ c → bi m x = true → ∀ k, k < cnt x → sd x k 0 = 4 → bi m (sd x k 1).toNat = true) :
    wc sN (f_X11_flat_L54 K (zI (c : Nat)) m nm_F (zI 0) S) S.2 (fun S' => cO S'.2 ∧ cls S' K sd cnt ∧ stl S' c (FL sd cnt c) ∧ seA S S') := by
  have key : ∀ (f x : Nat) (S1 : ca), x ≤ c + 1 → c + 1 - x < f → cO S1.2 → cls S1 K sd cnt → (∀ y, y < x → bi m y = true → S1.1.1 (1000 + 100 * y) 2 = 1) → seA S S1 → wc sN (f_X11_flat_L54 K (zI (c : Nat)) m f (zI ((x : Nat) : Int)) S1) S1.2 (fun S' => cO S'.2 ∧ cls S' K sd cnt ∧ stl S' c (FL sd cnt c) ∧ seA S S') := by
    intro f
    induction f with
    | zero => intro x S1 h1 h2; omega
    | succ f ih =>
      intro x S1 hx hf hc1 hcl1 hst hfr
      rw [f_X11_flat_L54]
      simp (disch := omega) only [zI_lt]
      have hgood : ∀ y, y < 8 → S1.1.1 (1000 + 100 * y) 2 = 1 → stl S1 y (FL sd cnt y) := by
        intro y hy h1
        rcases (hcl1 y hy).2.2 with h | h
        · rw [h] at h1
          exact absurd h1 (by decide)
        · exact h.2
      refine wc_if (fun h => ?_) (fun h => ?_)
      · have := hst c (by omega) hm
        exact wc_r ⟨hc1, hcl1, hgood c hc8 this, hfr⟩
      · have ex1 : zI ((x : Nat) : Int) + 1 = zI ((x + 1 : Nat) : Int) := by rw [zI_inc]; rfl
        refine wc_if (fun h2 => ?_) (fun h2 => ?_)
        · have hbi := (bi_0 m (by omega)).mp h2
          unfold f_X11_flat_J84
          rw [ex1]
          refine ih (x + 1) S1 (by omega) (by omega) hc1 hcl1 (fun y hy hb => ?_) hfr
          by_cases hyx : y = x
          · subst hyx
            rw [hbi] at hb
            exact absurd hb (by decide)
          · exact hst y (by omega) hb
        · have hbx : bi m x = true := by
            cases hb : bi m x with
            | true => rfl
            | false => exact absurd ((bi_0 m (by omega)).mpr hb) h2
          rw [nm_cz (by omega) (by omega) (by omega), nm_l_eq, zI_cl (by omega) (by omega), Int.toNat_natCast]
          obtain ⟨e1, e2, e3⟩ := hcl1 x (by omega)
          have hput : ∀ k, k < cnt x → sd x k 0 = 4 → stl S1 (sd x k 1).toNat (tab sd cnt x (sd x k 1).toNat) := by
            intro k hk h4
            have hr := put_rng (e1.2.2 k hk).1 h4
            rw [tab_lt x _ hr.1]
            exact hgood _ (by omega) (hst _ hr.1 (hcm x (by omega) hbx k hk h4))
          refine wc_a1 _ (w_settle (tb := tab sd cnt x) (by omega) hc1 e2 e1 hput (by rw [← FL_eq]; exact e3)) ?_
          rintro S2 ⟨q1, q2, q3, q4⟩
          rw [← FL_eq] at q2
          unfold f_X11_flat_J84
          rw [ex1]
          refine ih (x + 1) S2 (by omega) (by omega) q1 (fun y hy => ?_) (fun y hy hb => ?_) ?_
          · refine ⟨ceM_fr q4.1 q4.2.1 (hcl1 y hy).1, ?_, ?_⟩
            · by_cases hyx : y = x
              · rw [hyx]
                exact Or.inr ⟨q2.1, q2.2.1⟩
              · rw [q4.2.2 _ (by omega) (by omega), q4.2.2 _ (by omega) (by omega)]
                exact (hcl1 y hy).2.1
            · by_cases hyx : y = x
              · rw [hyx]
                exact Or.inr ⟨q3, q2⟩
              · rw [q4.1 _ _ (by omega) (by omega)]
                rcases (hcl1 y hy).2.2 with h9 | h9
                · exact Or.inl h9
                · exact Or.inr ⟨h9.1, stl_fr hyx q4 h9.2⟩
          · by_cases hyx : y = x
            · rw [hyx]
              exact q3
            · rw [q4.1 _ _ (by omega) (by omega)]
              exact hst y (by omega) hb
          · exact ⟨fun m j h => by rw [q4.1 _ _ (by omega) (by omega)]; exact hfr.1 m j h, fun m h h3 => by rw [q4.2.1 _ (by omega) h3]; exact hfr.2.1 m h h3, fun y h => by rw [q4.2.2 _ (by omega) (by omega)]; exact hfr.2.2 y h⟩
  exact key nm_F 0 S (by omega) (by rw [nm_F_eq]; omega) hc hcl (fun y hy => absurd hy (Nat.not_lt_zero _)) ⟨fun _ _ _ => rfl, fun _ _ _ => rfl, fun _ _ => rfl⟩
