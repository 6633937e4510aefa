theorem pcwin {G f : Nat → Bool} {a : Nat} (ha : a ≤ 48) (h : ∀ x, x < 64 → f x = (G x && (decide (a ≤ x) && decide (x < a + 16)))) : pc f 64 = pc (fun i => G (a + i)) 16 := by
  rw [show (64 : Nat) = (a + 16) + (48 - a) by omega, pc_add, pc_add, pc_false (f := f) (n := a) (fun i hi => ?_), pc_false (n := 48 - a) (fun i hi => ?_), Nat.zero_add, Nat.add_zero]
  · refine pc_congr fun i hi => ?_
    rw [h _ (by omega), decide_eq_true (by omega), decide_eq_true (by omega), Bool.and_true, Bool.and_true]
  · show f (a + 16 + i) = false
    rw [h _ (by omega), decide_eq_false (p := a + 16 + i < a + 16) (by omega), Bool.and_false, Bool.and_false]
  · rw [h _ (by omega), decide_eq_false (p := a ≤ i) (by omega), Bool.false_and, Bool.and_false]
/-- the layers' rows in the memory alone -/
abbrev dM (M : cm) (D : Nat → Bool) : Prop := ∀ y x, y < 1024 → x < 64 → bx (M.2 101 y) x = D (64 * y + x)
theorem w_shareX {N : Nat → Nat} {M : cm} {D : Nat → Bool} (hD : dM M D) {R l a b : Nat} (hR : R < 16) (hl : l < 16) (ha : a < 4) (hb : b < 4) (hly : M.1 205 R = zI (l : Nat)) :
    wp (f_X8_holdShare_L24 N (zI (R : Nat)) (zI ((16 * a : Nat) : Int)) (zI ((16 * b : Nat) : Int)) M nm_F 0 (zI ((16 * a : Nat) : Int))) (fun y => y = zI ((shC (rl D l) (4 * a + b) : Nat) : Int)) := by
  obtain ⟨F, hF⟩ : ∃ F : Nat → Bool, F = fun i => rl D l (shB (4 * a + b) + 64 * (i / 16) + i % 16) := ⟨_, rfl⟩
  have hC : shC (rl D l) (4 * a + b) = pc F 256 := by rw [hF]; rfl
  have hB0 : shB (4 * a + b) = 1024 * a + 16 * b := by
    show 1024 * ((4 * a + b) / 4) + 16 * ((4 * a + b) % 4) = _
    omega
  rw [hC]
  have key : ∀ (f y : Nat), y ≤ 16 → 16 - y < f → wp (f_X8_holdShare_L24 N (zI (R : Nat)) (zI ((16 * a : Nat) : Int)) (zI ((16 * b : Nat) : Int)) M f (zI ((pc F (16 * y) : Nat) : Int)) (zI ((16 * a + y : Nat) : Int))) (fun y => y = zI ((pc F 256 : Nat) : Int)) := by
    intro f
    induction f with
    | zero => intro i h1 h2; omega
    | succ f ih =>
      intro y hy hf
      rw [f_X8_holdShare_L24, show (16 : Int32) = zI 16 from rfl, zI_add]
      simp (disch := omega) only [zI_le]
      refine wp_if (fun h => ?_) (fun h => ?_)
      · have : y = 16 := by omega
        subst this
        exact wp_r rfl
      rw [nm_cz (by omega) (by omega) (by omega), zI_cl (by omega) (by omega), Int.toNat_natCast, hly, show (64 : Int32) = zI 64 from rfl, zI_mul, zI_add, nm_cz (by omega) (by omega) (by omega), zI_cl (by omega) (by omega), show (64 * ((l : Nat) : Int) + ((16 * a + y : Nat) : Int)).toNat = 64 * l + (16 * a + y) by omega, nm_l_eq, nm_l_eq, bc_eq, zI_add, zI_inc]
      have hw : pc (bx ((M.2 101 (64 * l + (16 * a + y))) &&& (f_X0_span (zI ((16 * b : Nat) : Int)) (zI 16)))) 64 = pc (fun i => F (16 * y + i)) 16 := by
        refine (pcwin (G := bx (M.2 101 (64 * l + (16 * a + y)))) (a := 16 * b) (by omega) (fun x hx => ?_)).trans (pc_congr fun i hi => ?_)
        · have := bx_span (f := 16 * b) (m := 16) (by omega) (by omega) hx
          rw [bx_and]
          exact congrArg _ this
        · rw [hD _ _ (by omega) (by omega), hF]
          show _ = rl D l (shB (4 * a + b) + 64 * ((16 * y + i) / 16) + (16 * y + i) % 16)
          unfold rl
          rw [decide_eq_true (by omega), Bool.true_and]
          exact congrArg D (by omega)
      rw [hw]
      have := ih (y + 1) (by omega) (by omega)
      rw [show 16 * (y + 1) = 16 * y + 16 by omega, pc_add] at this
      exact this
  rw [zI_0]
  exact key nm_F 0 (by omega) (by rw [nm_F_eq]; omega)
theorem w_shareB {N : Nat → Nat} (hN : 2400 ≤ N 201) {M : cm} {D : Nat → Bool} (hD : dM M D) {R V l a : Nat} (hR : R < 16) (hV : V ≤ 4096) (hl : l < 16) (ha : a < 4) (hv : M.1 207 R = zI (V : Nat)) (hly : M.1 205 R = zI (l : Nat)) {L : List ft} (hlen : L.length < 900000) (hL : faX M (shL (rl D l) R V (4 * a) L)) :
    wp (f_X8_holdShare_L11 N (zI (R : Nat)) (zI ((16 * a : Nat) : Int)) nm_F 0 M) (fun M' => faX M' (shL (rl D l) R V (4 * (a + 1)) L) ∧ faXF M M') := by
  have key : ∀ (f b : Nat) (S : cm), b ≤ 4 → 4 - b < f → faX S (shL (rl D l) R V (4 * a + b) L) → faXF M S → wp (f_X8_holdShare_L11 N (zI (R : Nat)) (zI ((16 * a : Nat) : Int)) f (zI ((16 * b : Nat) : Int)) S) (fun M' => faX M' (shL (rl D l) R V (4 * (a + 1)) L) ∧ faXF M M') := by
    intro f
    induction f with
    | zero => intro i S h1 h2; omega
    | succ f ih =>
      intro b S hb hf hI hF
      have hlk := shL_len (rl D l) R V (4 * a + b) L
      have hcl := shC_le (rl D l) (4 * a + b)
      have hB0 : shB (4 * a + b) = 1024 * a + 16 * b ∨ 4 ≤ b := by
        show 1024 * ((4 * a + b) / 4) + 16 * ((4 * a + b) % 4) = _ ∨ _
        omega
      rw [f_X8_holdShare_L11, show (64 : Int32) = zI 64 from rfl]
      simp (disch := omega) only [zI_le]
      refine wp_if (fun h => ?_) (fun h => ?_)
      · have : b = 4 := by omega
        subst this
        exact wp_r ⟨hI, hF⟩
      have hDS : dM S D := by rw [show dM S D = dM M D by unfold dM; rw [hF.1]]; exact hD
      refine wp_s1 _ (w_shareX hDS hR hl ha (by omega) ((hF.2 205 R (by omega) (by omega)).trans hly)) ?_
      rintro _ rfl
      have hv' : S.1 207 R = zI (V : Nat) := (hF.2 207 R (by omega) (by omega)).trans hv
      rw [nm_cz (by omega) (by omega) (by omega), zI_cl (by omega) (by omega), Int.toNat_natCast, hv']
      simp (disch := omega) only [zI_le]
      have hnx : zI ((16 * b : Nat) : Int) + 16 = zI ((16 * (b + 1) : Nat) : Int) := by
        rw [show (16 : Int32) = zI 16 from rfl, zI_add]
        exact congrArg zI (by omega)
      refine wp_if (fun h2 => ?_) (fun h2 => ?_)
      · unfold f_X8_holdShare_J111
        rw [hnx]
        refine ih (b + 1) S (by omega) (by omega) ?_ hF
        show faX S (if shC (rl D l) (4 * a + b) < V then _ else shL (rl D l) R V (4 * a + b) L)
        rw [if_neg (by omega)]
        exact hI
      · have hsB : zI 64 * zI ((16 * a : Nat) : Int) + zI ((16 * b : Nat) : Int) = zI ((shB (4 * a + b) : Nat) : Int) := by
          rw [zI_mul, zI_add]
          exact congrArg zI (by omega)
        rw [hsB, nm_l_eq, show (975 : Int32) = zI 975 from rfl, zI_add]
        refine wp_s1 _ (w_noteX hN hI (by omega) (t := (R, shB (4 * a + b), shB (4 * a + b) + 975, shC (rl D l) (4 * a + b))) ⟨hR, (by show shB (4 * a + b) < 4096; omega), (by show shB (4 * a + b) + 975 < 4096; omega), (by show shC (rl D l) (4 * a + b) ≤ 4096; omega)⟩) ?_
        rintro S2 ⟨z1, z2⟩
        unfold f_X8_holdShare_J111
        rw [hnx]
        refine ih (b + 1) S2 (by omega) (by omega) ?_ ⟨z2.1.trans hF.1, fun n j x y => (z2.2 n j x y).trans (hF.2 n j x y)⟩
        show faX S2 (if shC (rl D l) (4 * a + b) < V then shL (rl D l) R V (4 * a + b) L ++ [_] else _)
        rw [if_pos (by omega)]
        exact z1
  rw [zI_0]
  exact key nm_F 0 M (by omega) (by rw [nm_F_eq]; omega) hL ⟨rfl, fun _ _ _ _ => rfl⟩
theorem w_holdShare {N : Nat → Nat} (hN : 2400 ≤ N 201) {M : cm} {D : Nat → Bool} (hD : dM M D) {R V l : Nat} (hR : R < 16) (hV : V ≤ 4096) (hl : l < 16) (hv : M.1 207 R = zI (V : Nat)) (hly : M.1 205 R = zI (l : Nat)) {L : List ft} (hlen : L.length < 900000) (hL : faX M L) :
    wp (f_X8_holdShare N (zI (R : Nat)) M) (fun M' => faX M' (shL (rl D l) R V 16 L) ∧ faXF M M') := by
  have key : ∀ (f a : Nat) (S : cm), a ≤ 4 → 4 - a < f → faX S (shL (rl D l) R V (4 * a) L) → faXF M S → wp (f_X8_holdShare_L2 N (zI (R : Nat)) f (zI ((16 * a : Nat) : Int)) S) (fun M' => faX M' (shL (rl D l) R V 16 L) ∧ faXF M M') := by
    intro f
    induction f with
    | zero => intro i S h1 h2; omega
    | succ f ih =>
      intro a S ha hf hI hF
      rw [f_X8_holdShare_L2, show (64 : Int32) = zI 64 from rfl]
      simp (disch := omega) only [zI_le]
      refine wp_if (fun h => ?_) (fun h => ?_)
      · have : a = 4 := by omega
        subst this
        exact wp_r ⟨hI, hF⟩
      have hDS : dM S D := by rw [show dM S D = dM M D by unfold dM; rw [hF.1]]; exact hD
      refine wp_s1 _ (w_shareB hN hDS hR hV hl (by omega) ((hF.2 207 R (by omega) (by omega)).trans hv) ((hF.2 205 R (by omega) (by omega)).trans hly) hlen hI) ?_
      rintro S2 ⟨z1, z2⟩
      have hnx : zI ((16 * a : Nat) : Int) + 16 = zI ((16 * (a + 1) : Nat) : Int) := by
        rw [show (16 : Int32) = zI 16 from rfl, zI_add]
        exact congrArg zI (by omega)
      rw [hnx]
      exact ih (a + 1) S2 (by omega) (by omega) z1 ⟨z2.1.trans hF.1, fun n j x y => (z2.2 n j x y).trans (hF.2 n j x y)⟩
  unfold f_X8_holdShare
  rw [zI_0]
  exact wp_s1 _ (key nm_F 0 M (by omega) (by rw [nm_F_eq]; omega) hL ⟨rfl, fun _ _ _ _ => rfl⟩) (fun _ h => wp_r h)
