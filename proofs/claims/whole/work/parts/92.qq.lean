/-! the measures of a layer's parts, and the rule of areas on both sides -/
noncomputable def nP (r : Nat → Bool) : Nat := pc (ldr r (CP r)) 4096
abbrev mPp (r : Nat → Bool) (g : Nat) (t : Nat × Nat × Nat) : Prop := t.1 ≤ 4096 ∧ t.2.1 < 4096 ∧ t.2.2 < 4096 ∧ Meas r (CP r) 4096 (lc r) g ((t.1 : Nat) : Int) ((t.2.1 : Nat) : Int) ((t.2.2 : Nat) : Int)
noncomputable def mP (r : Nat → Bool) (g : Nat) : Nat × Nat × Nat := @dite _ (∃ t, mPp r g t) (Classical.propDecidable _) (fun h => Classical.choose h) (fun _ => (0, 0, 0))
theorem mP_sp {r : Nat → Bool} {g : Nat} {lab : Nat → Int} (hl : ∀ q, q < 4096 → lab q = lc r q) {a b c : Int} (h : Meas r (CP r) 4096 lab g a b c) : mPp r g (mP r g) ∧ a = (((mP r g).1 : Nat) : Int) ∧ b = (((mP r g).2.1 : Nat) : Int) ∧ c = (((mP r g).2.2 : Nat) : Int) := by
  have h0 := h
  obtain ⟨e1, ⟨d, d1, d2, d3, d4⟩, e, f1, f2, f3, f4⟩ := h0
  have hM : Meas r (CP r) 4096 (lc r) g a b c := ⟨by rw [e1, pc_congr (fun q hq => by rw [hl q hq])], ⟨d, d1, d2, d3, d4⟩, e, f1, (hl e f1).symm.trans f2, fun q hq hq2 => f3 q hq ((hl q hq).trans hq2), f4⟩
  have hex : ∃ t, mPp r g t := ⟨(pc (fun q => decide (lab q = (g : Int))) 4096, d, e), pc_le _ _, d1, f1, by rw [← e1, ← d4, ← f4]; exact hM⟩
  have hsp : mPp r g (mP r g) := by
    unfold mP
    rw [dif_pos hex]
    exact Classical.choose_spec hex
  exact ⟨hsp, Meas_un (fun _ _ => rfl) hM hsp.2.2.2⟩
/-- the faults of areas: parts below n that are too small -/
noncomputable def arL (r : Nat → Bool) (R V n : Nat) (L : List ft) : List ft := fo (fun g L => if (mP r g).1 < V then L ++ [(R, (mP r g).2.1, (mP r g).2.2, (mP r g).1)] else L) n L
theorem arL_len (r : Nat → Bool) (R V n : Nat) (L : List ft) : (arL r R V n L).length ≤ L.length + n := by
  induction n with
  | zero => exact Nat.le_refl _
  | succ n ih =>
    show (if (mP r n).1 < V then arL r R V n L ++ [_] else arL r R V n L).length ≤ _
    by_cases h : (mP r n).1 < V
    · rw [if_pos h, List.length_append]
      show (arL r R V n L).length + 1 ≤ _
      omega
    · rw [if_neg h]
      omega
theorem w_holdArea {N : Nat → Nat} (hN : 2400 ≤ N 201) {S : ca} (hSN : S.2 = N) {r : Nat → Bool} {lab : Nat → Int} {cnt : Nat} (hg : gT S 110 r lab cnt) {L : List ft} (hL : faX S.1 L) (hlen : L.length < 900000) {R V : Nat} (hR : R < 16) (hV : V ≤ 4096) (hv : S.1.1 207 R = zI (V : Nat)) :
    wp (f_X8_holdArea N (zI (R : Nat)) S.1) (fun M' => faX M' (arL r R V (nP r) L) ∧ faXF S.1 M') := by
  obtain ⟨g1, g2, g3, g4, g5⟩ := hg
  obtain ⟨-, -, -, -, -, gc, gl⟩ := g1
  obtain ⟨u1, u2⟩ := Lab_un CP_sy CP_tr gl (Lab_lc r (64 * 64))
  have hcn : cnt = nP r := u1
  have hcle : nP r ≤ 4096 := pc_le _ _
  rw [hSN] at g2 g3 g4
  have key : ∀ (f k : Nat) (M1 : cm), k ≤ nP r → nP r - k < f → faX M1 (arL r R V k L) → faXF S.1 M1 → wp (f_X8_holdArea_L2 N (zI (R : Nat)) f (zI (k : Nat)) M1) (fun M' => faX M' (arL r R V (nP r) L) ∧ faXF S.1 M') := by
    intro f
    induction f with
    | zero => intro k M1 h1 h2; omega
    | succ f ih =>
      intro k M1 hk hf hI hF
      have hlk := arL_len r R V k L
      rw [f_X8_holdArea_L2, hF.2 110 1 (by omega) (by omega), gc, hcn]
      simp (disch := omega) only [zI_le]
      refine wp_if (fun h => ?_) (fun h => ?_)
      · have : k = nP r := by omega
        subst this
        exact wp_r ⟨hI, hF⟩
      obtain ⟨a, b, c, hm, e2, e3, e4⟩ := g5 k (by omega)
      obtain ⟨hsp, ea, eb, ec⟩ := mP_sp u2 hm
      obtain ⟨q1, q2, q3, -⟩ := hsp
      have e2' : M1.1 112 k = zI (((mP r k).1 : Nat) : Int) := (hF.2 112 k (by omega) (by omega)).trans (by rw [← ea]; exact e2)
      have e3' : M1.1 113 k = zI (((mP r k).2.1 : Nat) : Int) := (hF.2 113 k (by omega) (by omega)).trans (by rw [← eb]; exact e3)
      have e4' : M1.1 114 k = zI (((mP r k).2.2 : Nat) : Int) := (hF.2 114 k (by omega) (by omega)).trans (by rw [← ec]; exact e4)
      have hv' : M1.1 207 R = zI (V : Nat) := (hF.2 207 R (by omega) (by omega)).trans hv
      have hg2 : k < N (110 + 2) := by omega
      have hg3 : k < N (110 + 3) := by omega
      have hg4 : k < N (110 + 4) := by omega
      have w2 : ((k : Nat) : Int) < ((N 112 : Nat) : Int) := by have : k < N 112 := hg2; omega
      have w3 : ((k : Nat) : Int) < ((N 113 : Nat) : Int) := by have : k < N 113 := hg3; omega
      have w4 : ((k : Nat) : Int) < ((N 114 : Nat) : Int) := by have : k < N 114 := hg4; omega
      rw [nm_cz (by omega) w2 (by omega), nm_cz (by omega) (by omega) (by omega), zI_cl (by omega) (by omega), zI_cl (by omega) (by omega), Int.toNat_natCast, Int.toNat_natCast, hv', e2', e3', e4']
      simp (disch := omega) only [zI_le]
      refine wp_if (fun h2 => ?_) (fun h2 => ?_)
      · unfold f_X8_holdArea_J48
        rw [zI_inc]
        refine ih (k + 1) M1 (by omega) (by omega) ?_ hF
        show faX M1 (if (mP r k).1 < V then _ else arL r R V k L)
        rw [if_neg (by omega)]
        exact hI
      · rw [nm_cz (by omega) w3 (by omega), nm_cz (by omega) w4 (by omega), nm_cz (by omega) w2 (by omega)]
        refine wp_s1 _ (w_noteX hN hI (by omega) (t := (R, (mP r k).2.1, (mP r k).2.2, (mP r k).1)) ⟨hR, q2, q3, q1⟩) ?_
        rintro M2 ⟨z1, z2⟩
        unfold f_X8_holdArea_J48
        rw [zI_inc]
        refine ih (k + 1) M2 (by omega) (by omega) ?_ ⟨z2.1.trans hF.1, fun n j x y => (z2.2 n j x y).trans (hF.2 n j x y)⟩
        show faX M2 (if (mP r k).1 < V then arL r R V k L ++ [_] else _)
        rw [if_pos (by omega)]
        exact z1
  unfold f_X8_holdArea
  rw [zI_0]
  exact wp_s1 _ (key nm_F 0 S.1 (by omega) (by rw [nm_F_eq]; omega) hL ⟨rfl, fun _ _ _ _ => rfl⟩) (fun _ h => wp_r h)
theorem w_areas {I : nm_I} {D : Nat → Bool} (hO : oR I D) {L : List ft} (hL : faO I L) (hlen : L.length < 900000) {R V l : Nat} (hR : R < 16) (hV : V ≤ 4096) (hl : l < 16) (hv : I 39 R = zI (V : Nat)) (hly : I 37 R = zI (l : Nat)) :
    wp (f_X12_areas (zI (R : Nat)) I) (fun I' => faO I' (arL (rl D l) R V (nP (rl D l)) L) ∧ oR I' D ∧ ∀ n j, ¬ (28 ≤ n ∧ n ≤ 32) → ¬ (n = 0 ∧ (j = 33 ∨ j = 34 ∨ j = 46)) → ¬ (41 ≤ n ∧ n ≤ 46) → I' n j = I n j) := by
  obtain ⟨r, hr⟩ : ∃ r, r = rl D l := ⟨_, rfl⟩
  unfold f_X12_areas
  rw [nm_cz (by omega) (by omega) (by omega), nm_cz (by omega) (by omega) (by omega), zI_cl (by omega) (by omega), Int.toNat_natCast, hly, show (4096 : Int32) * zI (l : Nat) = zI ((4096 * l : Nat) : Int) by rw [show (4096 : Int32) = zI 4096 from rfl, zI_mul]; rfl]
  refine wp_s1 _ (w_findPieces hl hl hO) ?_
  rintro I1 ⟨t1, t2, t3⟩
  rw [rcm_self, ← hr] at t1
  rw [← hr]
  obtain ⟨-, t4, t5⟩ := t1
  have hcle : nP r ≤ 4096 := pc_le _ _
  have hL1 : faO I1 L := by
    obtain ⟨y1, y2, y3, y4⟩ := hL
    refine ⟨y1, (t3 0 46 (by omega) (by omega)).trans y2, fun i hi hi6 => ?_, fun q hq => ?_⟩
    · rw [t3 _ _ (by omega) (by omega), t3 _ _ (by omega) (by omega), t3 _ _ (by omega) (by omega), t3 _ _ (by omega) (by omega)]
      exact y3 i hi hi6
    · rw [t3 _ _ (by omega) (by omega), t3 _ _ (by omega) (by omega)]
      exact y4 q hq
  have key : ∀ (f k : Nat) (S : nm_I), k ≤ nP r → nP r - k < f → faO S (arL r R V k L) → faOF I1 S → wp (f_X12_areas_L22 (zI (R : Nat)) f (zI (k : Nat)) S) (fun I' => faO I' (arL r R V (nP r) L) ∧ faOF I1 I') := by
    intro f
    induction f with
    | zero => intro k M1 h1 h2; omega
    | succ f ih =>
      intro k S hk hf hI hF
      have hlk := arL_len r R V k L
      rw [f_X12_areas_L22, hF 0 33 (by omega) (by omega), t4, show pc (ldr r (CP r)) 4096 = nP r from rfl]
      simp (disch := omega) only [zI_le]
      refine wp_if (fun h => ?_) (fun h => ?_)
      · have : k = nP r := by omega
        subst this
        exact wp_r ⟨hI, hF⟩
      obtain ⟨a, b, c, hm, e2, e3, e4⟩ := t5 k (by show k < nP r; omega)
      obtain ⟨hsp, ea, eb, ec⟩ := mP_sp (fun _ _ => rfl) hm
      obtain ⟨q1, q2, q3, -⟩ := hsp
      have e2' : S 29 k = zI (((mP r k).1 : Nat) : Int) := (hF 29 k (by omega) (by omega)).trans (by rw [← ea]; exact e2)
      have e3' : S 31 k = zI (((mP r k).2.1 : Nat) : Int) := (hF 31 k (by omega) (by omega)).trans (by rw [← eb]; exact e3)
      have e4' : S 30 k = zI (((mP r k).2.2 : Nat) : Int) := (hF 30 k (by omega) (by omega)).trans (by rw [← ec]; exact e4)
      have hv' : S 39 R = zI (V : Nat) := (hF 39 R (by omega) (by omega)).trans ((t3 39 R (by omega) (by omega)).trans hv)
      rw [nm_cz (by omega) (by omega) (by omega), nm_cz (by omega) (by omega) (by omega), zI_cl (by omega) (by omega), zI_cl (by omega) (by omega), Int.toNat_natCast, Int.toNat_natCast, hv', e2', e3', e4']
      simp (disch := omega) only [zI_le]
      refine wp_if (fun h2 => ?_) (fun h2 => ?_)
      · unfold f_X12_areas_J68
        rw [zI_inc]
        refine ih (k + 1) S (by omega) (by omega) ?_ hF
        show faO S (if (mP r k).1 < V then _ else arL r R V k L)
        rw [if_neg (by omega)]
        exact hI
      · rw [nm_cz (by omega) (by omega) (by omega), nm_cz (by omega) (by omega) (by omega), nm_cz (by omega) (by omega) (by omega)]
        refine wp_s1 _ (w_noteO hI (by omega) (t := (R, (mP r k).2.1, (mP r k).2.2, (mP r k).1)) ⟨hR, q2, q3, q1⟩) ?_
        rintro S2 ⟨z1, z2⟩
        unfold f_X12_areas_J68
        rw [zI_inc]
        refine ih (k + 1) S2 (by omega) (by omega) ?_ (fun n j x y => (z2 n j x y).trans (hF n j x y))
        show faO S2 (if (mP r k).1 < V then arL r R V k L ++ [_] else _)
        rw [if_pos (by omega)]
        exact z1
  rw [zI_0]
  refine wp_s1 _ (key nm_F 0 I1 (by omega) (by rw [nm_F_eq]; omega) hL1 (fun _ _ _ _ => rfl)) ?_
  rintro I2 ⟨v1, v2⟩
  exact wp_r ⟨v1, oR_fr t2 (fun j => v2 20 j (by omega) (by omega)), fun n j a b d => (v2 n j (by omega) d).trans (t3 n j a (by omega))⟩
