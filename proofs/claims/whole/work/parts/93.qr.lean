/-! the rule of shares on both sides -/
abbrev shB (w : Nat) : Nat := 1024 * (w / 4) + 16 * (w % 4)
def shC (r : Nat → Bool) (w : Nat) : Nat := pc (fun i => r (shB w + 64 * (i / 16) + i % 16)) 256
def shL (r : Nat → Bool) (R V n : Nat) (L : List ft) : List ft := fo (fun w L => if shC r w < V then L ++ [(R, shB w, shB w + 975, shC r w)] else L) n L
theorem shL_len (r : Nat → Bool) (R V n : Nat) (L : List ft) : (shL r R V n L).length ≤ L.length + n := by
  induction n with
  | zero => exact Nat.le_refl _
  | succ n ih =>
    show (if shC r n < V then shL r R V n L ++ [_] else shL r R V n L).length ≤ _
    by_cases h : shC r n < V
    · rw [if_pos h, List.length_append]
      show (shL r R V n L).length + 1 ≤ _
      omega
    · rw [if_neg h]
      omega
theorem shC_le (r : Nat → Bool) (w : Nat) : shC r w ≤ 256 := pc_le _ _
theorem w_shareO {I : nm_I} {D : Nat → Bool} (hO : oR I D) {R l w : Nat} (hR : R < 16) (hl : l < 16) (hw : w < 16) (hly : I 37 R = zI (l : Nat)) :
    wp (f_X12_shares_L31 (zI (R : Nat)) (zI ((shB w : Nat) : Int)) I nm_F 0 0) (fun y => y = zI ((shC (rl D l) w : Nat) : Int)) := by
  obtain ⟨F, hF⟩ : ∃ F : Nat → Bool, F = fun i => rl D l (shB w + 64 * (i / 16) + i % 16) := ⟨_, rfl⟩
  have hC : shC (rl D l) w = pc F 256 := by rw [hF]; rfl
  have hB0 : shB w = 1024 * (w / 4) + 16 * (w % 4) := rfl
  rw [hC]
  have key : ∀ (f i : Nat), i ≤ 256 → 256 - i < f → wp (f_X12_shares_L31 (zI (R : Nat)) (zI ((shB w : Nat) : Int)) I f (zI ((pc F i : Nat) : Int)) (zI (i : Nat))) (fun y => y = zI ((pc F 256 : Nat) : Int)) := by
    intro f
    induction f with
    | zero => intro i h1 h2; omega
    | succ f ih =>
      intro i hi hf
      rw [f_X12_shares_L31, show (256 : Int32) = zI 256 from rfl]
      simp (disch := omega) only [zI_le]
      refine wp_if (fun h => ?_) (fun h => ?_)
      · have : i = 256 := by omega
        subst this
        exact wp_r rfl
      rw [nm_cz (by omega) (by omega) (by omega), zI_cl (by omega) (by omega), Int.toNat_natCast, hly, show (16 : Int32) = zI 16 from rfl, md (by omega) (by omega) (by omega) (by omega), zI_div (by omega) (by omega) (by omega) (by omega), show (64 : Int32) = zI 64 from rfl, show (4096 : Int32) = zI 4096 from rfl, zI_mul, zI_mul, zI_add, zI_add, zI_add, nm_cz (by omega) (by omega) (by omega), zI_cl (by omega) (by omega), show (4096 * ((l : Nat) : Int) + ((shB w : Nat) : Int) + ((i : Nat) : Int) / 16 * 64 + ((i : Nat) : Int) % 16).toNat = 4096 * l + (shB w + 64 * (i / 16) + i % 16) by omega, hO _ (by omega)]
      have hFi : F i = D (4096 * l + (shB w + 64 * (i / 16) + i % 16)) := by
        rw [hF]
        show rl D l _ = _
        unfold rl
        rw [decide_eq_true (by omega), Bool.true_and]
      rw [← hFi]
      have hps := pc_s F i
      unfold f_X12_shares_J81
      refine wp_if (fun h0 => ?_) (fun h0 => ?_)
      · have hFk : F i = false := by
          cases hFk : F i with
          | false => rfl
          | true =>
            rw [hFk] at h0
            exact absurd h0 (by decide)
        rw [hFk] at hps
        have := ih (i + 1) (by omega) (by omega)
        rw [hps] at this
        rw [zI_0, zI_add, nm_l_eq, zI_inc]
        exact this
      · have hFk : F i = true := by
          cases hFk : F i with
          | true => rfl
          | false =>
            rw [hFk] at h0
            exact absurd rfl h0
        rw [hFk] at hps
        have := ih (i + 1) (by omega) (by omega)
        rw [hps] at this
        rw [zI_inc, nm_l_eq, zI_inc]
        exact this
  rw [zI_0]
  exact key nm_F 0 (by omega) (by rw [nm_F_eq]; omega)
theorem w_shares {I : nm_I} {D : Nat → Bool} (hO : oR I D) {L : List ft} (hL : faO I L) (hlen : L.length < 900000) {R V l : Nat} (hR : R < 16) (hV : V ≤ 4096) (hl : l < 16) (hv : I 39 R = zI (V : Nat)) (hly : I 37 R = zI (l : Nat)) :
    wp (f_X12_shares (zI (R : Nat)) I) (fun I' => faO I' (shL (rl D l) R V 16 L) ∧ faOF I I') := by
  obtain ⟨r, hr⟩ : ∃ r, r = rl D l := ⟨_, rfl⟩
  rw [← hr]
  have key : ∀ (f k : Nat) (S : nm_I), k ≤ 16 → 16 - k < f → faO S (shL r R V k L) → faOF I S → wp (f_X12_shares_L2 (zI (R : Nat)) f (zI (k : Nat)) S) (fun I' => faO I' (shL r R V 16 L) ∧ faOF I I') := by
    intro f
    induction f with
    | zero => intro k M1 h1 h2; omega
    | succ f ih =>
      intro k S hk hf hI hF
      have hlk := shL_len r R V k L
      have hcl := shC_le r k
      have hB0 : shB k = 1024 * (k / 4) + 16 * (k % 4) := rfl
      rw [f_X12_shares_L2, show (16 : Int32) = zI 16 from rfl]
      simp (disch := omega) only [zI_le]
      refine wp_if (fun h => ?_) (fun h => ?_)
      · have : k = 16 := by omega
        subst this
        exact wp_r ⟨hI, hF⟩
      rw [show (4 : Int32) = zI 4 from rfl, md (by omega) (by omega) (by omega) (by omega), zI_div (by omega) (by omega) (by omega) (by omega), show (64 : Int32) = zI 64 from rfl, zI_mul, zI_mul, zI_mul, zI_add, nm_l_eq, show ((k : Nat) : Int) / 4 * 16 * 64 + ((k : Nat) : Int) % 4 * 16 = ((shB k : Nat) : Int) by omega]
      refine wp_s1 _ (w_shareO (oR_fr hO (fun j => hF 20 j (by omega) (by omega))) hR hl (by omega) ((hF 37 R (by omega) (by omega)).trans hly)) ?_
      rintro _ rfl
      rw [← hr]
      have hv' : S 39 R = zI (V : Nat) := (hF 39 R (by omega) (by omega)).trans hv
      rw [nm_cz (by omega) (by omega) (by omega), zI_cl (by omega) (by omega), Int.toNat_natCast, hv']
      simp (disch := omega) only [zI_le]
      refine wp_if (fun h2 => ?_) (fun h2 => ?_)
      · unfold f_X12_shares_J117
        rw [zI_inc]
        refine ih (k + 1) S (by omega) (by omega) ?_ hF
        show faO S (if shC r k < V then _ else shL r R V k L)
        rw [if_neg (by omega)]
        exact hI
      · have hadd : zI ((shB k : Nat) : Int) + (960 : Int32) + (15 : Int32) = zI ((shB k + 975 : Nat) : Int) := by
          rw [show (960 : Int32) = zI 960 from rfl, show (15 : Int32) = zI 15 from rfl, zI_add, zI_add]
          exact congrArg zI (by omega)
        rw [hadd]
        refine wp_s1 _ (w_noteO hI (by omega) (t := (R, shB k, shB k + 975, shC r k)) ⟨hR, (by show shB k < 4096; omega), (by show shB k + 975 < 4096; omega), (by show shC r k ≤ 4096; omega)⟩) ?_
        rintro S2 ⟨z1, z2⟩
        unfold f_X12_shares_J117
        rw [zI_inc]
        refine ih (k + 1) S2 (by omega) (by omega) ?_ (fun n j x y => (z2 n j x y).trans (hF n j x y))
        show faO S2 (if shC r k < V then shL r R V k L ++ [_] else _)
        rw [if_pos (by omega)]
        exact z1
  unfold f_X12_shares
  rw [zI_0]
  exact wp_s1 _ (key nm_F 0 I (by omega) (by rw [nm_F_eq]; omega) hL (fun _ _ _ _ => rfl)) (fun _ h => wp_r h)
