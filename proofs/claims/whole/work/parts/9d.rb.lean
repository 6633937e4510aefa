/-! one line, scanned by the reference -/
set_option maxHeartbeats 2000000 in
theorem w_line {I : nm_I} {D : Nat → Bool} (hO : oR I D) {R V k l c : Nat} (hR : R < 16) (hV : V ≤ 4096) (hk : k < 2) (hl : l < 16) (hc : c < 128) (hv : I 39 R = zI (V : Nat)) {L : List ft} (hL : faO I L) (hlen : L.length < 800000) :
    wp (f_X12_lines_L31 (zI (R : Nat)) (zI (k : Nat)) (zI ((4096 * l : Nat) : Int)) (zI (c : Nat)) nm_F (-1) 0 0 I) (fun I' => faO I' (lnL (wk k (fun j => rl D l (alg c j))) (alg c) R V 64 L) ∧ faOF I I') := by
  obtain ⟨g, hg⟩ : ∃ g : Nat → Bool, g = fun j => rl D l (alg c j) := ⟨_, rfl⟩
  rw [← hg]
  have hgj : ∀ S : nm_I, faOF I S → ∀ j, j < 64 → S 20 (4096 * l + alg c j) = if g j = true then 1 else 0 := fun S hF j hj => by
    have ha := alg_lt hc hj
    rw [hF _ _ (by omega) (by omega), hO _ (by omega), hg]
    show _ = if rl D l (alg c j) = true then 1 else 0
    unfold rl
    rw [decide_eq_true ha, Bool.true_and]
  have hlb : ∀ {j : Nat} {x5 : Int} {Ls : List ft}, lst k g (alg c) R V L j x5 Ls → j ≤ 65 → (-1 ≤ x5 ∧ x5 ≤ 64 ∧ (0 ≤ x5 → x5 < j)) ∧ Ls.length < 900000 := by
    intro j x5 Ls h hj
    rcases h with ⟨h1, h2, -⟩ | ⟨s, h1, h2, h3, h4, -⟩
    · have := lnL_len (wk k g) (alg c) R V (min j 64) L
      rw [← h2] at this
      exact ⟨⟨by omega, by omega, by omega⟩, by omega⟩
    · have := lnL_len (wk k g) (alg c) R V s L
      rw [← h4] at this
      exact ⟨⟨by omega, by omega, by omega⟩, by omega⟩
  have key : ∀ (f j : Nat) (x5 : Int) (x6 : Int32) (S : nm_I) (Ls : List ft), j ≤ 65 → 65 - j < f → lst k g (alg c) R V L j x5 Ls → ((x6 = 0 ∧ ∀ i, i < j → i < 64 → g i = false) ∨ (x6 = 1 ∧ ∃ i, i < j ∧ i < 64 ∧ g i = true)) → faO S Ls → faOF I S → wp (f_X12_lines_L31 (zI (R : Nat)) (zI (k : Nat)) (zI ((4096 * l : Nat) : Int)) (zI (c : Nat)) f (zI x5) x6 (zI (j : Nat)) S) (fun I' => faO I' (lnL (wk k g) (alg c) R V 64 L) ∧ faOF I I') := by
    intro f
    induction f with
    | zero => intro j x5 x6 S Ls h1 h2; omega
    | succ f ih =>
      intro j x5 x6 S Ls hj hf hst h6 hI hF
      obtain ⟨⟨b1, b2, b3⟩, b4⟩ := hlb hst hj
      rw [f_X12_lines_L31, show (64 : Int32) = zI 64 from rfl]
      simp (disch := omega) only [zI_lt, zI_le]
      refine wp_if (fun h => wp_r ?_) (fun h => ?_)
      · have : j = 65 := by omega
        subst this
        rw [← lst_end hst]
        exact ⟨hI, hF⟩
      have hj4 : j ≤ 64 := by omega
      -- what was on before, one place on
      have h160 : ∀ (y5 : Int) (S' : nm_I) (Ls' : List ft), lst k g (alg c) R V L (j + 1) y5 Ls' → faO S' Ls' → faOF I S' → wp (f_X12_lines_J160 (zI ((4096 * l : Nat) : Int)) (zI (c : Nat)) (zI y5) x6 (zI (j : Nat)) S' (f_X12_lines_L31 (zI (R : Nat)) (zI (k : Nat)) (zI ((4096 * l : Nat) : Int)) (zI (c : Nat)) f)) (fun I' => faO I' (lnL (wk k g) (alg c) R V 64 L) ∧ faOF I I') := by
        intro y5 S' Ls' hst' hI' hF'
        have hgo : ∀ z6 : Int32, ((z6 = 0 ∧ ∀ i, i < j + 1 → i < 64 → g i = false) ∨ (z6 = 1 ∧ ∃ i, i < j + 1 ∧ i < 64 ∧ g i = true)) → wp (f_X12_lines_L31 (zI (R : Nat)) (zI (k : Nat)) (zI ((4096 * l : Nat) : Int)) (zI (c : Nat)) f (zI y5) z6 (zI (j : Nat) + 1) S') (fun I' => faO I' (lnL (wk k g) (alg c) R V 64 L) ∧ faOF I I') := fun z6 h => by
          rw [zI_inc]
          exact ih (j + 1) y5 z6 S' Ls' (by omega) (by omega) hst' h hI' hF'
        unfold f_X12_lines_J160 f_X12_lines_J193 f_X12_lines_J189 f_X12_lines_J194
        rw [show (64 : Int32) = zI 64 from rfl]
        simp (disch := omega) only [zI_le]
        rcases h6 with ⟨e6, a6⟩ | ⟨e6, i, i1, i2, i3⟩
        · rw [if_pos e6]
          refine wp_if (fun h9 => hgo 0 (Or.inl ⟨rfl, fun i h1 h2 => a6 i (by omega) h2⟩)) (fun h9 => ?_)
          have ha := alg_lt hc (show j < 64 by omega)
          rw [along_z hc hj4, zI_add, nm_cz (by omega) (by omega) (by omega), zI_cl (by omega) (by omega), show (((4096 * l : Nat) : Int) + ((alg c j : Nat) : Int)).toNat = 4096 * l + alg c j by omega, hgj S' hF' j (by omega)]
          refine wp_if (fun h8 => hgo 0 (Or.inl ⟨rfl, fun i h1 h2 => ?_⟩)) (fun h8 => hgo 1 (Or.inr ⟨rfl, j, by omega, by omega, ?_⟩))
          · by_cases hij : i = j
            · rw [hij]
              exact (ite_z _).mp h8
            · exact a6 i (by omega) h2
          · cases hgv : g j with
            | true => rfl
            | false => exact absurd ((ite_z _).mpr hgv) h8
        · rw [if_neg (by rw [e6]; decide)]
          exact hgo 1 (Or.inr ⟨rfl, i, by omega, i2, i3⟩)
      have hv' : S 39 R = zI (V : Nat) := (hF 39 R (by omega) (by omega)).trans hv
      -- a run ends, or none was open
      have h107 : ∀ y5 : Int, (-1 ≤ y5 ∧ y5 ≤ 64 ∧ (0 ≤ y5 → y5 < j)) → lst k g (alg c) R V L (j + 1) (-1) (if 0 ≤ y5 ∧ (j : Int) - y5 < V then Ls ++ [(R, alg c y5.toNat, alg c (j - 1), j - y5.toNat)] else Ls) → wp (f_X12_lines_J107 (zI (R : Nat)) (zI ((4096 * l : Nat) : Int)) (zI (c : Nat)) (zI y5) x6 (zI (j : Nat)) 0 S (f_X12_lines_L31 (zI (R : Nat)) (zI (k : Nat)) (zI ((4096 * l : Nat) : Int)) (zI (c : Nat)) f)) (fun I' => faO I' (lnL (wk k g) (alg c) R V 64 L) ∧ faOF I I') := by
        rintro y5 ⟨c1, c2, c3⟩ hst'
        unfold f_X12_lines_J107
        rw [if_pos rfl, zI_0]
        simp (disch := omega) only [zI_lt]
        refine wp_if (fun h9 => ?_) (fun h9 => ?_)
        · rw [if_neg (by omega)] at hst'
          have : y5 = -1 := by omega
          subst this
          exact h160 (-1) S Ls hst' hI hF
        rw [nm_cz (by omega) (by omega) (by omega), zI_cl (by omega) (by omega), Int.toNat_natCast, hv', zI_sub]
        simp (disch := omega) only [zI_le]
        unfold f_X12_lines_J157
        rw [show (-1 : Int32) = zI (-1) from rfl]
        refine wp_if (fun h8 => ?_) (fun h8 => ?_)
        · rw [if_neg (by omega)] at hst'
          exact h160 (-1) S Ls hst' hI hF
        rw [if_pos (by omega)] at hst'
        obtain ⟨s, rfl⟩ := Int.eq_ofNat_of_zero_le (show 0 ≤ y5 by omega)
        rw [Int.toNat_natCast] at hst'
        rw [along_z hc (by omega), show zI (j : Nat) - (1 : Int32) = zI ((j - 1 : Nat) : Int) by
          rw [show (1 : Int32) = zI 1 from rfl, zI_sub]
          exact congrArg zI (by omega), along_z hc (by omega), show ((j : Nat) : Int) - ((s : Nat) : Int) = ((j - s : Nat) : Int) by omega]
        refine wp_s1 _ (w_noteO hI (by omega) (t := (R, alg c s, alg c (j - 1), j - s)) ⟨hR, alg_lt hc (by omega), alg_lt hc (by omega), (by show j - s ≤ 4096; omega)⟩) ?_
        rintro S2 ⟨z1, z2⟩
        exact h160 (-1) S2 _ hst' z1 (fun n i a b => (z2 n i a b).trans (hF n i a b))
      have h1t : ∀ y5 : Int, lst k g (alg c) R V L (j + 1) y5 Ls → wp (f_X12_lines_J107 (zI (R : Nat)) (zI ((4096 * l : Nat) : Int)) (zI (c : Nat)) (zI y5) x6 (zI (j : Nat)) 1 S (f_X12_lines_L31 (zI (R : Nat)) (zI (k : Nat)) (zI ((4096 * l : Nat) : Int)) (zI (c : Nat)) f)) (fun I' => faO I' (lnL (wk k g) (alg c) R V 64 L) ∧ faOF I I') := by
        intro y5 hst'
        unfold f_X12_lines_J107
        rw [if_neg (by decide)]
        exact h160 y5 S Ls hst' hI hF
      have hk2 : k = 0 ∨ k = 1 := by omega
      -- off and on, told of the square
      have hsq : j < 64 → nm_c (zI ((4096 * l : Nat) : Int) + f_X12_along (zI (c : Nat)) (zI (j : Nat))) 65536 (if S 20 (zI ((4096 * l : Nat) : Int) + f_X12_along (zI (c : Nat)) (zI (j : Nat))).toNatClampNeg = zI (k : Nat) then f_X12_lines_J67 (zI (R : Nat)) (zI (k : Nat)) (zI ((4096 * l : Nat) : Int)) (zI (c : Nat)) (zI x5) x6 (zI (j : Nat)) S (f_X12_lines_L31 (zI (R : Nat)) (zI (k : Nat)) (zI ((4096 * l : Nat) : Int)) (zI (c : Nat)) f) else f_X12_lines_J68 (zI (R : Nat)) (zI (k : Nat)) (zI ((4096 * l : Nat) : Int)) (zI (c : Nat)) (zI x5) x6 (zI (j : Nat)) 1 S (f_X12_lines_L31 (zI (R : Nat)) (zI (k : Nat)) (zI ((4096 * l : Nat) : Int)) (zI (c : Nat)) f)) = (if (if g j = true then (1 : Int32) else 0) = zI (k : Nat) then f_X12_lines_J67 (zI (R : Nat)) (zI (k : Nat)) (zI ((4096 * l : Nat) : Int)) (zI (c : Nat)) (zI x5) x6 (zI (j : Nat)) S (f_X12_lines_L31 (zI (R : Nat)) (zI (k : Nat)) (zI ((4096 * l : Nat) : Int)) (zI (c : Nat)) f) else f_X12_lines_J68 (zI (R : Nat)) (zI (k : Nat)) (zI ((4096 * l : Nat) : Int)) (zI (c : Nat)) (zI x5) x6 (zI (j : Nat)) 1 S (f_X12_lines_L31 (zI (R : Nat)) (zI (k : Nat)) (zI ((4096 * l : Nat) : Int)) (zI (c : Nat)) f)) := by
        intro hj6
        have ha := alg_lt hc hj6
        rw [along_z hc hj4, zI_add, nm_cz (by omega) (by omega) (by omega), zI_cl (by omega) (by omega), show (((4096 * l : Nat) : Int) + ((alg c j : Nat) : Int)).toNat = 4096 * l + alg c j by omega, hgj S hF j hj6]
      rcases hk2 with hk0 | hk1
      · subst hk0
        have ht0 : (j < 64 → g j = false) → wp (f_X12_lines_J67 (zI (R : Nat)) (zI ((0 : Nat) : Int)) (zI ((4096 * l : Nat) : Int)) (zI (c : Nat)) (zI x5) x6 (zI (j : Nat)) S (f_X12_lines_L31 (zI (R : Nat)) (zI ((0 : Nat) : Int)) (zI ((4096 * l : Nat) : Int)) (zI (c : Nat)) f)) (fun I' => faO I' (lnL (wk 0 g) (alg c) R V 64 L) ∧ faOF I I') := by
          intro hgf
          unfold f_X12_lines_J67 f_X12_lines_J68 f_X12_lines_J84
          rw [if_pos (show zI ((0 : Nat) : Int) = 0 from rfl), if_pos rfl]
          exact h107 x5 ⟨b1, b2, b3⟩ (s0_off hj4 hgf hst)
        refine wp_if (fun h9 => ht0 (fun h => by omega)) (fun h9 => ?_)
        rw [hsq (by omega)]
        refine wp_if (fun h8 => ht0 (fun _ => (ite_z _).mp h8)) (fun h8 => ?_)
        have hgt : g j = true := by
          cases hgv : g j with
          | true => rfl
          | false => exact absurd ((ite_z _).mpr hgv) h8
        have hon := s0_on (by omega) hgt hst
        unfold f_X12_lines_J68 f_X12_lines_J84
        rw [if_pos (show zI ((0 : Nat) : Int) = 0 from rfl), if_neg (show ¬ (1 : Int32) = 0 by decide)]
        refine wp_if (fun h7 => ?_) (fun h7 => ?_)
        · rw [zI_0, zI_le (by omega) (by omega) (by omega) (by omega)] at h7
          rw [if_neg (by omega)] at hon
          exact h1t x5 hon
        · rw [zI_0, zI_le (by omega) (by omega) (by omega) (by omega)] at h7
          rw [if_pos (by omega)] at hon
          rw [if_pos (show zI ((0 : Nat) : Int) = 0 from rfl)]
          exact h1t j hon
      · subst hk1
        refine wp_if (fun h9 => ?_) (fun h9 => ?_)
        · have hj64 : j = 64 := by omega
          subst hj64
          unfold f_X12_lines_J67 f_X12_lines_J68 f_X12_lines_J84
          rw [if_neg (show ¬ zI ((1 : Nat) : Int) = 0 by decide), if_pos (show zI ((64 : Nat) : Int) = (64 : Int32) from rfl), if_pos (show (0 : Int32) = 0 from rfl), show (-1 : Int32) = zI (-1) from rfl]
          refine h107 (-1) ⟨by omega, by omega, by omega⟩ ?_
          rw [if_neg (by omega)]
          exact s1_end hst
        have hj6 : j < 64 := by omega
        have hn64 : ¬ zI (j : Nat) = zI 64 := by
          rw [zI_eq (by omega) (by omega) (by omega) (by omega)]
          omega
        rw [hsq hj6]
        refine wp_if (fun h8 => ?_) (fun h8 => ?_)
        · have hgt : g j = true := by
            cases hgv : g j with
            | true => rfl
            | false =>
              rw [hgv] at h8
              exact absurd h8 (by decide)
          unfold f_X12_lines_J67 f_X12_lines_J68 f_X12_lines_J84
          rw [if_neg (show ¬ zI ((1 : Nat) : Int) = 0 by decide), if_neg (show ¬ zI (j : Nat) = (64 : Int32) from hn64), if_pos rfl]
          exact h107 x5 ⟨b1, b2, b3⟩ (s1_on hj6 hgt hst)
        · have hgf : g j = false := by
            cases hgv : g j with
            | false => rfl
            | true =>
              rw [hgv] at h8
              exact absurd rfl h8
          have hoff := s1_off hj6 hgf hst
          unfold f_X12_lines_J68 f_X12_lines_J84
          rw [if_neg (show ¬ zI ((1 : Nat) : Int) = 0 by decide), if_neg (show ¬ zI (j : Nat) = (64 : Int32) from hn64), if_neg (show ¬ (1 : Int32) = 0 by decide)]
          refine wp_if (fun h7 => ?_) (fun h7 => ?_)
          · rw [zI_0, zI_le (by omega) (by omega) (by omega) (by omega)] at h7
            rw [if_neg (by omega)] at hoff
            exact h1t x5 hoff
          · rw [zI_0, zI_le (by omega) (by omega) (by omega) (by omega)] at h7
            rw [if_neg (show ¬ zI ((1 : Nat) : Int) = 0 by decide)]
            refine wp_if (fun h5 => ?_) (fun h5 => ?_)
            · rcases h6 with ⟨-, a6⟩ | ⟨e6, -⟩
              · rw [if_neg (fun q => q.2 (fun i hi => a6 i hi (by omega)))] at hoff
                exact h1t x5 hoff
              · rw [e6] at h5
                exact absurd h5 (by decide)
            · rcases h6 with ⟨e6, -⟩ | ⟨-, i, i1, i2, i3⟩
              · exact absurd e6 h5
              · rw [if_pos ⟨by omega, fun q => by rw [q i i1] at i3; exact absurd i3 (by decide)⟩] at hoff
                exact h1t j hoff
  rw [show (-1 : Int32) = zI (-1) from rfl, zI_0]
  exact key nm_F 0 (-1) (zI 0) I L (by omega) (by rw [nm_F_eq]; omega) (lst_0 k) (Or.inl ⟨rfl, fun i h => absurd h (Nat.not_lt_zero _)⟩) hL (fun _ _ _ _ => rfl)
