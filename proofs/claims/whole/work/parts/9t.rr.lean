/-! THE WISH, by the program: match -/
noncomputable def cplA (dn : Nat) (dev : dvT) (n : Nat) : Bool := bP (dn = n ∧ ∀ d, d < n → 0 ≤ (dev d).2.1 ∧ 0 ≤ (dev d).2.2.2)
/-- what same() comes to -/
noncomputable def smR (dn : Nat) (dev : dvT) (ws : wsT) (n : Nat) : rsT := if cplA dn dev n = true then srT dev ws n n [] 0 else (0, [], 0)
/-- devices' nets are below nets, or none; a second end goes with a first one -/
def dvB (dev : dvT) (dn nets : Nat) : Prop := nets ≤ 65536 ∧ ∀ d, d < dn → (dev d).1 ≤ 4096 ∧ (-1 ≤ (dev d).2.1 ∧ (dev d).2.1 < nets) ∧ (-1 ≤ (dev d).2.2.1 ∧ (dev d).2.2.1 < nets) ∧ (-1 ≤ (dev d).2.2.2 ∧ (dev d).2.2.2 < nets) ∧ (0 ≤ (dev d).2.2.2 → 0 ≤ (dev d).2.2.1)
theorem whA_of {dev : dvT} {dn n nets : Nat} (hb : dvB dev dn nets) (h : cplA dn dev n = true) : dn = n ∧ whA dev n nets := by
  obtain ⟨h1, h2⟩ := bP_t.mp h
  refine ⟨h1, hb.1, fun d hd => ?_⟩
  obtain ⟨a, b⟩ := h2 d hd
  obtain ⟨c1, c2, c3, c4, c5⟩ := hb.2 d (by omega)
  have := c5 b
  exact ⟨c1, ⟨a, c2.2⟩, ⟨this, c3.2⟩, b, c4.2⟩
theorem smR_good {dev : dvT} {dn n : Nat} {ws : wsT} : (smR dn dev ws n).1 ≤ 2 ∧ ((smR dn dev ws n).1 = 1 → cplA dn dev n = true ∧ gLs dev ws n (smR dn dev ws n).2.1 ∧ (smR dn dev ws n).2.1.length = n) ∧ (smR dn dev ws n).2.2 ≤ 5000 := by
  unfold smR
  by_cases h : cplA dn dev n = true
  · rw [if_pos h]
    obtain ⟨a, b, c⟩ := srT_good (dev := dev) (ws := ws) (n := n) n [] 0 (by show 0 + n = n; omega) trivial
    exact ⟨a, fun q => ⟨h, b q⟩, (c (by omega)).1⟩
  · rw [if_neg h]
    exact ⟨by decide, fun q => absurd q (by decide), by decide⟩
def maF (M M' : cm) : Prop := M'.2 = M.2 ∧ ∀ m k, m ≠ 403 → m ≠ 404 → ¬ (m = 400 ∧ (k = 1 ∨ k = 2 ∨ k = 3 ∨ k = 8)) → M'.1 m k = M.1 m k
section
variable {N : Nat → Nat} {dev : dvT} {ws : wsT} {dn n nets : Nat}
set_option maxHeartbeats 1000000 in
theorem w_match (K : Nat → Nat) (hN : N 404 = 24) (hwo : wsok ws n) (hb : dvB dev dn nets) (hdn : dn ≤ 4096) {M : cm} (hws : wsX M ws n) (hde : deX N M dev dn) (h3 : M.1 300 3 = zI (dn : Nat)) :
    wp (f_X10_match N K M) (fun M' => M'.1 400 1 = zI (((smR dn dev ws n).2.2 : Nat) : Int) ∧ (M'.1 400 2 = if (smR dn dev ws n).1 = 2 then 1 else 0) ∧ (M'.1 400 3 = if (smR dn dev ws n).1 = 1 then 1 else 0) ∧ ((smR dn dev ws n).1 = 1 → pfX M' (pfA dev ws (smR dn dev ws n).2.1) ∧ ∀ j, j < n → M'.1 403 j = zI ((chA (smR dn dev ws n).2.1 j / 2 : Nat) : Int)) ∧ maF M M') := by
  have hn12 := hwo.1
  unfold f_X10_match
  rw [nm_l_eq, nm_l_eq, nm_l_eq, nm_l_eq, w_fillI (by omega), nm_s1_some]
  obtain ⟨Q, hQ⟩ : ∃ Q, Q = nm_up (nm_up (nm_up (nm_up M.1 400 1 0) 400 2 0) 400 3 0) 400 8 0 := ⟨_, rfl⟩
  rw [← hQ]
  have q1 : ∀ m k, ¬ (m = 400 ∧ (k = 1 ∨ k = 2 ∨ k = 3 ∨ k = 8)) → Q m k = M.1 m k := fun m k b => by
    rw [hQ, nm_up_ap, if_neg (by omega), nm_up_ap, if_neg (by omega), nm_up_ap, if_neg (by omega), nm_up_ap, if_neg (by omega)]
  have q2 : Q 400 1 = 0 ∧ Q 400 2 = 0 ∧ Q 400 3 = 0 ∧ Q 400 8 = 0 := by
    rw [hQ]
    refine ⟨?_, ?_, ?_, ?_⟩
    · rw [nm_up_ap, if_neg (by omega), nm_up_ap, if_neg (by omega), nm_up_ap, if_neg (by omega), nm_up_ap, if_pos ⟨rfl, rfl⟩]
    · rw [nm_up_ap, if_neg (by omega), nm_up_ap, if_neg (by omega), nm_up_ap, if_pos ⟨rfl, rfl⟩]
    · rw [nm_up_ap, if_neg (by omega), nm_up_ap, if_pos ⟨rfl, rfl⟩]
    · rw [nm_up_ap, if_pos ⟨rfl, rfl⟩]
  clear hQ
  obtain ⟨W, hW⟩ : ∃ W, W = fun j => if j < N 404 then (-1 : Int32) else Q 404 j := ⟨_, rfl⟩
  rw [← hW]
  have w1 : ∀ j, j < 24 → W j = -1 := fun j hj => by
    rw [hW, hN]
    exact if_pos hj
  clear hW
  obtain ⟨Z, hZ⟩ : ∃ Z : cm, Z = (va_up Q 404 W, M.2) := ⟨_, rfl⟩
  rw [← hZ]
  have z0 : ∀ m, m ≠ 404 → Z.1 m = Q m := fun m h => by
    rw [hZ]
    exact va_up_ne _ _ h
  have z1 : ∀ m k, m ≠ 404 → ¬ (m = 400 ∧ (k = 1 ∨ k = 2 ∨ k = 3 ∨ k = 8)) → Z.1 m k = M.1 m k := fun m k a b => by
    rw [z0 m a]
    exact q1 m k b
  have z2 : Z.1 400 1 = 0 ∧ Z.1 400 2 = 0 ∧ Z.1 400 3 = 0 ∧ Z.1 400 8 = 0 := by
    rw [z0 400 (by decide)]
    exact q2
  have z3 : ∀ j, j < 24 → Z.1 404 j = -1 := fun j hj => by
    rw [hZ]
    show va_up Q 404 W 404 j = _
    rw [va_up_self]
    exact w1 j hj
  have z4 : Z.2 = M.2 := by rw [hZ]
  clear hZ
  have hmF : maF M Z := ⟨z4, fun m k a b c => z1 m k b c⟩
  -- no pairing
  have hno : cplA dn dev n = false → wp (some Z) (fun M' => M'.1 400 1 = zI (((smR dn dev ws n).2.2 : Nat) : Int) ∧ (M'.1 400 2 = if (smR dn dev ws n).1 = 2 then 1 else 0) ∧ (M'.1 400 3 = if (smR dn dev ws n).1 = 1 then 1 else 0) ∧ ((smR dn dev ws n).1 = 1 → pfX M' (pfA dev ws (smR dn dev ws n).2.1) ∧ ∀ j, j < n → M'.1 403 j = zI ((chA (smR dn dev ws n).2.1 j / 2 : Nat) : Int)) ∧ maF M M') := by
    intro h
    have e : smR dn dev ws n = (0, [], 0) := by
      unfold smR
      rw [h, if_neg (by decide)]
    rw [e]
    exact wp_r ⟨z2.1, z2.2.1, z2.2.2.1, fun h => absurd h (by decide), hmF⟩
  rw [z1 300 3 (by omega) (by omega), h3, z1 400 0 (by omega) (by omega), hws.1]
  simp (disch := omega) only [zI_eq]
  refine wp_if (fun hdn9 => ?_) (fun hdn9 => hno (bP_f.mpr (fun h => hdn9 (by omega))))
  have hdne : dn = n := by omega
  subst hdne
  have key : ∀ (f k : Nat) (Kx : Unit → Option cm), k ≤ dn → dn - k < f → (∀ d, d < k → 0 ≤ (dev d).2.1 ∧ 0 ≤ (dev d).2.2.2) → (cplA dn dev dn = true → wp (Kx ()) (fun M' => M'.1 400 1 = zI (((smR dn dev ws dn).2.2 : Nat) : Int) ∧ (M'.1 400 2 = if (smR dn dev ws dn).1 = 2 then 1 else 0) ∧ (M'.1 400 3 = if (smR dn dev ws dn).1 = 1 then 1 else 0) ∧ ((smR dn dev ws dn).1 = 1 → pfX M' (pfA dev ws (smR dn dev ws dn).2.1) ∧ ∀ j, j < dn → M'.1 403 j = zI ((chA (smR dn dev ws dn).2.1 j / 2 : Nat) : Int)) ∧ maF M M')) → wp (f_X10_match_L42 N K Z Kx f (zI (k : Nat))) (fun M' => M'.1 400 1 = zI (((smR dn dev ws dn).2.2 : Nat) : Int) ∧ (M'.1 400 2 = if (smR dn dev ws dn).1 = 2 then 1 else 0) ∧ (M'.1 400 3 = if (smR dn dev ws dn).1 = 1 then 1 else 0) ∧ ((smR dn dev ws dn).1 = 1 → pfX M' (pfA dev ws (smR dn dev ws dn).2.1) ∧ ∀ j, j < dn → M'.1 403 j = zI ((chA (smR dn dev ws dn).2.1 j / 2 : Nat) : Int)) ∧ maF M M') := by
    intro f
    induction f with
    | zero => intro k Kx h1 h2; omega
    | succ f ih =>
      intro k Kx hk hf hI hKx
      rw [f_X10_match_L42, z1 400 0 (by omega) (by omega), hws.1]
      simp (disch := omega) only [zI_le]
      refine wp_if (fun h => hKx (bP_t.mpr ⟨rfl, fun d hd => hI d (by omega)⟩)) (fun h => ?_)
      obtain ⟨u0, ⟨u1, u1'⟩, u2, ⟨u3, u3'⟩, -⟩ := hb.2 k (by omega)
      have hnt := hb.1
      obtain ⟨-, v1, -, v3⟩ := hde.2 k (by omega)
      obtain ⟨-, n2, -, n4⟩ := hde.1
      unfold f_X2_isWhole
      rw [nm_cz (by omega) (by omega) (by omega), nm_cz (by omega) (by omega) (by omega), zI_cl (by omega) (by omega), Int.toNat_natCast, z1 302 k (by omega) (by omega), z1 304 k (by omega) (by omega), v1, v3, show (-1 : Int32) = zI (-1) from rfl]
      simp (disch := omega) only [zI_eq]
      have hbad : ¬ (0 ≤ (dev k).2.1 ∧ 0 ≤ (dev k).2.2.2) → wp (nm_s1 (some (0 : Int32)) fun r9 => if r9 = 0 then some Z else f_X10_match_L42 N K Z Kx f (zI ↑k + 1)) (fun M' => M'.1 400 1 = zI (((smR dn dev ws dn).2.2 : Nat) : Int) ∧ (M'.1 400 2 = if (smR dn dev ws dn).1 = 2 then 1 else 0) ∧ (M'.1 400 3 = if (smR dn dev ws dn).1 = 1 then 1 else 0) ∧ ((smR dn dev ws dn).1 = 1 → pfX M' (pfA dev ws (smR dn dev ws dn).2.1) ∧ ∀ j, j < dn → M'.1 403 j = zI ((chA (smR dn dev ws dn).2.1 j / 2 : Nat) : Int)) ∧ maF M M') := by
        intro hb9
        rw [nm_s1_some, if_pos rfl]
        exact hno (bP_f.mpr (fun h => hb9 (h.2 k (by omega))))
      by_cases c1 : (dev k).2.1 = -1
      · rw [if_pos c1]
        exact hbad (by omega)
      rw [if_neg c1]
      by_cases c2 : (dev k).2.2.2 = -1
      · rw [if_pos c2]
        exact hbad (by omega)
      rw [if_neg c2, nm_s1_some, if_neg (by decide), zI_inc]
      refine ih (k + 1) Kx (by omega) (by omega) (fun d hd => ?_) hKx
      by_cases hdk : d = k
      · subst hdk
        omega
      · exact hI d (by omega)
  rw [nm_l_eq, show (0 : Int32) = zI 0 from rfl]
  refine key nm_F 0 _ (by omega) (by rw [nm_F_eq]; omega) (fun d hd => absurd hd (Nat.not_lt_zero _)) (fun hcp => ?_)
  obtain ⟨-, hwh⟩ := whA_of hb hcp
  have e : smR dn dev ws dn = srT dev ws dn dn [] 0 := by
    unfold smR
    rw [if_pos hcp]
  have hsc : scX N dev ws dn Z [] 0 := by
    refine ⟨⟨⟨(z1 _ _ (by omega) (by omega)).trans hws.1, fun i hi => ⟨(z1 _ _ (by omega) (by omega)).trans (hws.2 i hi).1, (z1 _ _ (by omega) (by omega)).trans (hws.2 i hi).2⟩⟩, hde.1, fun d hd => ?_⟩, z3, fun i hi => ?_, fun j hj => absurd hj (Nat.not_lt_zero _), z2.1, z2.2.1⟩
    · obtain ⟨a, b, c, g⟩ := hde.2 d hd
      exact ⟨(z1 _ _ (by omega) (by omega)).trans a, (z1 _ _ (by omega) (by omega)).trans b, (z1 _ _ (by omega) (by omega)).trans c, (z1 _ _ (by omega) (by omega)).trans g⟩
    · rw [z2.2.2.2, bi_z]
      rfl
  obtain ⟨gd1, gd2, -⟩ := smR_good (dev := dev) (dn := dn) (n := dn) (ws := ws)
  rw [e] at gd1 gd2 ⊢
  refine wp_s2 _ (w_search K hwo hwh dn [] 0 Z 14 (by show 0 + dn = dn; omega) (by omega) (by omega) trivial hsc) ?_
  generalize srT dev ws dn dn [] 0 = res at *
  rintro b M1 ⟨s1, s2, s3, s4⟩
  have s1' : scF Z M1 := s1
  have hb01 : b = 0 ∨ b = 1 := by
    by_cases h0 : res.1 = 0
    · exact Or.inl (s2 h0).1
    by_cases h1 : res.1 = 1
    · exact Or.inr (s3 h1).1
    · exact Or.inl (s4 (by omega)).1
  have hnb : ∀ (X : Option cm), nm_b b X = X := fun X => by
    rcases hb01 with rfl | rfl
    · exact nm_b0
    · exact nm_b1
  rw [hnb]
  have hF9 : ∀ m k, m ≠ 403 → m ≠ 404 → ¬ (m = 400 ∧ (k = 1 ∨ k = 2 ∨ k = 3 ∨ k = 8)) → nm_up M1.1 400 3 b m k = M.1 m k := fun m k a1 a2 a3 => by
    rw [nm_up_ap, if_neg (by omega), s1'.2 m k a1 a2 (by omega)]
    exact z1 m k a2 a3
  have e3 : nm_up M1.1 400 3 b 400 3 = b := by rw [nm_up_ap, if_pos ⟨rfl, rfl⟩]
  have en : ∀ m k, ¬ (m = 400 ∧ k = 3) → nm_up M1.1 400 3 b m k = M1.1 m k := fun m k h => by rw [nm_up_ap, if_neg h]
  refine wp_r ⟨?_, ?_, ?_, fun h1 => ?_, s1'.1.trans z4, hF9⟩
  · show nm_up M1.1 400 3 b 400 1 = _
    rw [en _ _ (by omega)]
    by_cases h0 : res.1 = 0
    · exact (s2 h0).2.2.2.2.2.1
    by_cases h1 : res.1 = 1
    · exact (s3 h1).2.2.2.2.2.1
    · exact (s4 (by omega)).2.2
  · show nm_up M1.1 400 3 b 400 2 = _
    rw [en _ _ (by omega)]
    by_cases h0 : res.1 = 0
    · rw [if_neg (by omega)]
      exact (s2 h0).2.2.2.2.2.2
    by_cases h1 : res.1 = 1
    · rw [if_neg (by omega)]
      exact (s3 h1).2.2.2.2.2.2
    · rw [if_pos (by omega)]
      exact (s4 (by omega)).2.1
  · show nm_up M1.1 400 3 b 400 3 = _
    rw [e3]
    by_cases h0 : res.1 = 0
    · rw [if_neg (by omega)]
      exact (s2 h0).1
    by_cases h1 : res.1 = 1
    · rw [if_pos h1]
      exact (s3 h1).1
    · rw [if_neg h1]
      exact (s4 (by omega)).1
  · obtain ⟨-, x1, x2, x3, x4, -, -⟩ := s3 h1
    refine ⟨fun i hi => ?_, fun j hj => ?_⟩
    · show nm_up M1.1 400 3 b 404 i = _
      rw [en _ _ (by omega)]
      exact x2 i hi
    · show nm_up M1.1 400 3 b 403 j = _
      rw [en _ _ (by omega)]
      exact x4 j (by rw [(gd2 h1).2.2]; exact hj)
end
