/-! calls, told of both sides: made layers, rules, wishes -/
section
variable {S : ca} {K : Nat → Nat} {I : nm_I}
theorem madeX_eq {x2 : Int} (h1 : -2147483648 ≤ x2) (h2 : x2 < 2147483648) (x1 x3 x4 : Int32) (M : cm) : f_X11_made x1 (zI x2) x3 x4 M = f_X11_made_J36 x1 (zI x2) x3 x4 (bq (decide (x2 = 3 ∨ x2 = 4))) (bq (decide (x2 = 0 ∨ x2 = 1 ∨ x2 = 2 ∨ x2 = 5))) M := by
  unfold f_X11_made f_X11_made_J10 f_X11_made_J15 f_X11_made_J35
  rw [show (3 : Int32) = zI 3 from rfl, show (4 : Int32) = zI 4 from rfl, show (5 : Int32) = zI 5 from rfl, if_neg (show ¬ (1 : Int32) = 0 by decide), if_pos (show (0 : Int32) = 0 from rfl)]
  have hz : (zI x2 < 0) = (zI x2 < zI 0) := rfl
  simp only [hz]
  simp (disch := omega) only [zI_eq, zI_lt]
  by_cases a : x2 = 3
  · rw [if_pos a, decide_eq_true (show x2 = 3 ∨ x2 = 4 by omega), decide_eq_false (show ¬ (x2 = 0 ∨ x2 = 1 ∨ x2 = 2 ∨ x2 = 5) by omega)]
    rfl
  rw [if_neg a]
  by_cases b : x2 = 4
  · rw [if_pos b, decide_eq_true (show x2 = 3 ∨ x2 = 4 by omega), decide_eq_false (show ¬ (x2 = 0 ∨ x2 = 1 ∨ x2 = 2 ∨ x2 = 5) by omega)]
    rfl
  rw [if_neg b, decide_eq_false (show ¬ (x2 = 3 ∨ x2 = 4) by omega)]
  by_cases c : x2 < 0
  · rw [if_pos c, decide_eq_false (show ¬ (x2 = 0 ∨ x2 = 1 ∨ x2 = 2 ∨ x2 = 5) by omega)]
    rfl
  rw [if_neg c]
  by_cases d : 5 < x2
  · rw [if_pos d, decide_eq_false (show ¬ (x2 = 0 ∨ x2 = 1 ∨ x2 = 2 ∨ x2 = 5) by omega)]
    rfl
  · rw [if_neg d, decide_eq_true (show (x2 = 0 ∨ x2 = 1 ∨ x2 = 2 ∨ x2 = 5) by omega)]
    rfl
theorem madeO_eq {x2 : Int} (h1 : -2147483648 ≤ x2) (h2 : x2 < 2147483648) (x1 x3 x4 : Int32) (I : nm_I) : f_X12_made x1 (zI x2) x3 x4 I = f_X12_made_J24 x1 (zI x2) x3 x4 (bq (decide (x2 = 0 ∨ x2 = 1 ∨ x2 = 2 ∨ x2 = 5))) I := by
  unfold f_X12_made f_X12_made_J19
  have hz : (zI x2 = 0) = (zI x2 = zI 0) := rfl
  simp only [hz]
  rw [show (1 : Int32) = zI 1 from rfl, show (2 : Int32) = zI 2 from rfl, show (5 : Int32) = zI 5 from rfl]
  simp (disch := omega) only [zI_eq]
  by_cases a : x2 = 0
  · rw [if_pos a, decide_eq_true (show (x2 = 0 ∨ x2 = 1 ∨ x2 = 2 ∨ x2 = 5) by omega)]
    rfl
  rw [if_neg a]
  by_cases b : x2 = 1
  · rw [if_pos b, decide_eq_true (show (x2 = 0 ∨ x2 = 1 ∨ x2 = 2 ∨ x2 = 5) by omega)]
    rfl
  rw [if_neg b]
  by_cases c : x2 = 2
  · rw [if_pos c, decide_eq_true (show (x2 = 0 ∨ x2 = 1 ∨ x2 = 2 ∨ x2 = 5) by omega)]
    rfl
  rw [if_neg c]
  by_cases d : x2 = 5
  · rw [if_pos d, decide_eq_true (show (x2 = 0 ∨ x2 = 1 ∨ x2 = 2 ∨ x2 = 5) by omega)]
    rfl
  · rw [if_neg d, decide_eq_false (show ¬ (x2 = 0 ∨ x2 = 1 ∨ x2 = 2 ∨ x2 = 5) by omega)]
    rfl
/-- the layer told, where nothing refuses -/
theorem s_madeT (h : RR S K I) {k a b : Nat} {op : Int} (hk8 : 8 ≤ k) (hk : k < 16) (hop : 0 ≤ op) (hop5 : op ≤ 5) (ha : a < k) (hb : (op = 3 ∨ op = 4) → b ≤ 9) (hb2 : (op ≠ 3 ∧ op ≠ 4) → b < k) : simP K S.2 (f_X11_made_J113 (zI (k : Nat)) (zI op) (zI (a : Nat)) (zI (b : Nat)) S.1) (f_X12_made_J116 (zI (k : Nat)) (zI op) (zI (a : Nat)) (zI (b : Nat)) I) := by
  obtain ⟨hc, ⟨hA, hB, hU, hE, hJ, hG, hL, hZ⟩, D, T, fo, nets, dn, dev, hC, hF, hW⟩ := id h
  obtain ⟨m, m1, m2, m3⟩ := id hB
  unfold f_X11_made_J113 f_X3_tell f_X12_made_J116
  obtain ⟨i, rfl⟩ : ∃ i, k = 8 + i := ⟨k - 8, by omega⟩
  rw [show (8 : Int32) = zI 8 from rfl, zI_sub, nm_cz (by omega) (by omega) (by omega), nm_cz (by omega) (by omega) (by omega), zI_cl (by omega) (by omega), zI_cl (by omega) (by omega), show (((8 + i : Nat) : Int) - 8).toNat = i by omega, Int.toNat_natCast]
  simp (disch := omega) only [nm_cz, nm_l_eq, nm_s1_some]
  obtain ⟨A, hA9⟩ : ∃ A, A = nm_up (nm_up (nm_up S.1.1 103 i (zI op)) 104 i (zI (a : Nat))) 105 i (zI (b : Nat)) := ⟨_, rfl⟩
  obtain ⟨I3, hI3⟩ : ∃ I3, I3 = nm_up (nm_up (nm_up I 9 (8 + i) (zI op)) 10 (8 + i) (zI (a : Nat))) 11 (8 + i) (zI (b : Nat)) := ⟨_, rfl⟩
  show simP K S.2 (some (1, (nm_up (nm_up (nm_up S.1.1 103 i (zI op)) 104 i (zI (a : Nat))) 105 i (zI (b : Nat)), S.1.2))) (some (1, nm_up (nm_up (nm_up I 9 (8 + i) (zI op)) 10 (8 + i) (zI (a : Nat))) 11 (8 + i) (zI (b : Nat))))
  rw [← hA9, ← hI3]
  have a0 : ∀ q j, ¬ ((103 ≤ q ∧ q ≤ 105) ∧ j = i) → A q j = S.1.1 q j := fun q j h => by rw [hA9, nm_up_ap, if_neg (by omega), nm_up_ap, if_neg (by omega), nm_up_ap, if_neg (by omega)]
  have a2 : A 103 i = zI op ∧ A 104 i = zI (a : Nat) ∧ A 105 i = zI (b : Nat) := by
    rw [hA9]
    refine ⟨?_, ?_, ?_⟩
    · rw [nm_up_ap, if_neg (by omega), nm_up_ap, if_neg (by omega), nm_up_ap, if_pos ⟨rfl, rfl⟩]
    · rw [nm_up_ap, if_neg (by omega), nm_up_ap, if_pos ⟨rfl, rfl⟩]
    · rw [nm_up_ap, if_pos ⟨rfl, rfl⟩]
  have j0 : ∀ q j, ¬ ((9 ≤ q ∧ q ≤ 11) ∧ j = 8 + i) → I3 q j = I q j := fun q j h => by rw [hI3, nm_up_ap, if_neg (by omega), nm_up_ap, if_neg (by omega), nm_up_ap, if_neg (by omega)]
  have j2 : I3 9 (8 + i) = zI op ∧ I3 10 (8 + i) = zI (a : Nat) ∧ I3 11 (8 + i) = zI (b : Nat) := by
    rw [hI3]
    refine ⟨?_, ?_, ?_⟩
    · rw [nm_up_ap, if_neg (by omega), nm_up_ap, if_neg (by omega), nm_up_ap, if_pos ⟨rfl, rfl⟩]
    · rw [nm_up_ap, if_neg (by omega), nm_up_ap, if_pos ⟨rfl, rfl⟩]
    · rw [nm_up_ap, if_pos ⟨rfl, rfl⟩]
  clear hA9 hI3
  have hn : RB ((A, S.1.2), S.2) I3 := by
    refine ⟨fun q => if q = i then (op, a, b) else m q, fun q hq => ?_, fun q hq => ?_, fun q hq => ?_⟩
    · by_cases hqi : q = i
      · simp only [if_pos hqi]
        exact ⟨show -1 ≤ op by omega, hop5, show a < 8 + q by omega, hb, fun e => by rw [hqi]; exact hb2 e⟩
      · simp only [if_neg hqi]
        exact m1 q hq
    · show A 103 q = _ ∧ A 104 q = _ ∧ A 105 q = _
      by_cases hqi : q = i
      · simp only [if_pos hqi]
        rw [hqi]
        exact a2
      · simp only [if_neg hqi]
        rw [a0 _ _ (by omega), a0 _ _ (by omega), a0 _ _ (by omega)]
        exact m2 q hq
    · by_cases hqi : q = i
      · simp only [if_pos hqi]
        rw [hqi]
        exact j2
      · simp only [if_neg hqi]
        rw [j0 _ _ (by omega), j0 _ _ (by omega), j0 _ _ (by omega)]
        exact m3 q hq
  have a1 : ∀ q j, ¬ (103 ≤ q ∧ q ≤ 105) → A q j = S.1.1 q j := fun q j h => a0 q j (by omega)
  have j1 : ∀ q j, ¬ (9 ≤ q ∧ q ≤ 11) → I3 q j = I q j := fun q j h => j0 q j (by omega)
  exact ⟨1, (A, S.1.2), I3, rfl, rfl, hc, ⟨RA_fr hA ⟨fun m j h => a1 m j (by omega), fun _ _ => rfl, fun _ _ => rfl⟩ (fun m j _ _ => j1 m j (by omega)), hn, RU_fr hU (fun m j _ _ => a1 m j (by omega)) rfl (fun m j _ => j1 m j (by omega)), RE_fr hE (a1 _ _ (by omega)) (fun j => j1 _ _ (by omega)), RJ_fr hJ (fun m j _ => a1 m j (by omega)) (fun m j _ => j1 m j (by omega)), RG_fr hG (fun j _ _ => a1 _ _ (by omega)) (fun j _ _ => j1 _ _ (by omega)), RLn_fr hL (a1 _ _ (by omega)) rfl (fun m j _ => j1 m j (by omega)), RZ_fr hZ (fun k => a1 _ _ (by omega)) (fun k => j1 _ _ (by omega))⟩, D, T, fo, nets, dn, dev, RC_fr hC (fun m j _ => a1 m j (by omega)) rfl (fun m j _ => j1 m j (by omega)), RF_fr hF (fun m j _ => a1 m j (by omega)) (fun _ _ => rfl) (fun _ _ _ => rfl) (fun m j _ => j1 m j (by omega)), RW_fr hW (fun m j _ _ => a1 m j (by omega)) (fun m j _ => j1 m j (by omega))⟩
set_option maxHeartbeats 1000000 in
theorem s_made (h : RR S K I) (x y u v : Int32) : simP K S.2 (f_X11_made x y u v S.1) (f_X12_made x y u v I) := by
  obtain ⟨k, k1, k2, rfl⟩ := zI_ex x
  obtain ⟨op, o1, o2, rfl⟩ := zI_ex y
  obtain ⟨a, a1, a2, rfl⟩ := zI_ex u
  obtain ⟨b, b1, b2, rfl⟩ := zI_ex v
  rw [madeX_eq o1 o2, madeO_eq o1 o2]
  obtain ⟨tb, htb⟩ : ∃ tb : Int32, tb = bq (decide (op = 0 ∨ op = 1 ∨ op = 2 ∨ op = 5)) := ⟨_, rfl⟩
  obtain ⟨sb, hsb⟩ : ∃ sb : Int32, sb = bq (decide (op = 3 ∨ op = 4)) := ⟨_, rfl⟩
  rw [← htb, ← hsb]
  unfold f_X11_made_J36 f_X12_made_J24
  have hno3 := simP_no h (x := -3) (b := -3) rfl (by decide) (by decide)
  have hno7 := simP_no h (x := -7) (b := -7) rfl (by decide) (by decide)
  rw [isIn_z k1 k2, show (8 : Int64).toInt = 8 by decide, show (15 : Int64).toInt = 15 by decide, iif, show (8 : Int32) = zI 8 from rfl, show (16 : Int32) = zI 16 from rfl]
  simp (disch := omega) only [zI_lt, zI_le]
  by_cases hk : ¬ (8 ≤ k ∧ k ≤ 15)
  · rw [if_neg hk]
    by_cases hk8 : k < 8
    · rw [if_pos hk8]
      exact hno3
    · rw [if_neg hk8, if_pos (by omega)]
      exact hno3
  replace hk := Classical.not_not.mp hk
  rw [if_pos hk, if_neg (by omega), if_neg (by omega)]
  obtain ⟨kn, rfl⟩ := Int.eq_ofNat_of_zero_le (show 0 ≤ k by omega)
  rw [out_z a1 a2 (by omega), out_z b1 b2 (by omega), isIn_z a1 a2, isIn_z b1 b2, show zI ((kn : Nat) : Int) - (1 : Int32) = zI (((kn : Nat) : Int) - 1) from zI_sub _ 1, zI_64 (by omega) (by omega), show (0 : Int64).toInt = 0 by decide, oif, oif, iif, iif]
  by_cases ha : ¬ (0 ≤ a ∧ a < (kn : Int))
  · rw [if_neg ha, if_neg (by omega)]
    exact hno3
  replace ha := Classical.not_not.mp ha
  rw [if_pos ha, if_pos (show 0 ≤ a ∧ a ≤ ((kn : Nat) : Int) - 1 by omega)]
  obtain ⟨an, rfl⟩ := Int.eq_ofNat_of_zero_le ha.1
  have h79 : ((op = 0 ∨ op = 1 ∨ op = 2 ∨ op = 5) → 0 ≤ b ∧ b < (kn : Int)) → simP K S.2 (f_X11_made_J79 (zI (kn : Nat)) (zI op) (zI (an : Nat)) (zI b) sb tb S.1) (f_X12_made_J79 (zI (kn : Nat)) (zI op) (zI (an : Nat)) (zI b) tb I) := by
    intro hb
    unfold f_X11_made_J79 f_X11_made_J89 f_X12_made_J79
    rw [isIn_z o1 o2, isIn_z b1 b2, show (0 : Int64).toInt = 0 by decide, show (5 : Int64).toInt = 5 by decide, show (9 : Int64).toInt = 9 by decide, iif, iif, show (9 : Int32) = zI 9 from rfl]
    have hz0 : (zI b < 0) = (zI b < zI 0) := rfl
    simp only [hz0]
    simp (disch := omega) only [zI_lt, zI_le]
    by_cases ho : ¬ (0 ≤ op ∧ op ≤ 5)
    · rw [decide_eq_false (show ¬ (op = 3 ∨ op = 4) by omega)] at hsb
      rw [decide_eq_false (show ¬ (op = 0 ∨ op = 1 ∨ op = 2 ∨ op = 5) by omega)] at htb
      rw [if_neg ho, hsb, htb]
      exact hno7
    replace ho := Classical.not_not.mp ho
    rw [if_pos ho]
    by_cases ht : op = 0 ∨ op = 1 ∨ op = 2 ∨ op = 5
    · obtain ⟨hb0, hbk⟩ := hb ht
      obtain ⟨bn, rfl⟩ := Int.eq_ofNat_of_zero_le hb0
      rw [decide_eq_false (show ¬ (op = 3 ∨ op = 4) by omega)] at hsb
      rw [decide_eq_true ht] at htb
      rw [hsb, htb]
      exact s_madeT h (by omega) (by omega) ho.1 ho.2 (by omega) (fun e => by omega) (fun _ => by omega)
    · rw [decide_eq_true (show (op = 3 ∨ op = 4) by omega)] at hsb
      rw [decide_eq_false ht] at htb
      have s1 : ¬ sb = 0 := by rw [hsb]; decide
      have t0 : tb = 0 := by rw [htb]; rfl
      rw [if_pos t0, if_neg s1, if_neg s1, if_pos t0]
      by_cases hb9 : 0 ≤ b ∧ b ≤ 9
      · rw [if_pos hb9, if_neg (by omega), if_pos hb9.2]
        obtain ⟨bn, rfl⟩ := Int.eq_ofNat_of_zero_le hb9.1
        exact s_madeT h (by omega) (by omega) ho.1 ho.2 (by omega) (fun e => by omega) (fun e => by omega)
      · rw [if_neg hb9]
        by_cases hbn : b < 0
        · rw [if_pos hbn]
          exact hno7
        · rw [if_neg hbn, if_neg (by omega)]
          exact hno7
  by_cases ht : op = 0 ∨ op = 1 ∨ op = 2 ∨ op = 5
  · have t1 : ¬ tb = 0 := by
      rw [htb, decide_eq_true ht]
      decide
    rw [if_neg t1, if_neg t1]
    by_cases hb : 0 ≤ b ∧ b < (kn : Int)
    · rw [if_pos hb, if_pos (show 0 ≤ b ∧ b ≤ ((kn : Nat) : Int) - 1 by omega)]
      exact h79 (fun _ => hb)
    · rw [if_neg hb, if_neg (by omega)]
      exact hno3
  · have t0 : tb = 0 := by
      rw [htb, decide_eq_false ht]
      rfl
    rw [if_pos t0, if_pos t0]
    exact h79 (fun e => absurd e ht)
end
