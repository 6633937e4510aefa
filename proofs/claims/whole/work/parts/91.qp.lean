set_option maxHeartbeats 1000000 in
theorem w_noteX {N : Nat → Nat} (hN : 2400 ≤ N 201) {M : cm} {L : List ft} (hL : faX M L) (hlen : L.length < 1000000) {t : ft} (ht : okF t) :
    wp (f_X8_note N (zI ((t.1 : Nat) : Int)) (zI ((t.2.1 : Nat) : Int)) (zI ((t.2.2.1 : Nat) : Int)) (zI ((t.2.2.2 : Nat) : Int)) M) (fun M' => faX M' (L ++ [t]) ∧ faXF M M') := by
  obtain ⟨g, h1, h2, h3⟩ := hL
  have gt := g t.1
  obtain ⟨o1, o2, o3, o4⟩ := ht
  have hJ : ∀ M1 : cm, M1.2 = M.2 → M1.1 200 2 = zI ((L.length : Nat) : Int) → (∀ i, i < L.length + 1 → i < 600 → M1.1 201 (4 * i) = zI ((((L ++ [t]).getD i f0).1 : Nat) : Int) ∧ M1.1 201 (4 * i + 1) = zI ((((L ++ [t]).getD i f0).2.1 : Nat) : Int) ∧ M1.1 201 (4 * i + 2) = zI ((((L ++ [t]).getD i f0).2.2.1 : Nat) : Int) ∧ M1.1 201 (4 * i + 3) = zI ((((L ++ [t]).getD i f0).2.2.2 : Nat) : Int)) → (∀ n j, n ≠ 201 → M1.1 n j = M.1 n j) → wp (f_X8_note_J65 N (zI ((t.1 : Nat) : Int)) (zI ((t.2.2.2 : Nat) : Int)) M1) (fun M' => faX M' (L ++ [t]) ∧ faXF M M') := by
    intro M1 k0 k1 k2 k3
    have hend : ∀ M4 : cm, M4.2 = M1.2 → (∀ n j, ¬ (n = 200 ∧ j = 2) → ¬ (n = 203 ∧ j = t.1) → M4.1 n j = M1.1 n j) → M4.1 200 2 = zI (((L.length : Nat) : Int) + 1) → M4.1 203 t.1 = zI (rs t.1 (rsum t.1 L) t).2 → wp (f_X8_note_J103 N (zI ((t.1 : Nat) : Int)) M4) (fun M' => faX M' (L ++ [t]) ∧ faXF M M') := by
      intro M4 j0 j1 j2 j3
      unfold f_X8_note_J103
      have j4 : M4.1 202 t.1 = zI (((rsum t.1 L).1 : Nat) : Int) := by rw [j1 _ _ (by omega) (by omega), k3 _ _ (by omega), (h3 _ o1).1]
      rw [nm_cz (by omega) (by omega) (by omega), nm_cz (by omega) (by omega) (by omega), zI_cl (by omega) (by omega), Int.toNat_natCast, j4, show (1 : Int32) = zI 1 from rfl, zI_add, nm_l_eq]
      obtain ⟨B, hB⟩ : ∃ B, B = nm_up M4.1 202 t.1 (zI ((((rsum t.1 L).1 : Nat) : Int) + 1)) := ⟨_, rfl⟩
      have b1 : ∀ n j, ¬ (n = 202 ∧ j = t.1) → B n j = M4.1 n j := fun n j a => by rw [hB, nm_up_ap, if_neg a]
      have b2 : B 202 t.1 = zI ((((rsum t.1 L).1 : Nat) : Int) + 1) := by rw [hB, nm_up_ap, if_pos ⟨rfl, rfl⟩]
      rw [← hB]
      clear hB
      refine wp_r ⟨⟨rng_app g ⟨o1, o2, o3, o4⟩, ?_, fun i hi hi6 => ?_, ?_⟩, j0.trans k0, fun n j a b => ?_⟩
      · rw [List.length_append]
        exact (b1 200 2 (by omega)).trans j2
      · rw [List.length_append] at hi
        have hq : ∀ j, B 201 j = M1.1 201 j := fun j => (b1 201 j (by omega)).trans (j1 _ _ (by omega) (by omega))
        obtain ⟨y1, y2, y3, y4⟩ := k2 i hi hi6
        exact ⟨(hq _).trans y1, (hq _).trans y2, (hq _).trans y3, (hq _).trans y4⟩
      · refine rs_step h3 ?_ ?_ (fun r hr => ⟨?_, ?_⟩)
        · exact b2
        · exact (b1 203 t.1 (by omega)).trans j3
        · exact (b1 202 r (by omega)).trans ((j1 _ _ (by omega) (by omega)).trans (k3 _ _ (by omega)))
        · exact (b1 203 r (by omega)).trans ((j1 _ _ (by omega) (by omega)).trans (k3 _ _ (by omega)))
      · exact (b1 n j (by omega)).trans ((j1 _ _ (by omega) (by omega)).trans (k3 _ _ (by omega)))
    unfold f_X8_note_J65
    obtain ⟨A, hA⟩ : ∃ A, A = nm_up M1.1 200 2 (zI (((L.length : Nat) : Int) + 1)) := ⟨_, rfl⟩
    have m1 : ∀ n j, ¬ (n = 200 ∧ j = 2) → A n j = M1.1 n j := fun n j a => by rw [hA, nm_up_ap, if_neg a]
    have m2 : A 200 2 = zI (((L.length : Nat) : Int) + 1) := by rw [hA, nm_up_ap, if_pos ⟨rfl, rfl⟩]
    rw [k1, show (1 : Int32) = zI 1 from rfl, zI_add, nm_l_eq, ← hA]
    clear hA
    have m3 : (A, M1.2).1 202 t.1 = zI (((rsum t.1 L).1 : Nat) : Int) := (m1 _ _ (by omega)).trans ((k3 _ _ (by omega)).trans (h3 _ o1).1)
    have m4 : (A, M1.2).1 203 t.1 = zI (rsum t.1 L).2 := (m1 _ _ (by omega)).trans ((k3 _ _ (by omega)).trans (h3 _ o1).2)
    rw [nm_cz (by omega) (by omega) (by omega), zI_cl (by omega) (by omega), Int.toNat_natCast, m3, m4, zI_0]
    simp (disch := omega) only [zI_eq, zI_le, nm_cz]
    have hset : (rs t.1 (rsum t.1 L) t).2 = ((t.2.2.2 : Nat) : Int) → wp (f_X8_note_J95 N (zI ((t.1 : Nat) : Int)) (zI ((t.2.2.2 : Nat) : Int)) (A, M1.2)) (fun M' => faX M' (L ++ [t]) ∧ faXF M M') := by
      intro hv
      unfold f_X8_note_J95
      rw [nm_cz (by omega) (by omega) (by omega), zI_cl (by omega) (by omega), Int.toNat_natCast, nm_l_eq]
      refine hend _ rfl (fun n j a b => ?_) ?_ ?_
      · exact (nm_up_ap A 203 t.1 (zI ((t.2.2.2 : Nat) : Int)) n j).trans ((if_neg b).trans (m1 n j a))
      · exact (nm_up_ap A 203 t.1 (zI ((t.2.2.2 : Nat) : Int)) 200 2).trans ((if_neg (by omega)).trans m2)
      · exact (nm_up_ap A 203 t.1 (zI ((t.2.2.2 : Nat) : Int)) 203 t.1).trans ((if_pos ⟨rfl, rfl⟩).trans (by rw [hv]))
    have hrs : (rs t.1 (rsum t.1 L) t).2 = if (rsum t.1 L).1 = 0 then ((t.2.2.2 : Nat) : Int) else if (rsum t.1 L).2 ≤ ((t.2.2.2 : Nat) : Int) then (rsum t.1 L).2 else ((t.2.2.2 : Nat) : Int) := by
      unfold rs
      rw [if_pos rfl]
    refine wp_if (fun z => hset (by rw [hrs, if_pos (by omega)])) (fun z => ?_)
    refine wp_if (fun y => ?_) (fun y => hset (by rw [hrs, if_neg (by omega), if_neg y]))
    refine hend _ rfl (fun n j a b => m1 n j a) m2 ?_
    refine m4.trans ?_
    rw [hrs, if_neg (by omega), if_pos y]
  unfold f_X8_note
  rw [h1, show (600 : Int32) = zI 600 from rfl]
  simp (disch := omega) only [zI_le]
  refine wp_if (fun h => ?_) (fun h => ?_)
  · refine hJ M rfl h1 (fun i hi hi6 => ?_) (fun _ _ _ => rfl)
    rw [getF_app, if_pos (by omega)]
    exact h2 i (by omega) hi6
  · have hu : ∀ (B : Nat → Nat → Int32) (n j : Nat) (v : Int32), n = 201 → nm_up B n j v 200 2 = B 200 2 := fun B n j v hn => by rw [nm_up_ap, if_neg (by omega)]
    simp only [nm_l_eq, hu _ 201 _ _ rfl, h1]
    rw [show (4 : Int32) = zI 4 from rfl, show (1 : Int32) = zI 1 from rfl, show (2 : Int32) = zI 2 from rfl, show (3 : Int32) = zI 3 from rfl, zI_mul, zI_add, zI_add, zI_add, nm_cz (by omega) (by omega) (by omega), nm_cz (by omega) (by omega) (by omega), nm_cz (by omega) (by omega) (by omega), nm_cz (by omega) (by omega) (by omega), zI_cl (by omega) (by omega), zI_cl (by omega) (by omega), zI_cl (by omega) (by omega), zI_cl (by omega) (by omega), show (4 * ((L.length : Nat) : Int)).toNat = 4 * L.length by omega, show (4 * ((L.length : Nat) : Int) + 1).toNat = 4 * L.length + 1 by omega, show (4 * ((L.length : Nat) : Int) + 2).toNat = 4 * L.length + 2 by omega, show (4 * ((L.length : Nat) : Int) + 3).toNat = 4 * L.length + 3 by omega]
    obtain ⟨B, hB⟩ : ∃ B, B = nm_up (nm_up (nm_up (nm_up M.1 201 (4 * L.length) (zI ((t.1 : Nat) : Int))) 201 (4 * L.length + 1) (zI ((t.2.1 : Nat) : Int))) 201 (4 * L.length + 2) (zI ((t.2.2.1 : Nat) : Int))) 201 (4 * L.length + 3) (zI ((t.2.2.2 : Nat) : Int)) := ⟨_, rfl⟩
    rw [← hB]
    have hB1 : ∀ n j, ¬ (n = 201 ∧ 4 * L.length ≤ j ∧ j ≤ 4 * L.length + 3) → B n j = M.1 n j := fun n j hn => by
      rw [hB, nm_up_ap, if_neg (by omega), nm_up_ap, if_neg (by omega), nm_up_ap, if_neg (by omega), nm_up_ap, if_neg (by omega)]
    refine hJ _ rfl ((hB1 _ _ (by omega)).trans h1) (fun i hi hi6 => ?_) (fun n j hn => hB1 n j (by omega))
    show B 201 (4 * i) = _ ∧ B 201 (4 * i + 1) = _ ∧ B 201 (4 * i + 2) = _ ∧ B 201 (4 * i + 3) = _
    rw [getF_app]
    by_cases hil : i = L.length
    · subst hil
      rw [if_neg (by omega), if_pos rfl, hB]
      refine ⟨?_, ?_, ?_, ?_⟩
      · rw [nm_up_ap, if_neg (by omega), nm_up_ap, if_neg (by omega), nm_up_ap, if_neg (by omega), nm_up_ap, if_pos ⟨rfl, rfl⟩]
      · rw [nm_up_ap, if_neg (by omega), nm_up_ap, if_neg (by omega), nm_up_ap, if_pos ⟨rfl, rfl⟩]
      · rw [nm_up_ap, if_neg (by omega), nm_up_ap, if_pos ⟨rfl, rfl⟩]
      · rw [nm_up_ap, if_pos ⟨rfl, rfl⟩]
    · rw [if_pos (by omega), hB1 _ _ (by omega), hB1 _ _ (by omega), hB1 _ _ (by omega), hB1 _ _ (by omega)]
      exact h2 i (by omega) hi6
