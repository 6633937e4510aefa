/-! FAULTS: a list of them (rule, from, to, measure), on both sides -/
abbrev ft : Type := Nat × Nat × Nat × Nat
def f0 : ft := (0, 0, 0, 0)
def rs (r : Nat) (p : Nat × Int) (t : ft) : Nat × Int := if t.1 = r then (p.1 + 1, if p.1 = 0 then ((t.2.2.2 : Nat) : Int) else if p.2 ≤ ((t.2.2.2 : Nat) : Int) then p.2 else ((t.2.2.2 : Nat) : Int)) else p
def rsum (r : Nat) (L : List ft) : Nat × Int := L.foldl (rs r) (0, -1)
theorem rsum_app (r : Nat) (L : List ft) (t : ft) : rsum r (L ++ [t]) = rs r (rsum r L) t := by
  unfold rsum
  rw [List.foldl_append]
  rfl
def okF (t : ft) : Prop := t.1 < 16 ∧ t.2.1 < 4096 ∧ t.2.2.1 < 4096 ∧ t.2.2.2 ≤ 4096
theorem getF_app {T : List ft} {t : ft} {i : Nat} : (T ++ [t]).getD i f0 = if i < T.length then T.getD i f0 else if i = T.length then t else f0 := by
  by_cases h1 : i < T.length
  · rw [if_pos h1, List.getD_eq_getElem?_getD, List.getD_eq_getElem?_getD, List.getElem?_append_left h1]
  · rw [if_neg h1, List.getD_eq_getElem?_getD, List.getElem?_append_right (by omega)]
    by_cases h2 : i = T.length
    · rw [if_pos h2, h2, Nat.sub_self]
      rfl
    · rw [if_neg h2]
      obtain ⟨m, hm⟩ : ∃ m, i - T.length = m + 1 := ⟨i - T.length - 1, by omega⟩
      rw [hm]
      rfl
def rng (L : List ft) : Prop := ∀ r, (rsum r L).1 ≤ L.length ∧ -1 ≤ (rsum r L).2 ∧ (rsum r L).2 ≤ 4096
theorem rng_nil : rng [] := fun r => ⟨Nat.le_refl _, by show (-1 : Int) ≤ -1; omega, by show (-1 : Int) ≤ 4096; omega⟩
theorem rng_app {L : List ft} {t : ft} (h : rng L) (ht : okF t) : rng (L ++ [t]) := by
  intro r
  obtain ⟨h1, h2, h3⟩ := h r
  rw [rsum_app, List.length_append, show [t].length = 1 from rfl]
  unfold rs
  have := ht.2.2.2
  by_cases hr : t.1 = r
  · rw [if_pos hr]
    simp only
    refine ⟨by omega, ?_, ?_⟩
    · by_cases h4 : (rsum r L).1 = 0
      · rw [if_pos h4]
        omega
      · rw [if_neg h4]
        by_cases h5 : (rsum r L).2 ≤ ((t.2.2.2 : Nat) : Int)
        · rw [if_pos h5]
          omega
        · rw [if_neg h5]
          omega
    · by_cases h4 : (rsum r L).1 = 0
      · rw [if_pos h4]
        omega
      · rw [if_neg h4]
        by_cases h5 : (rsum r L).2 ≤ ((t.2.2.2 : Nat) : Int)
        · rw [if_pos h5]
          omega
        · rw [if_neg h5]
          omega
  · rw [if_neg hr]
    exact ⟨by omega, h2, h3⟩
/-- as the program holds them -/
def faX (M : cm) (L : List ft) : Prop := rng L ∧ M.1 200 2 = zI ((L.length : Nat) : Int) ∧ (∀ i, i < L.length → i < 600 → M.1 201 (4 * i) = zI (((L.getD i f0).1 : Nat) : Int) ∧ M.1 201 (4 * i + 1) = zI (((L.getD i f0).2.1 : Nat) : Int) ∧ M.1 201 (4 * i + 2) = zI (((L.getD i f0).2.2.1 : Nat) : Int) ∧ M.1 201 (4 * i + 3) = zI (((L.getD i f0).2.2.2 : Nat) : Int)) ∧ ∀ r, r < 16 → M.1 202 r = zI (((rsum r L).1 : Nat) : Int) ∧ M.1 203 r = zI (rsum r L).2
/-- as the reference holds them -/
def faO (I : nm_I) (L : List ft) : Prop := rng L ∧ I 0 46 = zI ((L.length : Nat) : Int) ∧ (∀ i, i < L.length → i < 600 → I 41 i = zI (((L.getD i f0).1 : Nat) : Int) ∧ I 42 i = zI (((L.getD i f0).2.1 : Nat) : Int) ∧ I 43 i = zI (((L.getD i f0).2.2.1 : Nat) : Int) ∧ I 44 i = zI (((L.getD i f0).2.2.2 : Nat) : Int)) ∧ ∀ r, r < 16 → I 45 r = zI (((rsum r L).1 : Nat) : Int) ∧ I 46 r = zI (rsum r L).2
abbrev faXF (M M' : cm) : Prop := M'.2 = M.2 ∧ ∀ n j, ¬ (n = 200 ∧ j = 2) → ¬ (201 ≤ n ∧ n ≤ 203) → M'.1 n j = M.1 n j
abbrev faOF (I I' : nm_I) : Prop := ∀ n j, ¬ (n = 0 ∧ j = 46) → ¬ (41 ≤ n ∧ n ≤ 46) → I' n j = I n j
/-- the summing half, told once for both: cells c (count), e (least) of rule r -/
theorem rs_step {L : List ft} {t : ft} {C E : Nat → Int32} (hC : ∀ r, r < 16 → C r = zI (((rsum r L).1 : Nat) : Int) ∧ E r = zI (rsum r L).2) {C' E' : Nat → Int32} (h1 : C' t.1 = zI (((rsum t.1 L).1 : Nat) + 1 : Int)) (h2 : E' t.1 = zI (rs t.1 (rsum t.1 L) t).2) (h3 : ∀ r, r ≠ t.1 → C' r = C r ∧ E' r = E r) : ∀ r, r < 16 → C' r = zI (((rsum r (L ++ [t])).1 : Nat) : Int) ∧ E' r = zI (rsum r (L ++ [t])).2 := by
  intro r hr
  rw [rsum_app]
  by_cases hrt : t.1 = r
  · subst hrt
    rw [h1, h2]
    refine ⟨?_, rfl⟩
    unfold rs
    rw [if_pos rfl]
    rfl
  · rw [(h3 r (fun q => hrt q.symm)).1, (h3 r (fun q => hrt q.symm)).2]
    unfold rs
    rw [if_neg hrt]
    exact hC r hr
set_option maxHeartbeats 1000000 in
theorem w_noteO {I : nm_I} {L : List ft} (hL : faO I L) (hlen : L.length < 1000000) {t : ft} (ht : okF t) :
    wp (f_X12_fault (zI ((t.1 : Nat) : Int)) (zI ((t.2.1 : Nat) : Int)) (zI ((t.2.2.1 : Nat) : Int)) (zI ((t.2.2.2 : Nat) : Int)) I) (fun I' => faO I' (L ++ [t]) ∧ faOF I I') := by
  obtain ⟨g, h1, h2, h3⟩ := hL
  have gt := g t.1
  obtain ⟨o1, o2, o3, o4⟩ := ht
  have hJ : ∀ I1 : nm_I, I1 0 46 = zI ((L.length : Nat) : Int) → (∀ i, i < L.length + 1 → i < 600 → I1 41 i = zI ((((L ++ [t]).getD i f0).1 : Nat) : Int) ∧ I1 42 i = zI ((((L ++ [t]).getD i f0).2.1 : Nat) : Int) ∧ I1 43 i = zI ((((L ++ [t]).getD i f0).2.2.1 : Nat) : Int) ∧ I1 44 i = zI ((((L ++ [t]).getD i f0).2.2.2 : Nat) : Int)) → (∀ n j, ¬ (41 ≤ n ∧ n ≤ 44) → I1 n j = I n j) → wp (f_X12_fault_J51 (zI ((t.1 : Nat) : Int)) (zI ((t.2.2.2 : Nat) : Int)) I1) (fun I' => faO I' (L ++ [t]) ∧ faOF I I') := by
    intro I1 k1 k2 k3
    have hend : ∀ I4 : nm_I, (∀ n j, ¬ (n = 0 ∧ j = 46) → ¬ (n = 46 ∧ j = t.1) → I4 n j = I1 n j) → I4 0 46 = zI (((L.length : Nat) : Int) + 1) → I4 46 t.1 = zI (rs t.1 (rsum t.1 L) t).2 → wp (f_X12_fault_J89 (zI ((t.1 : Nat) : Int)) I4) (fun I' => faO I' (L ++ [t]) ∧ faOF I I') := by
      intro I4 j1 j2 j3
      unfold f_X12_fault_J89
      rw [nm_cz (by omega) (by omega) (by omega), nm_cz (by omega) (by omega) (by omega), zI_cl (by omega) (by omega), Int.toNat_natCast, j1 _ _ (by omega) (by omega), k3 _ _ (by omega), (h3 _ o1).1, zI_inc, nm_l_eq]
      refine wp_r ⟨⟨rng_app g ⟨o1, o2, o3, o4⟩, ?_, fun i hi hi6 => ?_, ?_⟩, fun n j a b => ?_⟩
      · rw [nm_up_ap, if_neg (by omega), j2, List.length_append]
        rfl
      · rw [List.length_append] at hi
        rw [nm_up_ap, if_neg (by omega), nm_up_ap, if_neg (by omega), nm_up_ap, if_neg (by omega), nm_up_ap, if_neg (by omega), j1 _ _ (by omega) (by omega), j1 _ _ (by omega) (by omega), j1 _ _ (by omega) (by omega), j1 _ _ (by omega) (by omega)]
        exact k2 i hi hi6
      · refine rs_step h3 ?_ ?_ (fun r hr => ⟨?_, ?_⟩)
        · rw [nm_up_ap, if_pos ⟨rfl, rfl⟩]
        · rw [nm_up_ap, if_neg (by omega)]
          exact j3
        · rw [nm_up_ap, if_neg (by omega), j1 _ _ (by omega) (by omega), k3 _ _ (by omega)]
        · rw [nm_up_ap, if_neg (by omega), j1 _ _ (by omega) (by omega), k3 _ _ (by omega)]
      · rw [nm_up_ap, if_neg (by omega), j1 _ _ (by omega) (by omega), k3 _ _ (by omega)]
    unfold f_X12_fault_J51
    obtain ⟨I2, hI2⟩ : ∃ I2, I2 = nm_up I1 0 46 (zI (((L.length : Nat) : Int) + 1)) := ⟨_, rfl⟩
    have m1 : ∀ n j, ¬ (n = 0 ∧ j = 46) → I2 n j = I1 n j := fun n j a => by rw [hI2, nm_up_ap, if_neg a]
    have m2 : I2 0 46 = zI (((L.length : Nat) : Int) + 1) := by rw [hI2, nm_up_ap, if_pos ⟨rfl, rfl⟩]
    rw [k1, zI_inc, nm_l_eq, ← hI2]
    clear hI2
    have m3 : I2 45 t.1 = zI (((rsum t.1 L).1 : Nat) : Int) := by rw [m1 _ _ (by omega), k3 _ _ (by omega), (h3 _ o1).1]
    have m4 : I2 46 t.1 = zI (rsum t.1 L).2 := by rw [m1 _ _ (by omega), k3 _ _ (by omega), (h3 _ o1).2]
    rw [nm_cz (by omega) (by omega) (by omega), zI_cl (by omega) (by omega), Int.toNat_natCast, m3, m4, zI_0]
    simp (disch := omega) only [zI_eq, zI_le, nm_cz]
    have hset : (rs t.1 (rsum t.1 L) t).2 = ((t.2.2.2 : Nat) : Int) → wp (f_X12_fault_J81 (zI ((t.1 : Nat) : Int)) (zI ((t.2.2.2 : Nat) : Int)) I2) (fun I' => faO I' (L ++ [t]) ∧ faOF I I') := by
      intro hv
      unfold f_X12_fault_J81
      rw [nm_cz (by omega) (by omega) (by omega), zI_cl (by omega) (by omega), Int.toNat_natCast, nm_l_eq]
      refine hend _ (fun n j a b => ?_) ?_ ?_
      · rw [nm_up_ap, if_neg b, m1 n j a]
      · rw [nm_up_ap, if_neg (by omega), m2]
      · rw [nm_up_ap, if_pos ⟨rfl, rfl⟩, hv]
    have hrs : (rs t.1 (rsum t.1 L) t).2 = if (rsum t.1 L).1 = 0 then ((t.2.2.2 : Nat) : Int) else if (rsum t.1 L).2 ≤ ((t.2.2.2 : Nat) : Int) then (rsum t.1 L).2 else ((t.2.2.2 : Nat) : Int) := by
      unfold rs
      rw [if_pos rfl]
    refine wp_if (fun z => hset (by rw [hrs, if_pos (by omega)])) (fun z => ?_)
    refine wp_if (fun y => ?_) (fun y => hset (by rw [hrs, if_neg (by omega), if_neg y]))
    refine hend _ (fun n j a b => ?_) ?_ ?_
    · exact m1 n j a
    · exact m2
    · rw [m4, hrs, if_neg (by omega), if_pos y]
  unfold f_X12_fault
  rw [h1, show (600 : Int32) = zI 600 from rfl]
  simp (disch := omega) only [zI_le]
  refine wp_if (fun h => ?_) (fun h => ?_)
  · refine hJ I h1 (fun i hi hi6 => ?_) (fun _ _ _ => rfl)
    rw [getF_app, if_pos (by omega)]
    exact h2 i (by omega) hi6
  · rw [nm_cz (by omega) (by omega) (by omega), zI_cl (by omega) (by omega), Int.toNat_natCast, nm_l_eq, nm_up_ap, if_neg (by omega), h1, nm_cz (by omega) (by omega) (by omega), zI_cl (by omega) (by omega), Int.toNat_natCast, nm_l_eq, nm_up_ap, if_neg (by omega), nm_up_ap, if_neg (by omega), h1, nm_cz (by omega) (by omega) (by omega), zI_cl (by omega) (by omega), Int.toNat_natCast, nm_l_eq, nm_up_ap, if_neg (by omega), nm_up_ap, if_neg (by omega), nm_up_ap, if_neg (by omega), h1, nm_cz (by omega) (by omega) (by omega), zI_cl (by omega) (by omega), Int.toNat_natCast, nm_l_eq]
    refine hJ _ ?_ (fun i hi hi6 => ?_) (fun n j hn => ?_)
    · rw [nm_up_ap, if_neg (by omega), nm_up_ap, if_neg (by omega), nm_up_ap, if_neg (by omega), nm_up_ap, if_neg (by omega)]
      exact h1
    · rw [getF_app]
      by_cases hil : i = L.length
      · subst hil
        rw [if_neg (by omega), if_pos rfl]
        refine ⟨?_, ?_, ?_, ?_⟩
        · rw [nm_up_ap, if_neg (by omega), nm_up_ap, if_neg (by omega), nm_up_ap, if_neg (by omega), nm_up_ap, if_pos ⟨rfl, rfl⟩]
        · rw [nm_up_ap, if_neg (by omega), nm_up_ap, if_neg (by omega), nm_up_ap, if_pos ⟨rfl, rfl⟩]
        · rw [nm_up_ap, if_neg (by omega), nm_up_ap, if_pos ⟨rfl, rfl⟩]
        · rw [nm_up_ap, if_pos ⟨rfl, rfl⟩]
      · rw [if_pos (by omega)]
        obtain ⟨y1, y2, y3, y4⟩ := h2 i (by omega) hi6
        refine ⟨?_, ?_, ?_, ?_⟩ <;> rw [nm_up_ap, if_neg (by omega), nm_up_ap, if_neg (by omega), nm_up_ap, if_neg (by omega), nm_up_ap, if_neg (by omega)]
        · exact y1
        · exact y2
        · exact y3
        · exact y4
    · rw [nm_up_ap, if_neg (by omega), nm_up_ap, if_neg (by omega), nm_up_ap, if_neg (by omega), nm_up_ap, if_neg (by omega)]
