/-! groups of runs: what the rows, the firsts and the links hold -/
def gR (M : cm) (o Y : Nat) (r : Nat → Bool) : Prop := ∀ y x, y < Y → x < 64 → bx (M.2 (o + 1) y) x = r (64 * y + x)
def gF (M : cm) (o Y : Nat) (r : Nat → Bool) : Prop := ∀ y, y < Y → M.1 (o + 5) y = zI ((pc (hdp r) (64 * y) : Nat) : Int)
def gL (M : cm) (o n : Nat) (lk : Nat → Nat) : Prop := ∀ i, i < n → M.1 (o + 6) i = zI ((lk i : Nat) : Int)
theorem gR_hd {M : cm} {o Y : Nat} {r : Nat → Bool} (h : gR M o Y r) {y x : Nat} (hy : y < Y) (hx : x < 64) : bx (f_X0_heads (M.2 (o + 1) y)) x = hdp r (64 * y + x) := by
  rw [bx_heads _ hx, h y x hy hx]
  unfold hdp
  have e1 : (64 * y + x) % 64 = x := by omega
  rw [e1]
  by_cases h1 : 1 ≤ x
  · rw [h y (x - 1) hy (by omega), show 64 * y + (x - 1) = 64 * y + x - 1 by omega]
  · simp [h1]
theorem pc_line (f : Nat → Bool) (y x : Nat) : pc f (64 * y + x) = pc f (64 * y) + pc (fun i => f (64 * y + i)) x := pc_add f (64 * y) x
theorem gR_cnt {M : cm} {o Y : Nat} {r : Nat → Bool} (h : gR M o Y r) {y x : Nat} (hy : y < Y) (hx : x ≤ 64) : pc (hdp r) (64 * y + x) = pc (hdp r) (64 * y) + pc (bx (f_X0_heads (M.2 (o + 1) y))) x := by
  rw [pc_line]
  congr 1
  exact pc_congr (fun i hi => (gR_hd h hy (by omega)).symm)
theorem pc_mask (f : Nat → Bool) {x n : Nat} (h : x ≤ n) : pc (fun i => f i && decide (i < x)) n = pc f x := by
  obtain ⟨d, rfl⟩ := Nat.le.dest h
  rw [pc_add, pc_false (f := fun i => f (x + i) && decide (x + i < x)) (fun i _ => by simp)]
  exact pc_congr (fun i hi => by simp [hi])
theorem w_stretchAt {M : cm} {N : Nat → Nat} {o Y : Nat} {r : Nat → Bool} (hR : gR M o Y r) (hF : gF M o Y r) (hN1 : N (o + 1) = Y) (hN5 : N (o + 5) = Y) (hY : Y ≤ 1024) {y x : Nat} (hy : y < Y) (hx : x < 64) (hp : r (64 * y + x) = true) :
    f_X4_stretchAt o N (zI y) (zI x) M = some (zI ((stp r (64 * y + x) : Nat) : Int)) := by
  unfold f_X4_stretchAt
  simp (disch := omega) only [nm_cz, zI_cl, nm_l_eq, zI_lit, zI_sub, hN1, hN5]
  rw [show ((y : Nat) : Int).toNat = y from rfl, hF y hy]
  have e0 : zI 1 = (1 : Int32) := (zI_lit 1).symm
  have e1 : f_J13_bitCount_95d88 ((M.2 (o + 1) y &&& (nm_shl (M.2 (o + 1) y) (zI 1) ^^^ -1)) &&& nm_shr (-1) (zI (63 - (x : Int)))) = zI ((pc (bx (f_X0_heads (M.2 (o + 1) y))) (x + 1) : Nat) : Int) := by
    rw [bc_eq]
    congr 2
    rw [← pc_mask _ (show x + 1 ≤ 64 by omega)]
    apply pc_congr
    intro i hi
    rw [bx_and]
    congr 1
    · have e2 : (63 - (x : Int)) = ((63 - x : Nat) : Int) := by omega
      rw [e2, bx_shr _ (by omega)]
      by_cases h : i + (63 - x) < 64
      · rw [bx_m1 h]
        simp
        omega
      · rw [bx_big (by omega)]
        simp
        omega
  rw [e1]
  simp only [zI_add, zI_sub]
  congr 2
  obtain ⟨q, a1, a2, a3, a4, a5, a6⟩ := stp_ex hp
  unfold stp
  have := gR_cnt hR hy (show x + 1 ≤ 64 by omega)
  rw [show 64 * y + (x + 1) = 64 * y + x + 1 by omega] at this
  omega
theorem pc_le2 {f : Nat → Bool} {n m : Nat} (h : n ≤ m) : pc f n ≤ m := by
  have := pc_le f n
  omega
theorem stp_lt {r : Nat → Bool} {p n : Nat} (h : p < n) (hp : r p = true) : stp r p < pc (hdp r) n := by
  obtain ⟨q, a1, a2, a3, a4, a5, a6⟩ := stp_ex hp
  have := pc_mono (hdp r) (show p + 1 ≤ n by omega)
  omega
/-- all that a call on links leaves as it was -/
def gO (M M' : cm) (o n : Nat) : Prop := M'.2 = M.2 ∧ ∀ m j, m ≠ o + 6 ∨ n ≤ j → M'.1 m j = M.1 m j
theorem gO_rf (M : cm) (o n : Nat) : gO M M o n := ⟨rfl, fun _ _ _ => rfl⟩
theorem gO_tr {M M1 M2 : cm} {o n : Nat} (h1 : gO M M1 o n) (h2 : gO M1 M2 o n) : gO M M2 o n := ⟨h2.1.trans h1.1, fun m j h => (h2.2 m j h).trans (h1.2 m j h)⟩
theorem gO_R {M M' : cm} {o n Y : Nat} {r : Nat → Bool} (h : gO M M' o n) (hR : gR M o Y r) : gR M' o Y r := by
  intro y x hy hx
  rw [h.1]
  exact hR y x hy hx
theorem gO_F {M M' : cm} {o n Y : Nat} {r : Nat → Bool} (h : gO M M' o n) (hF : gF M o Y r) : gF M' o Y r := by
  intro y hy
  rw [h.2 _ _ (Or.inl (by omega))]
  exact hF y hy
theorem w_root {N : Nat → Nat} {o n : Nat} (hn : n ≤ N (o + 6)) (hb : n ≤ 100000) {M : cm} {lk : Nat → Nat} (hs : M.1 o 7 = zI n) (hL : gL M o n lk) (hd : dn lk) {a : Nat} (ha : a < n) :
    wp (f_X4_root o N (zI a) M) (fun res => res.1 = zI ((rt lk a : Nat) : Int) ∧ ∃ lk', dn lk' ∧ (∀ i, rt lk' i = rt lk i) ∧ gL res.2 o n lk' ∧ gO M res.2 o n) := by
  unfold f_X4_root
  refine wp_s2 (fun res => res.1 = zI ((rt lk a : Nat) : Int) ∧ ∃ lk', dn lk' ∧ (∀ i, rt lk' i = rt lk i) ∧ gL res.2 o n lk' ∧ gO M res.2 o n) ?_ (fun x m h => wp_r h)
  refine lpm (fun f (t : Int32 × Int32 × cm) => f_X4_root_L4 o N f t.1 t.2.1 t.2.2) _ (fun t => ∃ at_ c lk', t.1 = zI ((at_ : Nat) : Int) ∧ t.2.1 = zI ((c : Nat) : Int) ∧ at_ + c ≤ a ∧ dn lk' ∧ (∀ i, rt lk' i = rt lk i) ∧ rt lk at_ = rt lk a ∧ gL t.2.2 o n lk' ∧ gO M t.2.2 o n) (fun t => t.1.toInt.toNat) ?_ nm_F (zI a, 0, M) ?_ ?_
  · rintro f ⟨x2, x3, M1⟩ ⟨at_, c, lk', e1, e2, h1, h2, h3, h4, h5, h6⟩ hn9
    simp only at e1 e2 h5 h6
    subst e1
    subst e2
    show wp (f_X4_root_L4 o N (f + 1) _ _ _) _
    rw [f_X4_root_L4]
    have hat : at_ < n := by omega
    have hlt := h2 at_
    have hlt2 := h2 (lk' at_)
    rw [h6.2 o 7 (Or.inl (by omega)), hs]
    simp (disch := omega) only [zI_le, nm_cz, zI_cl]
    rw [if_neg (by omega), show ((at_ : Nat) : Int).toNat = at_ from rfl, h5 at_ hat]
    simp (disch := omega) only [zI_eq, nm_cz, zI_cl]
    refine wp_if (fun h => wp_r ?_) (fun h => ?_)
    · have hf : lk' at_ = at_ := by omega
      refine ⟨?_, lk', h2, h3, h5, h6⟩
      show zI _ = zI _
      rw [← h4, ← h3, rt_fix hf]
    · have hne : lk' at_ ≠ at_ := by omega
      rw [show ((lk' at_ : Nat) : Int).toNat = lk' at_ from rfl, h5 (lk' at_) (by omega)]
      simp only [nm_l_eq]
      obtain ⟨g1, g2⟩ := rt_half (lk := lk') (lk' := fun j => if j = at_ then lk' (lk' at_) else lk' j) (a := at_) h2 (fun j => rfl)
      have ev : nm_up M1.1 (o + 6) at_ (zI ((lk' (lk' at_) : Nat) : Int)) (o + 6) at_ = zI ((lk' (lk' at_) : Nat) : Int) := by rw [nm_up_ap, if_pos ⟨rfl, rfl⟩]
      rw [ev]
      refine hn9 (_, _, _) ⟨lk' (lk' at_), c + 1, fun j => if j = at_ then lk' (lk' at_) else lk' j, rfl, ?_, by omega, g1, fun i => by rw [g2, h3], ?_, ?_, ?_⟩ ?_
      · show zI _ + 1 = _
        rw [zI_lit, zI_add]
        rfl
      · rw [← h3 (lk' (lk' at_)), rt_lk h2, rt_lk h2, h3, h4]
      · intro i hi
        show nm_up _ _ _ _ _ _ = _
        rw [nm_up_ap]
        by_cases hia : i = at_
        · simp [hia]
        · simp only [hia, and_false, if_false]
          exact h5 i hi
      · refine gO_tr h6 ⟨rfl, fun m j hmj => ?_⟩
        show nm_up _ _ _ _ _ _ = _
        rw [nm_up_ap, if_neg]
        rintro ⟨rfl, rfl⟩
        omega
      · show (zI _).toInt.toNat < (zI _).toInt.toNat
        rw [zI_ti (by omega) (by omega), zI_ti (by omega) (by omega)]
        omega
  · show (zI _).toInt.toNat < _
    rw [zI_ti (by omega) (by omega), nm_F_eq]
    omega
  · exact ⟨a, 0, lk, rfl, rfl, by omega, hd, fun _ => rfl, rfl, hL, gO_rf _ _ _⟩
theorem nm_maxZ {a b : Int} (h1 : -2147483648 ≤ a) (h2 : a < 2147483648) (h3 : -2147483648 ≤ b) (h4 : b < 2147483648) : nm_max (zI a) (zI b) = zI (max a b) := by
  unfold nm_max
  simp (disch := omega) only [zI_lt]
  by_cases h : a < b
  · rw [if_pos h, show max a b = b by omega]
  · rw [if_neg h, show max a b = a by omega]
theorem nm_minZ {a b : Int} (h1 : -2147483648 ≤ a) (h2 : a < 2147483648) (h3 : -2147483648 ≤ b) (h4 : b < 2147483648) : nm_min (zI a) (zI b) = zI (min a b) := by
  unfold nm_min
  simp (disch := omega) only [zI_lt]
  by_cases h : b < a
  · rw [if_pos h, show min a b = b by omega]
  · rw [if_neg h, show min a b = a by omega]
/-- what has one root hangs together -/
def gS (r : Nat → Bool) (C : Nat → Nat → Prop) (Y : Nat) (lk : Nat → Nat) : Prop := ∀ p q, p < 64 * Y → q < 64 * Y → r p = true → r q = true → rt lk (stp r p) = rt lk (stp r q) → C p q
set_option maxHeartbeats 2000000 in
theorem w_unite {N : Nat → Nat} {o n Y : Nat} {r : Nat → Bool} {C : Nat → Nat → Prop} (hs9 : ∀ a b, C a b → C b a) (ht9 : ∀ a b c, C a b → C b c → C a c) (hY : Y ≤ 1024) (hN1 : N (o + 1) = Y) (hN5 : N (o + 5) = Y) (hn : n ≤ N (o + 6)) (hn2 : n = pc (hdp r) (64 * Y)) {M : cm} {lk : Nat → Nat} (hs : M.1 o 7 = zI n) (hR : gR M o Y r) (hF : gF M o Y r) (hL : gL M o n lk) (hd : dn lk) {a b : Nat} (ha : a < Y) (hb : b < Y) {w : Int64} (hw : ∀ x, x < 64 → bx w x = true → r (64 * a + x) = true ∧ r (64 * b + x) = true ∧ C (64 * a + x) (64 * b + x)) (hS : gS r C Y lk) :
    wp (f_X4_unite o N (zI a) (zI b) w M) (fun M' => ∃ lk', dn lk' ∧ gL M' o n lk' ∧ gO M M' o n ∧ gS r C Y lk' ∧ (∀ i j, rt lk i = rt lk j → rt lk' i = rt lk' j) ∧ ∀ x, x < 64 → bx w x = true → rt lk' (stp r (64 * a + x)) = rt lk' (stp r (64 * b + x))) := by
  have hnb : n ≤ 65536 := by
    rw [hn2]
    exact pc_le2 (by omega)
  unfold f_X4_unite
  simp only [nm_l_eq]
  refine wp_s1 (fun M' => ∃ lk', dn lk' ∧ gL M' o n lk' ∧ gO M M' o n ∧ gS r C Y lk' ∧ (∀ i j, rt lk i = rt lk j → rt lk' i = rt lk' j) ∧ ∀ x, x < 64 → bx w x = true → rt lk' (stp r (64 * a + x)) = rt lk' (stp r (64 * b + x))) ?_ (fun M' h => wp_r h)
  have e0 : (0 : Int32) = zI ((pc (bx (f_X0_heads w)) 0 : Nat) : Int) := zI_lit 0
  rw [e0, bc_eq]
  refine lpb (fun f => f_X4_unite_L16 o N (zI a) (zI b) (zI ((pc (bx (f_X0_heads w)) 64 : Nat) : Int)) f) _ (f_X0_heads w) (fun p M' => ∃ lk', dn lk' ∧ gL M' o n lk' ∧ gO M M' o n ∧ gS r C Y lk' ∧ (∀ i j, rt lk i = rt lk j → rt lk' i = rt lk' j) ∧ ∀ x, x < p → bx w x = true → rt lk' (stp r (64 * a + x)) = rt lk' (stp r (64 * b + x))) ?_ ?_ ?_ nm_F 0 M _ (by omega) (fun x hx => by simp) (by rw [nm_F_eq]; omega) ⟨lk, hd, hL, gO_rf _ _ _, hS, fun _ _ h => h, fun x hx => by omega⟩
  · rintro p M' hp hh ⟨lk', a1, a2, a3, a4, a5, a6⟩
    refine ⟨lk', a1, a2, a3, a4, a5, fun x hx hbx => ?_⟩
    by_cases hxp : x < p
    · exact a6 x hxp hbx
    · have hxe : x = p := by omega
      subst hxe
      rw [bx_heads w hp, hbx] at hh
      have h1 : 1 ≤ x ∧ bx w (x - 1) = true := by simpa using hh
      obtain ⟨g1, g2, -⟩ := hw x hp hbx
      obtain ⟨g3, g4, -⟩ := hw (x - 1) (by omega) h1.2
      have e1 := stp_left (r := r) (p := 64 * a + x) g1 (by rw [show 64 * a + x - 1 = 64 * a + (x - 1) by omega]; exact g3) (by omega)
      have e2 := stp_left (r := r) (p := 64 * b + x) g2 (by rw [show 64 * b + x - 1 = 64 * b + (x - 1) by omega]; exact g4) (by omega)
      rw [← e1, ← e2, show 64 * a + x - 1 = 64 * a + (x - 1) by omega, show 64 * b + x - 1 = 64 * b + (x - 1) by omega]
      exact a6 (x - 1) (by omega) h1.2
  · rintro f v i M' p hp hh ⟨lk', a1, a2, a3, a4, a5, a6⟩ hlow hi hlt hk
    have hpc64 := pc_le (bx (f_X0_heads w)) 64
    have hbw : bx w p = true := by
      rw [bx_heads w hp] at hh
      cases h : bx w p with
      | true => rfl
      | false =>
        rw [h] at hh
        exact absurd hh (by simp)
    obtain ⟨g1, g2, g3⟩ := hw p hp hbw
    subst hi
    show wp (f_X4_unite_L16 o N (zI a) (zI b) (zI ((pc (bx (f_X0_heads w)) 64 : Nat) : Int)) (f + 1) v _ M') _
    rw [f_X4_unite_L16]
    simp (disch := omega) only [zI_le]
    rw [if_neg (by omega), hlow]
    simp only [nm_l_eq]
    have s1 : stp r (64 * a + p) < n := by
      rw [hn2]
      exact stp_lt (by omega) g1
    have s2 : stp r (64 * b + p) < n := by
      rw [hn2]
      exact stp_lt (by omega) g2
    rw [w_stretchAt (gO_R a3 hR) (gO_F a3 hF) hN1 hN5 hY ha hp g1]
    simp only [nm_s1_some]
    refine wp_s2 _ (w_root hn (by omega) (by rw [a3.2 _ _ (Or.inl (by omega))]; exact hs) a2 a1 s1) ?_
    rintro x1 M1 ⟨e1, lk1, b1, b2, b3, b4⟩
    simp only at e1 b3 b4
    subst e1
    have o1 := gO_tr a3 b4
    rw [w_stretchAt (gO_R o1 hR) (gO_F o1 hF) hN1 hN5 hY hb hp g2]
    simp only [nm_s1_some]
    refine wp_s2 _ (w_root hn (by omega) (by rw [o1.2 _ _ (Or.inl (by omega))]; exact hs) b3 b1 s2) ?_
    rintro x2 M2 ⟨e2, lk2, c1, c2, c3, c4⟩
    simp only at e2 c3 c4
    subst e2
    have o2 := gO_tr o1 c4
    rw [b2] 
    have r1 := rt_le a1 (stp r (64 * a + p))
    have r2 := rt_le a1 (stp r (64 * b + p))
    have q1 : lk2 (rt lk' (stp r (64 * a + p))) = rt lk' (stp r (64 * a + p)) := by
      have := rt_root c1 (stp r (64 * a + p))
      rw [c2, b2] at this
      exact this
    have q2 : lk2 (rt lk' (stp r (64 * b + p))) = rt lk' (stp r (64 * b + p)) := by
      have := rt_root c1 (stp r (64 * b + p))
      rw [c2, b2] at this
      exact this
    generalize hA : rt lk' (stp r (64 * a + p)) = A at *
    generalize hB : rt lk' (stp r (64 * b + p)) = B at *
    simp (disch := omega) only [nm_maxZ, nm_minZ, nm_cz, zI_cl]
    obtain ⟨j1, j2⟩ := rt_join (lk := lk2) (lk' := fun j => if j = max A B then min A B else lk2 j) (a := min A B) (b := max A B) c1 (by rcases Nat.le_total A B with h | h <;> simp [h, Nat.min_eq_left, Nat.min_eq_right, q1, q2]) (by rcases Nat.le_total A B with h | h <;> simp [h, Nat.max_eq_left, Nat.max_eq_right, q1, q2]) (by omega) (fun j => rfl)
    have j3 : ∀ x, rt (fun j => if j = max A B then min A B else lk2 j) x = if rt lk' x = max A B then min A B else rt lk' x := by
      intro x
      rw [j2, c2, b2]
    have emx : (max (A : Int) (B : Int)).toNat = max A B := by omega
    have emn : min (A : Int) (B : Int) = ((min A B : Nat) : Int) := by omega
    rw [emx, emn]
    refine hk _ ⟨fun j => if j = max A B then min A B else lk2 j, j1, ?_, ?_, ?_, ?_, ?_⟩
    · intro i hi
      show nm_up _ _ _ _ _ _ = _
      rw [nm_up_ap]
      by_cases hia : i = max A B
      · simp [hia]
      · simp only [hia, and_false, if_false]
        exact c3 i hi
    · refine gO_tr o2 ⟨rfl, fun m j hmj => ?_⟩
      show nm_up _ _ _ _ _ _ = _
      rw [nm_up_ap, if_neg]
      rintro ⟨rfl, rfl⟩
      omega
    · intro x y hx hy rx ry hxy
      rw [j3, j3] at hxy
      have cA : ∀ z, z < 64 * Y → r z = true → rt lk' (stp r z) = A → C z (64 * a + p) := fun z hz rz h => a4 z (64 * a + p) hz (by omega) rz g1 (by rw [h, hA])
      have cB : ∀ z, z < 64 * Y → r z = true → rt lk' (stp r z) = B → C z (64 * a + p) := fun z hz rz h => ht9 _ _ _ (a4 z (64 * b + p) hz (by omega) rz g2 (by rw [h, hB])) (hs9 _ _ g3)
      by_cases hAB : rt lk' (stp r x) = rt lk' (stp r y)
      · exact a4 x y hx hy rx ry hAB
      · have cx : rt lk' (stp r x) = A ∨ rt lk' (stp r x) = B := by
          split at hxy <;> split at hxy <;> omega
        have cy : rt lk' (stp r y) = A ∨ rt lk' (stp r y) = B := by
          split at hxy <;> split at hxy <;> omega
        have k1 : C x (64 * a + p) := by
          rcases cx with h | h
          · exact cA x hx rx h
          · exact cB x hx rx h
        have k2 : C y (64 * a + p) := by
          rcases cy with h | h
          · exact cA y hy ry h
          · exact cB y hy ry h
        exact ht9 _ _ _ k1 (hs9 _ _ k2)
    · intro i j h
      rw [j3, j3, a5 i j h]
    · intro x hx hbx
      rw [j3, j3]
      by_cases hxp : x < p
      · rw [a6 x hxp hbx]
      · have hxe : x = p := by omega
        subst hxe
        rw [hA, hB]
        rcases Nat.le_total A B with h | h
        · simp only [Nat.max_eq_right h, Nat.min_eq_left h]
          by_cases hab : A = B
          · simp [hab]
          · simp [hab]
        · simp only [Nat.max_eq_left h, Nat.min_eq_right h]
          by_cases hab : B = A
          · simp [hab]
          · simp [hab]
  · rintro f v i M' hi ⟨lk', a1, a2, a3, a4, a5, a6⟩
    have hpc64 := pc_le (bx (f_X0_heads w)) 64
    subst hi
    show wp (f_X4_unite_L16 o N (zI a) (zI b) (zI ((pc (bx (f_X0_heads w)) 64 : Nat) : Int)) (f + 1) v _ M') _
    rw [f_X4_unite_L16]
    simp (disch := omega) only [zI_le, Int.le_refl, if_true]
    exact wp_r ⟨lk', a1, a2, a3, a4, a5, a6⟩
