/-! all lines of a map, and both maps, by the program -/
noncomputable def wk (k : Nat) (g : Nat → Bool) (x : Nat) : Bool := if k = 0 then g x else bP (g x = false ∧ (∃ j, j < x ∧ g j = true) ∧ ∃ j, x < j ∧ j < 64 ∧ g j = true)
theorem wk_congr {k : Nat} {g g' : Nat → Bool} (h : ∀ x, x < 64 → g x = g' x) {x : Nat} (hx : x < 64) : wk k g x = wk k g' x := by
  unfold wk
  rw [h x hx]
  have e : bP (g' x = false ∧ (∃ j, j < x ∧ g j = true) ∧ ∃ j, x < j ∧ j < 64 ∧ g j = true) = bP (g' x = false ∧ (∃ j, j < x ∧ g' j = true) ∧ ∃ j, x < j ∧ j < 64 ∧ g' j = true) := by
    refine bP_congr ?_
    constructor
    · rintro ⟨a, ⟨j, j1, j2⟩, i, i1, i2, i3⟩
      exact ⟨a, ⟨j, j1, by rw [← h j (by omega)]; exact j2⟩, i, i1, i2, by rw [← h i i2]; exact i3⟩
    · rintro ⟨a, ⟨j, j1, j2⟩, i, i1, i2, i3⟩
      exact ⟨a, ⟨j, j1, by rw [h j (by omega)]; exact j2⟩, i, i1, i2, by rw [h i i2]; exact i3⟩
  rw [e]
noncomputable def mpL (G : Nat → Nat → Bool) (s2 s3 k R V n : Nat) (L : List ft) : List ft := fo (fun y L => lnL (wk k (G y)) (fun x => s2 * y + s3 * x) R V 64 L) n L
theorem mpL_len (G : Nat → Nat → Bool) (s2 s3 k R V n : Nat) (L : List ft) : (mpL G s2 s3 k R V n L).length ≤ L.length + 64 * n := by
  induction n with
  | zero => exact Nat.le_refl _
  | succ n ih =>
    have := lnL_len (wk k (G n)) (fun x => s2 * n + s3 * x) R V 64 (mpL G s2 s3 k R V n L)
    show (lnL (wk k (G n)) (fun x => s2 * n + s3 * x) R V 64 (mpL G s2 s3 k R V n L)).length ≤ _
    omega
abbrev d8 (M : cm) (G : Nat → Nat → Bool) : Prop := ∀ y x, y < 64 → x < 64 → bx (M.2 208 y) x = G y x
set_option maxHeartbeats 1000000 in
theorem w_holdMap {N : Nat → Nat} (hN : 2400 ≤ N 201) {s2 s3 : Nat} (hs : strd s2 s3) {M : cm} {G : Nat → Nat → Bool} (hG : d8 M G) {R V k : Nat} (hR : R < 16) (hV : V ≤ 4096) (hk : k < 2) (hv : M.1 207 R = zI (V : Nat)) (hkd : M.1 204 R = zI (k : Nat)) {L : List ft} (hlen : L.length < 800000) (hL : faX M L) :
    wp (f_X8_holdMap N (zI (R : Nat)) (zI (s2 : Nat)) (zI (s3 : Nat)) M) (fun M' => faX M' (mpL G s2 s3 k R V 64 L) ∧ faXF M M') := by
  have key : ∀ (f y : Nat) (S : cm), y ≤ 64 → 64 - y < f → faX S (mpL G s2 s3 k R V y L) → faXF M S → wp (f_X8_holdMap_L3 N (zI (R : Nat)) (zI (s2 : Nat)) (zI (s3 : Nat)) f (zI (y : Nat)) S) (fun M' => faX M' (mpL G s2 s3 k R V 64 L) ∧ faXF M M') := by
    intro f
    induction f with
    | zero => intro y S h1 h2; omega
    | succ f ih =>
      intro y S hy hf hI hF
      have hlk := mpL_len G s2 s3 k R V y L
      rw [f_X8_holdMap_L3, show (64 : Int32) = zI 64 from rfl]
      simp (disch := omega) only [zI_le]
      refine wp_if (fun h => ?_) (fun h => ?_)
      · have : y = 64 := by omega
        subst this
        exact wp_r ⟨hI, hF⟩
      have hy6 : y < 64 := by omega
      have s207 : S.1 207 R = zI (V : Nat) := (hF.2 207 R (by omega) (by omega)).trans hv
      have s204 : S.1 204 R = zI (k : Nat) := (hF.2 204 R (by omega) (by omega)).trans hkd
      have hnext : ∀ w : Int64, (∀ x, x < 64 → bx w x = wk k (G y) x) → wp (f_X8_holdMap_J39 N (zI (R : Nat)) (zI (s2 : Nat)) (zI (s3 : Nat)) (zI (y : Nat)) w S (f_X8_holdMap_L3 N (zI (R : Nat)) (zI (s2 : Nat)) (zI (s3 : Nat)) f)) (fun M' => faX M' (mpL G s2 s3 k R V 64 L) ∧ faXF M M') := by
        intro w hw
        refine w_holdRow hN hs hy6 hR hV s207 (by omega) hI w (fun M' z1 z2 => ?_)
        refine ih (y + 1) M' (by omega) (by omega) ?_ ⟨z2.1.trans hF.1, fun n j a b => (z2.2 n j a b).trans (hF.2 n j a b)⟩
        rw [lnL_congr hw (Nat.le_refl _)] at z1
        exact z1
      have hrow : ∀ x, x < 64 → bx (S.2 208 y) x = G y x := fun x hx => by
        rw [hF.1]
        exact hG y x hy6 hx
      rw [nm_cz (by omega) (by omega) (by omega), zI_cl (by omega) (by omega), Int.toNat_natCast, s204, zI_0]
      simp (disch := omega) only [zI_eq]
      refine wp_if (fun h2 => ?_) (fun h2 => ?_)
      · rw [nm_cz (by omega) (by omega) (by omega), zI_cl (by omega) (by omega), Int.toNat_natCast]
        refine hnext _ (fun x hx => ?_)
        rw [hrow x hx]
        unfold wk
        rw [if_pos (by omega)]
      · rw [nm_cz (by omega) (by omega) (by omega), zI_cl (by omega) (by omega), Int.toNat_natCast]
        refine wp_s1 _ (w_gaps _) ?_
        intro v hv9
        refine hnext v (fun x hx => ?_)
        rw [← wk_congr hrow hx]
        apply Bool.eq_iff_iff.mpr
        rw [hv9 x hx]
        unfold wk
        rw [if_neg (by omega), bP_t]
  unfold f_X8_holdMap
  rw [zI_0]
  exact wp_s1 _ (key nm_F 0 M (by omega) (by rw [nm_F_eq]; omega) hL ⟨rfl, fun _ _ _ _ => rfl⟩) (fun _ h => wp_r h)
/-- both maps of a layer: along the rows, then along the columns -/
noncomputable def liL (r : Nat → Bool) (k R V : Nat) (L : List ft) : List ft := mpL (fun y x => r (64 * x + y)) 1 64 k R V 64 (mpL (fun y x => r (64 * y + x)) 64 1 k R V 64 L)
theorem w_holdLines {N : Nat → Nat} (hN : 2400 ≤ N 201) (hN8 : N 208 = 64) {M : cm} {D : Nat → Bool} (hD : dM M D) {R V k l : Nat} (hR : R < 16) (hV : V ≤ 4096) (hk : k < 2) (hl : l < 16) (hv : M.1 207 R = zI (V : Nat)) (hkd : M.1 204 R = zI (k : Nat)) (hly : M.1 205 R = zI (l : Nat)) {L : List ft} (hlen : L.length < 700000) (hL : faX M L) :
    wp (f_X8_holdLines N (zI (R : Nat)) M) (fun M' => faX M' (liL (rl D l) k R V L) ∧ ruF M M') := by
  unfold f_X8_holdLines nm_cp
  rw [nm_cz (by omega) (by omega) (by omega), zI_cl (by omega) (by omega), Int.toNat_natCast, hly, show (64 : Int32) * zI (l : Nat) = zI ((64 * l : Nat) : Int) by rw [show (64 : Int32) = zI 64 from rfl, zI_mul]; rfl, if_pos (by
    rw [zI_ti (by omega) (by omega), show (0 : Int32).toInt = 0 from rfl, show (64 : Int32).toInt = 64 by decide]
    omega), nm_l_eq, zI_cl (by omega) (by omega), Int.toNat_natCast, show (0 : Int32).toNatClampNeg = 0 from rfl, show (64 : Int32).toNatClampNeg = 64 by decide]
  obtain ⟨B, hB⟩ : ∃ B, B = va_up M.2 208 (va_cpy (M.2 101) (M.2 208) (64 * l) 0 64) := ⟨_, rfl⟩
  have hB1 : ∀ q, q ≠ 208 → B q = M.2 q := fun q hq => by rw [hB, va_up_ne _ _ hq]
  have hB2 : ∀ y, y < 64 → B 208 y = M.2 101 (64 * l + y) := fun y hy => by
    rw [hB, va_up_self]
    unfold va_cpy
    rw [if_pos (by omega), show 64 * l + (y - 0) = 64 * l + y by omega]
  rw [← hB]
  clear hB
  have hG1 : d8 (M.1, B) (fun y x => rl D l (64 * y + x)) := fun y x hy hx => by
    show bx (B 208 y) x = _
    rw [hB2 y hy, hD _ _ (by omega) hx]
    show _ = rl D l (64 * y + x)
    unfold rl
    rw [decide_eq_true (by omega), Bool.true_and]
    exact congrArg D (by omega)
  have hm1 := w_holdMap hN (M := (M.1, B)) (Or.inl ⟨rfl, rfl⟩) hG1 hR hV hk hv hkd (by omega) hL
  refine wp_s1 _ hm1 ?_
  rintro M4 ⟨z1, z2⟩
  refine wp_s1 _ (w_transpose (a := 208) hN8 (M := M4)) ?_
  rintro M6 ⟨t1, t2, t3⟩
  have hG2 : d8 M6 (fun y x => rl D l (64 * x + y)) := fun y x hy hx => by
    rw [t1 y x hy hx, z2.1]
    exact hG1 x y hx hy
  have hlk := mpL_len (fun y x => rl D l (64 * y + x)) 64 1 k R V 64 L
  have hm2 := w_holdMap hN (M := M6) (Or.inr ⟨rfl, rfl⟩) hG2 hR hV hk (by rw [t2, z2.2 _ _ (by omega) (by omega)]; exact hv) (by rw [t2, z2.2 _ _ (by omega) (by omega)]; exact hkd) (by omega) (faX_1 z1 t2)
  refine wp_s1 _ hm2 ?_
  rintro M8 ⟨q1, q2⟩
  refine wp_r ⟨q1, fun q hq => ?_, fun n j a b => ?_⟩
  · rw [q2.1]
    funext j
    rw [t3 q j (fun h => hq h.1), z2.1]
    exact congrFun (hB1 q hq) j
  · rw [q2.2 n j a b, t2, z2.2 n j a b]
