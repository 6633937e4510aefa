/-! layers made of layers -/
noncomputable def tcP (r rb : Nat → Bool) (q : Nat) : Bool := r q && bP (∃ p, p < 4096 ∧ r p = true ∧ rb p = true ∧ CP r p q)
noncomputable def mkP (D : Nat → Bool) (op : Int) (a b q : Nat) : Bool :=
  if op = 0 then rl D a q && rl D b q else if op = 1 then rl D a q || rl D b q else if op = 2 then rl D a q && !rl D b q else if op = 3 then sp true (rl D a) b q else if op = 4 then sp false (rl D a) b q else if op = 5 then tcP (rl D a) (rl D b) q else false
def setL (D : Nat → Bool) (k : Nat) (f : Nat → Bool) (p : Nat) : Bool := if 4096 * k ≤ p ∧ p < 4096 * k + 4096 then f (p - 4096 * k) else D p
/-- all that finding parts of a layer, and making a layer, leaves as it was -/
def pcs (S S' : ca) : Prop := (∀ m, m ≠ 101 → m ≠ 111 → S'.1.2 m = S.1.2 m) ∧ (∀ x, x < 112 ∨ 117 < x → S'.2 x = S.2 x) ∧ ∀ m k, m < 110 ∨ 117 < m → S'.1.1 m k = S.1.1 m k
theorem pcs_rf (S : ca) : pcs S S := ⟨fun _ _ _ => rfl, fun _ _ => rfl, fun _ _ _ => rfl⟩
theorem pcs_tr {S S1 S2 : ca} (h1 : pcs S S1) (h2 : pcs S1 S2) : pcs S S2 := ⟨fun m a b => (h2.1 m a b).trans (h1.1 m a b), fun x h => (h2.2.1 x h).trans (h1.2.1 x h), fun m k h => (h2.2.2 m k h).trans (h1.2.2 m k h)⟩
theorem dR_set {S S' : ca} {D f : Nat → Bool} {k : Nat} (hD : dR S D) (h1 : ∀ j, ¬ (64 * k ≤ j ∧ j < 64 * k + 64) → S'.1.2 101 j = S.1.2 101 j) (h2 : ∀ y x, y < 64 → x < 64 → bx (S'.1.2 101 (64 * k + y)) x = f (64 * y + x)) : dR S' (setL D k f) := by
  intro y x hy hx
  unfold setL
  by_cases h : 64 * k ≤ y ∧ y < 64 * k + 64
  · rw [if_pos ⟨by omega, by omega⟩]
    have := h2 (y - 64 * k) x (by omega) hx
    rw [show 64 * k + (y - 64 * k) = y by omega] at this
    rw [this]
    congr 1
    omega
  · rw [if_neg (by omega), h1 y h]
    exact hD y x hy hx
theorem dR_rl {S : ca} {D : Nat → Bool} (hD : dR S D) {l y x : Nat} (hl : l < 16) (hy : y < 64) (hx : x < 64) : bx (S.1.2 101 (64 * l + y)) x = rl D l (64 * y + x) := by
  rw [hD _ _ (by omega) hx]
  unfold rl
  have : 64 * y + x < 4096 := by omega
  simp only [this, decide_true, Bool.true_and]
  congr 1
  omega
theorem w_mixed {op : Int} (h0 : 0 ≤ op) (h1 : op < 3) (u v : Int64) {x : Nat} (hx : x < 64) : bx (f_X3_mixed (zI op) u v) x = if op = 0 then (bx u x && bx v x) else if op = 1 then (bx u x || bx v x) else (bx u x && !bx v x) := by
  unfold f_X3_mixed
  simp (disch := omega) only [zI_lit, zI_eq]
  by_cases e0 : op = 0
  · rw [if_pos e0, if_pos e0, bx_and]
  · rw [if_neg e0, if_neg e0]
    by_cases e1 : op = 1
    · rw [if_pos e1, if_pos e1, bx_or]
    · rw [if_neg e1, if_neg e1, bx_and, bx_not _ hx]
theorem hit_tc {r rb : Nat → Bool} {lab : Nat → Int} {cnt q : Nat} (hL : Lab r (CP r) 4096 lab cnt) (hq : q < 4096) : (r q && hitP r rb lab 4096 (lab q).toNat) = tcP r rb q := by
  unfold tcP
  cases hr : r q with
  | false => rfl
  | true =>
    have hge : 0 ≤ lab q := (Lab_rng hL hq).2.2.mpr hr
    have e : (∃ p, p < 4096 ∧ r p = true ∧ rb p = true ∧ lab p = ((lab q).toNat : Int)) ↔ (∃ p, p < 4096 ∧ r p = true ∧ rb p = true ∧ CP r p q) := by
      constructor
      · rintro ⟨p, a, b, c, d⟩
        exact ⟨p, a, b, c, (Lab_eq CP_sy CP_tr hL a hq b hr).mp (by omega)⟩
      · rintro ⟨p, a, b, c, d⟩
        refine ⟨p, a, b, c, ?_⟩
        have := (Lab_eq CP_sy CP_tr hL a hq b hr).mpr d
        omega
    unfold hitP
    rw [propext e]
theorem frG_pcs {S S' : ca} (hJ : ∀ m, m ≠ 110 + 1 → S'.1.2 m = S.1.2 m) (hN : ∀ x, x < 110 + 2 ∨ 110 + 6 < x → S'.2 x = S.2 x) (hf : fr S S' (frG 110)) : pcs S S' :=
  ⟨fun m _ h => hJ m h, fun x h => hN x (by omega), fun m k h => hf m k (by unfold frG; omega)⟩
set_option maxHeartbeats 4000000 in
theorem w_make {D : Nat → Bool} {k a b : Nat} {op : Int} (hk : k < 16) (hk8 : 8 ≤ k) (hop : -1 ≤ op) (hop5 : op ≤ 5) (ha : a < k) (hb : (op = 3 ∨ op = 4) → b ≤ 9) (hb2 : (op ≠ 3 ∧ op ≠ 4) → b < k) {S : ca} (hc : cO S.2) (hD : dR S D) :
    wc sN (f_X3_make (zI (k : Nat)) (zI op) (zI ((64 * a : Nat) : Int)) (zI (b : Nat)) S) S.2 (fun S' => dR S' (setL D k (mkP D op a b)) ∧ cO S'.2 ∧ pcs S S') := by
  have hN101 := cl_l101 hc.1
  unfold f_X3_make
  simp only [nm_l_eq, zI_lit, zI_mul]
  have hgs : ∀ fl, (fl = 1 ∧ op = 3) ∨ (fl = 0 ∧ op = 4) → wc sN (f_X3_make_J39 fl (zI (b : Nat)) (zI (64 * (k : Nat))) (zI ((64 * a : Nat) : Int)) S) S.2 (fun S' => dR S' (setL D k (mkP D op a b)) ∧ cO S'.2 ∧ pcs S S') := by
    intro fl hfl
    unfold f_X3_make_J39
    obtain ⟨g, hg1, hg2⟩ : ∃ g : Bool, fl = (if g = true then 1 else 0) ∧ mkP D op a b = sp g (rl D a) b := by
      rcases hfl with ⟨h1, h2⟩ | ⟨h1, h2⟩
      · exact ⟨true, by rw [h1]; rfl, by funext q; rw [h2]; rfl⟩
      · exact ⟨false, by rw [h1]; rfl, by funext q; rw [h2]; rfl⟩
    rw [hg1]
    have hb9 : b ≤ 9 := hb (by rcases hfl with h | h <;> omega)
    refine wc_s1 _ (w_spread (a := 101) (N := S.2) (l := a) (st := 64 * k) (n := b) (g := g) (r := rl D a) (by omega) hb9 (by omega) (by omega) (fun _ => by omega) (fun y x hy hx => dR_rl hD (by omega) hy hx)) ?_
    rintro M' ⟨m1, m2, m3⟩
    simp only [nm_l_eq]
    refine wc_r ⟨dR_set hD (fun j hj => m2 _ _ (fun h => hj h.2)) (fun y x hy hx => ?_), hc, ?_⟩
    · rw [hg2]
      exact m3 y x hy hx
    · exact ⟨fun m h _ => funext fun j => m2 _ _ (fun h2 => h h2.1), fun _ _ => rfl, fun m j _ => by show M'.1 m j = _; rw [m1]⟩
  refine wc_if (fun h => ?_) (fun h => ?_)
  · have h3 : op = 3 := (zI_eq (by omega) (by omega) (by omega) (by omega)).mp h
    subst h3
    unfold f_X3_make_J16
    rw [if_pos (by rfl)]
    exact hgs 1 (Or.inl ⟨rfl, rfl⟩)
  have h3 : op ≠ 3 := fun e => h (by rw [e])
  refine wc_if (fun h => ?_) (fun h => ?_)
  · have h4 : op = 4 := (zI_eq (by omega) (by omega) (by omega) (by omega)).mp h
    subst h4
    unfold f_X3_make_J16
    rw [if_neg (by decide)]
    exact hgs 0 (Or.inr ⟨rfl, rfl⟩)
  have h4 : op ≠ 4 := fun e => h (by rw [e])
  refine wc_if (fun h => ?_) (fun h => ?_)
  · have h5 : op = 5 := (zI_eq (by omega) (by omega) (by omega) (by omega)).mp h
    subst h5
    refine wc_a1 _ (w_find gM_110 (by decide) (l := a) (by omega) hc hD) ?_
    rintro S1 ⟨lab, cnt, ⟨g1, g2, g3, g4, g5⟩, f2, f3, f4, f5⟩
    have hD1 : dR S1 D := fun y x hy hx => by rw [f3 101 (by decide)]; exact hD y x hy hx
    rw [show (64 : Int) * ((b : Nat) : Int) = ((64 * b : Nat) : Int) by omega]
    refine wc_a1 _ (w_touch (b := b) (by have := hb2 ⟨by omega, by omega⟩; omega) f2 hD1 g1) ?_
    rintro S2 ⟨t1, t2, t3, t4, t5, t6, t7⟩
    have hD2 : dR S2 D := fun y x hy hx => by rw [t5]; exact hD1 y x hy hx
    have hp2 : pcs S S2 := pcs_tr (frG_pcs f3 f4 f5) ⟨fun m _ _ => by rw [t5], fun x h => t6 x (by omega), fun m j h => t7 m j (by omega)⟩
    have hL := t1.2.2.2.2.2.2
    refine wc_s1 (fun S3 => (∀ y x, y < 64 → x < 64 → bx (S3.1.2 101 (64 * k + y)) x = mkP D 5 a b (64 * y + x)) ∧ S3.2 = S2.2 ∧ S3.1.1 = S2.1.1 ∧ ∀ m j, ¬ (m = 101 ∧ 64 * k ≤ j ∧ j < 64 * k + 64) → S3.1.2 m j = S2.1.2 m j) ?_ ?_
    · refine lpc (fun f => f_X3_make_L81 (zI (64 * (k : Nat))) f) _ 64 (fun i S3 => 0 ≤ i ∧ (∀ (y x : Nat), (y : Int) < i → y < 64 → x < 64 → bx (S3.1.2 101 (64 * k + y)) x = mkP D 5 a b (64 * y + x)) ∧ S3.2 = S2.2 ∧ S3.1.1 = S2.1.1 ∧ ∀ m j, ¬ (m = 101 ∧ 64 * k ≤ j ∧ j < 64 * k + 64) → S3.1.2 m j = S2.1.2 m j) ?_ ?_ nm_F 0 _ (by omega) (by rw [nm_F_eq]; omega) ⟨by omega, fun y x hy => by omega, rfl, rfl, fun _ _ _ => rfl⟩
      · rintro f i S3 hi ⟨h0, k1, k2, k3, k4⟩ hn9
        show wp (f_X3_make_L81 _ (f + 1) _ _) _
        obtain ⟨y, rfl⟩ := Int.eq_ofNat_of_zero_le h0
        have g9 : gD S3 110 64 (rl D a) (CP (rl D a)) lab cnt := by
          have hJ : S3.1.2 (110 + 1) = S2.1.2 (110 + 1) := funext fun j => k4 _ _ (fun h => by omega)
          obtain ⟨q1, q2, q3, q4, q5, q6, q7⟩ := t1
          refine ⟨?_, ?_, ?_, ?_, ?_, ?_, q7⟩
          · intro y x hy hx
            rw [hJ]
            exact q1 y x hy hx
          · intro y hy
            rw [k3]
            exact q2 y hy
          · intro p hp hr
            rw [k3]
            exact q3 p hp hr
          · rw [k3]
            exact q4
          · rw [k2]
            exact q5
          · rw [k3]
            exact q6
        rw [f_X3_make_L81]
        simp (disch := omega) only [zI_lit, zI_le, nm_l_eq, zI_add]
        rw [if_neg (by omega)]
        refine wp_s1 _ (w_touchedIn (T := fun g => hitP (rl D a) (rl D b) lab 4096 g) (by rw [k2]; exact t2) g9 (by rw [k2]; exact t3) (fun g hg => by rw [k3]; exact t4 g hg) (show y < 64 by omega)) ?_
        intro w hw
        refine wp_cz (by omega) (by omega) (by omega) ?_
        rw [zI_cl (by omega) (by omega), show (64 * ((k : Nat) : Int) + ((y : Nat) : Int)).toNat = 64 * k + y by omega]
        refine hn9 _ ⟨by omega, ?_, k2, k3, ?_⟩
        · intro y' x hy' hy64 hx
          show bx (nm_upJ _ _ _ _ _ _) x = _
          rw [nm_upJ_ap]
          by_cases he : y' = y
          · subst he
            rw [if_pos ⟨rfl, rfl⟩, hw x hx]
            exact hit_tc hL (by omega)
          · rw [if_neg (by omega)]
            exact k1 y' x (by omega) hy64 hx
        · intro m j hm
          show nm_upJ _ _ _ _ _ _ = _
          rw [nm_upJ_ap, if_neg (by rintro ⟨h1, h2⟩; exact hm ⟨h1, by omega, by omega⟩)]
          exact k4 m j hm
      · rintro f S3 ⟨h0, k1, k2, k3, k4⟩
        show wp (f_X3_make_L81 _ (f + 1) _ _) _
        rw [f_X3_make_L81]
        simp (disch := omega) only [zI_lit, zI_le, Int.le_refl, if_true]
        exact wp_r ⟨fun y x hy hx => k1 y x (by omega) hy hx, k2, k3, k4⟩
    rintro S3 ⟨k1, k2, k3, k4⟩
    rw [show sN S2 = S3.2 from k2.symm]
    refine wc_r ⟨dR_set hD2 (fun j hj => k4 _ _ (fun h => hj h.2)) k1, by rw [k2]; exact t2, pcs_tr hp2 ⟨fun m h _ => funext fun j => k4 _ _ (fun h2 => h h2.1), fun _ _ => by rw [k2], fun m j _ => by rw [k3]⟩⟩
  have h5 : op ≠ 5 := fun e => h (by rw [e])
  have hbk := hb2 ⟨h3, h4⟩
  refine wc_s1 (fun S3 => (∀ y x, y < 64 → x < 64 → bx (S3.1.2 101 (64 * k + y)) x = mkP D op a b (64 * y + x)) ∧ S3.2 = S.2 ∧ S3.1.1 = S.1.1 ∧ ∀ m j, ¬ (m = 101 ∧ 64 * k ≤ j ∧ j < 64 * k + 64) → S3.1.2 m j = S.1.2 m j) ?_ ?_
  · refine lpc (fun f => f_X3_make_L119 (zI op) (zI ((64 * a : Nat) : Int)) (zI (b : Nat)) (zI (64 * (k : Nat))) f) _ 64 (fun i S3 => 0 ≤ i ∧ (∀ (y x : Nat), (y : Int) < i → y < 64 → x < 64 → bx (S3.1.2 101 (64 * k + y)) x = mkP D op a b (64 * y + x)) ∧ S3.2 = S.2 ∧ S3.1.1 = S.1.1 ∧ ∀ m j, ¬ (m = 101 ∧ 64 * k ≤ j ∧ j < 64 * k + 64) → S3.1.2 m j = S.1.2 m j) ?_ ?_ nm_F 0 _ (by omega) (by rw [nm_F_eq]; omega) ⟨by omega, fun y x hy => by omega, rfl, rfl, fun _ _ _ => rfl⟩
    · rintro f i S3 hi ⟨h0, k1, k2, k3, k4⟩ hn9
      show wp (f_X3_make_L119 _ _ _ _ (f + 1) _ _) _
      obtain ⟨y, rfl⟩ := Int.eq_ofNat_of_zero_le h0
      have hgo : ∀ v : Int64, (∀ x, x < 64 → bx v x = mkP D op a b (64 * y + x)) → wp (f_X3_make_J170 (zI ((y : Nat) : Int)) v (zI (64 * (k : Nat) + ((y : Nat) : Int))) S3 (f_X3_make_L119 (zI op) (zI ((64 * a : Nat) : Int)) (zI (b : Nat)) (zI (64 * (k : Nat))) f)) (fun S3 => (∀ y x, y < 64 → x < 64 → bx (S3.1.2 101 (64 * k + y)) x = mkP D op a b (64 * y + x)) ∧ S3.2 = S.2 ∧ S3.1.1 = S.1.1 ∧ ∀ m j, ¬ (m = 101 ∧ 64 * k ≤ j ∧ j < 64 * k + 64) → S3.1.2 m j = S.1.2 m j) := by
        intro v hv
        unfold f_X3_make_J170
        refine wp_cz (by omega) (by omega) (by omega) ?_
        rw [zI_cl (by omega) (by omega), show (64 * ((k : Nat) : Int) + ((y : Nat) : Int)).toNat = 64 * k + y by omega, nm_l_eq, zI_inc]
        refine hn9 _ ⟨by omega, ?_, k2, k3, ?_⟩
        · intro y' x hy' hy64 hx
          show bx (nm_upJ _ _ _ _ _ _) x = _
          rw [nm_upJ_ap]
          by_cases he : y' = y
          · subst he
            rw [if_pos ⟨rfl, rfl⟩]
            exact hv x hx
          · rw [if_neg (by omega)]
            exact k1 y' x (by omega) hy64 hx
        · intro m j hm
          show nm_upJ _ _ _ _ _ _ = _
          rw [nm_upJ_ap, if_neg (by rintro ⟨h1, h2⟩; exact hm ⟨h1, by omega, by omega⟩)]
          exact k4 m j hm
      rw [f_X3_make_L119]
      simp (disch := omega) only [zI_lit, zI_le, zI_neg, zI_add, zI_mul, zI_eq]
      rw [if_neg (by omega)]
      refine wp_if (fun h => hgo _ (fun x hx => ?_)) (fun h => ?_)
      · rw [bx_0, h]
        rfl
      · refine wp_cz (by omega) (by omega) (by omega) (wp_cz (by omega) (by omega) (by omega) (hgo _ (fun x hx => ?_)))
        rw [w_mixed (by omega) (by omega) _ _ hx, zI_cl (by omega) (by omega), zI_cl (by omega) (by omega), show (((64 * a : Nat) : Int) + ((y : Nat) : Int)).toNat = 64 * a + y by omega, show (64 * ((b : Nat) : Int) + ((y : Nat) : Int)).toNat = 64 * b + y by omega, k4 101 (64 * a + y) (by omega), k4 101 (64 * b + y) (by omega), dR_rl hD (by omega) (by omega) hx, dR_rl hD (by omega) (by omega) hx]
        unfold mkP
        by_cases e0 : op = 0
        · rw [if_pos e0, if_pos e0]
        · rw [if_neg e0, if_neg e0]
          by_cases e1 : op = 1
          · rw [if_pos e1, if_pos e1]
          · rw [if_neg e1, if_neg e1, if_pos (by omega)]
    · rintro f S3 ⟨h0, k1, k2, k3, k4⟩
      show wp (f_X3_make_L119 _ _ _ _ (f + 1) _ _) _
      rw [f_X3_make_L119]
      simp (disch := omega) only [zI_lit, zI_le, Int.le_refl, if_true]
      exact wp_r ⟨fun y x hy hx => k1 y x (by omega) hy hx, k2, k3, k4⟩
  rintro S3 ⟨k1, k2, k3, k4⟩
  rw [← k2]
  exact wc_r ⟨dR_set hD (fun j hj => k4 _ _ (fun h => hj h.2)) k1, by rw [k2]; exact hc, ⟨fun m h _ => funext fun j => k4 _ _ (fun h2 => h h2.1), fun _ _ => by rw [k2], fun m j _ => by rw [k3]⟩⟩
