/-! the rules of lines: the runs of one line, in order -/
def runs (w : Nat → Bool) : Nat → Nat → Nat
  | 0, _ => 0
  | n + 1, x => if w x = true then runs w n (x + 1) + 1 else 0
def ru (w : Nat → Bool) (x : Nat) : Nat := runs w (64 - x) x
theorem runs_rn (w : Nat → Bool) : ∀ n x, x + n = 64 → rn w x (runs w n x) := by
  intro n
  induction n with
  | zero =>
    intro x h
    exact ⟨by show x + 0 ≤ 64; omega, fun j a b => by have : j < x + 0 := b; omega, fun h2 => by have : x + 0 < 64 := h2; omega⟩
  | succ n ih =>
    intro x h
    show rn w x (if w x = true then runs w n (x + 1) + 1 else 0)
    by_cases hx : w x = true
    · rw [if_pos hx]
      obtain ⟨a, b, c⟩ := ih (x + 1) (by omega)
      refine ⟨by omega, fun j j1 j2 => ?_, fun h2 => ?_⟩
      · by_cases hj : j = x
        · rw [hj]
          exact hx
        · exact b j (by omega) (by omega)
      · rw [show x + (runs w n (x + 1) + 1) = x + 1 + runs w n (x + 1) by omega]
        exact c (by omega)
    · rw [if_neg hx]
      refine ⟨by omega, fun j j1 j2 => by omega, fun _ => ?_⟩
      rw [Nat.add_zero]
      cases hv : w x with
      | false => rfl
      | true => exact absurd hv hx
theorem ru_rn (w : Nat → Bool) {x : Nat} (hx : x ≤ 64) : rn w x (ru w x) := runs_rn w (64 - x) x (by omega)
theorem rn_un {w : Nat → Bool} {x s t : Nat} (h : rn w x s) (h' : rn w x t) : s = t := by
  obtain ⟨a, b, c⟩ := h
  obtain ⟨a', b', c'⟩ := h'
  apply Classical.byContradiction
  intro hne
  by_cases hst : s < t
  · have h1 := b' (x + s) (by omega) (by omega)
    rw [c (by omega)] at h1
    exact absurd h1 (by decide)
  · have h1 := b (x + t) (by omega) (by omega)
    rw [c' (by omega)] at h1
    exact absurd h1 (by decide)
def lhd (w : Nat → Bool) (x : Nat) : Bool := w x && !(decide (1 ≤ x) && w (x - 1))
def lnP (w : Nat → Bool) (V x : Nat) : Bool := lhd w x && decide (ru w x < V)
def lnL (w : Nat → Bool) (A : Nat → Nat) (R V k : Nat) (L : List ft) : List ft := fo (fun x L => if lnP w V x = true then L ++ [(R, A x, A (x + ru w x - 1), ru w x)] else L) k L
theorem lnL_t {w : Nat → Bool} {A : Nat → Nat} {R V k : Nat} {L : List ft} (h : lnP w V k = true) : lnL w A R V (k + 1) L = lnL w A R V k L ++ [(R, A k, A (k + ru w k - 1), ru w k)] := by
  show (if lnP w V k = true then _ else _) = _
  rw [if_pos h]
  rfl
theorem lnL_f {w : Nat → Bool} {A : Nat → Nat} {R V k : Nat} {L : List ft} (h : lnP w V k = false) : lnL w A R V (k + 1) L = lnL w A R V k L := by
  show (if lnP w V k = true then _ else _) = _
  rw [if_neg (by rw [h]; decide)]
  rfl
theorem lnL_len (w : Nat → Bool) (A : Nat → Nat) (R V k : Nat) (L : List ft) : (lnL w A R V k L).length ≤ L.length + k := by
  induction k with
  | zero => exact Nat.le_refl _
  | succ k ih =>
    cases h : lnP w V k with
    | true =>
      rw [lnL_t h, List.length_append]
      show (lnL w A R V k L).length + 1 ≤ _
      omega
    | false =>
      rw [lnL_f h]
      omega
theorem lnL_congr {w w' : Nat → Bool} {A : Nat → Nat} {R V k : Nat} {L : List ft} (h : ∀ x, x < 64 → w x = w' x) (hk : k ≤ 64) : lnL w A R V k L = lnL w' A R V k L := by
  have hru : ∀ x, x < 64 → ru w x = ru w' x := fun x hx => by
    refine rn_un (ru_rn w (by omega)) ?_
    obtain ⟨a, b, c⟩ := ru_rn w' (x := x) (by omega)
    exact ⟨a, fun j j1 j2 => (h j (by omega)).trans (b j j1 j2), fun h2 => (h _ h2).trans (c h2)⟩
  refine fo_congr (fun x hx a => ?_) L
  have e : lnP w V x = lnP w' V x := by
    unfold lnP lhd
    rw [hru x (by omega), h x (by omega), h (x - 1) (by omega)]
  rw [e, hru x (by omega)]
abbrev strd (s2 s3 : Nat) : Prop := (s2 = 64 ∧ s3 = 1) ∨ (s2 = 1 ∧ s3 = 64)
set_option maxHeartbeats 1000000 in
theorem w_holdRow {N : Nat → Nat} (hN : 2400 ≤ N 201) {s2 s3 y : Nat} (hs : strd s2 s3) (hy : y < 64) {M : cm} {R V : Nat} (hR : R < 16) (hV : V ≤ 4096) (hv : M.1 207 R = zI (V : Nat)) {L : List ft} (hlen : L.length < 900000) (hL : faX M L) (w : Int64) {K : Int32 → cm → Option cm} {P : cm → Prop} (hK : ∀ M', faX M' (lnL (bx w) (fun x => s2 * y + s3 * x) R V 64 L) → faXF M M' → wp (K (zI ((y + 1 : Nat) : Int)) M') P) :
    wp (f_X8_holdMap_J39 N (zI (R : Nat)) (zI (s2 : Nat)) (zI (s3 : Nat)) (zI (y : Nat)) w M K) P := by
  unfold f_X8_holdMap_J39
  rw [nm_l_eq, nm_l_eq, bc_eq, zI_0]
  have hrun := lpb (fun f v i S => f_X8_holdMap_L58 N (zI (R : Nat)) (zI (s2 : Nat)) (zI (s3 : Nat)) (zI (y : Nat)) w (zI ((pc (bx (f_X0_heads w)) 64 : Nat) : Int)) f v i S) (fun S' => faX S' (lnL (bx w) (fun x => s2 * y + s3 * x) R V 64 L) ∧ faXF M S') (f_X0_heads w) (fun x S => faX S (lnL (bx w) (fun x => s2 * y + s3 * x) R V x L) ∧ faXF M S) (fun x S hx hb0 hI => ?_) (fun f v i S x hx hb1 hI hlow hi hpc hn9 => ?_) (fun f v i S hi hI => ?_) nm_F 0 M (f_X0_heads w) (by omega) (fun x hx => by simp) (by rw [nm_F_eq]; omega) ⟨hL, rfl, fun _ _ _ _ => rfl⟩
  · refine wp_s1 _ hrun ?_
    rintro S2 ⟨z1, z2⟩
    rw [zI_inc]
    exact hK S2 z1 z2
  · rw [lnL_f (by
      unfold lnP lhd
      rw [← bx_heads w hx, hb0]
      rfl)]
    exact hI
  · have hq := pc_le (bx (f_X0_heads w)) x
    have hq2 := pc_le (bx (f_X0_heads w)) 64
    have hlk := lnL_len (bx w) (fun x => s2 * y + s3 * x) R V x L
    obtain ⟨s, r1, r2⟩ := bx_stretch (w := w) hx
    have hru : ru (bx w) x = s := rn_un (ru_rn (bx w) (by omega)) r1
    have hhd : lhd (bx w) x = true := by
      unfold lhd
      rw [← bx_heads w hx]
      exact hb1
    have hs1 : 1 ≤ s := by
      apply Classical.byContradiction
      intro h0
      have hs0 : s = 0 := by omega
      have := r1.2.2 (by omega)
      rw [hs0, Nat.add_zero] at this
      unfold lhd at hhd
      rw [this, Bool.false_and] at hhd
      exact absurd hhd (by decide)
    have hle := r1.1
    have hsv : S.1 207 R = zI (V : Nat) := (hI.2.2 207 R (by omega) (by omega)).trans hv
    rw [f_X8_holdMap_L58, hi]
    simp (disch := omega) only [zI_le]
    rw [if_neg (by omega), hlow, nm_l_eq, r2, nm_l_eq, nm_cz (by omega) (by omega) (by omega), zI_cl (by omega) (by omega), Int.toNat_natCast, hsv]
    simp (disch := omega) only [zI_le]
    refine wp_if (fun h => ?_) (fun h => ?_)
    · unfold f_X8_holdMap_J121
      rw [nm_l_eq, ← hi]
      refine hn9 S ⟨?_, hI.2⟩
      rw [lnL_f (by
        unfold lnP
        rw [hru, decide_eq_false (by omega), Bool.and_false])]
      exact hI.1
    · have eA : zI (s2 : Nat) * zI (y : Nat) + zI (s3 : Nat) * zI (x : Nat) = zI ((s2 * y + s3 * x : Nat) : Int) := by
        rw [zI_mul, zI_mul, zI_add]
        rfl
      have eB : zI ((s2 * y + s3 * x : Nat) : Int) + zI (s3 : Nat) * (zI (s : Nat) - (1 : Int32)) = zI ((s2 * y + s3 * (x + s - 1) : Nat) : Int) := by
        rw [show (1 : Int32) = zI 1 from rfl, zI_sub, zI_mul, zI_add]
        refine congrArg zI ?_
        rcases hs with ⟨e2, e3⟩ | ⟨e2, e3⟩ <;> subst e2 <;> subst e3 <;> omega
      rw [eA, nm_l_eq, eB]
      refine wp_s1 _ (w_noteX hN hI.1 (by omega) (t := (R, s2 * y + s3 * x, s2 * y + s3 * (x + s - 1), s)) ⟨hR, ?_, ?_, (by show s ≤ 4096; omega)⟩) ?_
      · show s2 * y + s3 * x < 4096
        rcases hs with ⟨e2, e3⟩ | ⟨e2, e3⟩ <;> subst e2 <;> subst e3 <;> omega
      · show s2 * y + s3 * (x + s - 1) < 4096
        rcases hs with ⟨e2, e3⟩ | ⟨e2, e3⟩ <;> subst e2 <;> subst e3 <;> omega
      · rintro S2 ⟨z1, z2⟩
        unfold f_X8_holdMap_J121
        rw [nm_l_eq, ← hi]
        refine hn9 S2 ⟨?_, z2.1.trans hI.2.1, fun n j a b => (z2.2 n j a b).trans (hI.2.2 n j a b)⟩
        rw [lnL_t (by
          unfold lnP
          rw [hru, hhd, decide_eq_true (by omega)]
          rfl), hru]
        exact z1
  · rw [f_X8_holdMap_L58, hi, if_pos (Int32.le_refl _)]
    exact wp_r hI
