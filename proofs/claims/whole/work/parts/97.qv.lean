/-! the rule of inside, on both sides -/
def insP (r rb : Nat → Bool) (n p : Nat) : Bool := r p && !sp false rb n p
noncomputable def insL (r rb : Nat → Bool) (R n k : Nat) (L : List ft) : List ft := fo (fun p L => if insP r rb n p = true then L ++ [(R, p, lkP rb n p, n)] else L) k L
theorem insL_len (r rb : Nat → Bool) (R n k : Nat) (L : List ft) : (insL r rb R n k L).length ≤ L.length + k := by
  induction k with
  | zero => exact Nat.le_refl _
  | succ k ih =>
    show (if insP r rb n k = true then insL r rb R n k L ++ [_] else insL r rb R n k L).length ≤ _
    by_cases h : insP r rb n k = true
    · rw [if_pos h, List.length_append]
      show (insL r rb R n k L).length + 1 ≤ _
      omega
    · rw [if_neg h]
      omega
theorem insL_t {r rb : Nat → Bool} {R n k : Nat} {L : List ft} (h : insP r rb n k = true) : insL r rb R n (k + 1) L = insL r rb R n k L ++ [(R, k, lkP rb n k, n)] := by
  show (if insP r rb n k = true then _ else _) = _
  rw [if_pos h]
  rfl
theorem insL_f {r rb : Nat → Bool} {R n k : Nat} {L : List ft} (h : insP r rb n k = false) : insL r rb R n (k + 1) L = insL r rb R n k L := by
  show (if insP r rb n k = true then _ else _) = _
  rw [if_neg (by rw [h]; decide)]
  rfl
theorem lkP_lt {rb : Nat → Bool} {n p : Nat} (hp : p < 4096) : lkP rb n p < 4096 := by
  by_cases hex : ∃ v, LK rb n p v
  · obtain ⟨v, hv⟩ := hex
    rw [← lkP_eq hv]
    rcases hv with ⟨a, -⟩ | ⟨-, a⟩
    · exact a.1
    · omega
  · unfold lkP
    rw [dif_neg hex]
    exact hp
set_option maxHeartbeats 1000000 in
theorem w_inside {I : nm_I} {D : Nat → Bool} (hO : oR I D) {L : List ft} (hL : faO I L) (hlen : L.length < 900000) {R l m n : Nat} (hR : R < 16) (hn : n ≤ 9) (hl : l < 16) (hm : m < 16) (hv : I 39 R = zI (n : Nat)) (hly : I 37 R = zI (l : Nat)) (hot : I 38 R = zI (m : Nat)) :
    wp (f_X12_inside (zI (R : Nat)) I) (fun I' => faO I' (insL (rl D l) (rl D m) R n 4096 L) ∧ faOF I I') := by
  have key : ∀ (f k : Nat) (S : nm_I), k ≤ 4096 → 4096 - k < f → faO S (insL (rl D l) (rl D m) R n k L) → faOF I S → wp (f_X12_inside_L2 (zI (R : Nat)) f (zI (k : Nat)) S) (fun I' => faO I' (insL (rl D l) (rl D m) R n 4096 L) ∧ faOF I I') := by
    intro f
    induction f with
    | zero => intro k M1 h1 h2; omega
    | succ f ih =>
      intro k S hk hf hI hF
      have hlk := insL_len (rl D l) (rl D m) R n k L
      rw [f_X12_inside_L2, show (4096 : Int32) = zI 4096 from rfl]
      simp (disch := omega) only [zI_le]
      refine wp_if (fun h => ?_) (fun h => ?_)
      · have : k = 4096 := by omega
        subst this
        exact wp_r ⟨hI, hF⟩
      have hk6 : k < 4096 := by omega
      have hOS := oR_fr hO (fun j => hF 20 j (by omega) (by omega))
      have s37 : S 37 R = zI (l : Nat) := (hF 37 R (by omega) (by omega)).trans hly
      have s38 : S 38 R = zI (m : Nat) := (hF 38 R (by omega) (by omega)).trans hot
      have s39 : S 39 R = zI (n : Nat) := (hF 39 R (by omega) (by omega)).trans hv
      have hskip : insP (rl D l) (rl D m) n k = false → wp (f_X12_inside_J79 (zI (k : Nat)) S (f_X12_inside_L2 (zI (R : Nat)) f)) (fun I' => faO I' (insL (rl D l) (rl D m) R n 4096 L) ∧ faOF I I') := by
        intro hi
        unfold f_X12_inside_J79
        rw [zI_inc]
        refine ih (k + 1) S (by omega) (by omega) ?_ hF
        rw [insL_f hi]
        exact hI
      have hrk : rl D l k = D (4096 * l + k) := by
        unfold rl
        rw [decide_eq_true hk6, Bool.true_and]
      rw [nm_cz (by omega) (by omega) (by omega), zI_cl (by omega) (by omega), Int.toNat_natCast, s37, zI_mul, zI_add, nm_cz (by omega) (by omega) (by omega), zI_cl (by omega) (by omega), show (4096 * ((l : Nat) : Int) + ((k : Nat) : Int)).toNat = 4096 * l + k by omega, hOS _ (by omega), ← hrk]
      refine wp_if (fun h2 => hskip ?_) (fun h2 => ?_)
      · unfold insP
        rw [(ite_z _).mp h2]
        rfl
      have hrt : rl D l k = true := by
        cases hc : rl D l k with
        | true => rfl
        | false => exact absurd ((ite_z _).mpr hc) h2
      have hw := w_around hOS hm hk6 hn false
      rw [if_neg (by decide)] at hw
      have hq := w_lacking hOS hm hn hk6
      rw [nm_cz (by omega) (by omega) (by omega), nm_cz (by omega) (by omega) (by omega), s38, s39]
      refine wp_s1 _ ⟨_, hw, rfl⟩ ?_
      rintro _ rfl
      refine wp_if (fun h3 => ?_) (fun h3 => hskip ?_)
      · have hi : insP (rl D l) (rl D m) n k = true := by
          unfold insP
          rw [hrt, (ite_z _).mp h3]
          rfl
        rw [nm_cz (by omega) (by omega) (by omega), nm_cz (by omega) (by omega) (by omega)]
        refine wp_s1 _ ⟨_, hq, rfl⟩ ?_
        rintro _ rfl
        rw [nm_cz (by omega) (by omega) (by omega)]
        refine wp_s1 _ (w_noteO hI (by omega) (t := (R, k, lkP (rl D m) n k, n)) ⟨hR, hk6, lkP_lt hk6, (by show n ≤ 4096; omega)⟩) ?_
        rintro S2 ⟨z1, z2⟩
        unfold f_X12_inside_J79
        rw [zI_inc]
        refine ih (k + 1) S2 (by omega) (by omega) ?_ (fun n j x y => (z2 n j x y).trans (hF n j x y))
        rw [insL_t hi]
        exact z1
      · unfold insP
        cases hc : sp false (rl D m) n k with
        | true =>
          rw [hrt]
          rfl
        | false => exact absurd ((ite_z _).mpr hc) h3
  unfold f_X12_inside
  rw [zI_0]
  exact wp_s1 _ (key nm_F 0 I (by omega) (by rw [nm_F_eq]; omega) hL (fun _ _ _ _ => rfl)) (fun _ h => wp_r h)
abbrev ruF (M M' : cm) : Prop := (∀ m, m ≠ 208 → M'.2 m = M.2 m) ∧ ∀ n j, ¬ (n = 200 ∧ j = 2) → ¬ (201 ≤ n ∧ n ≤ 203) → M'.1 n j = M.1 n j
theorem faX_1 {M M' : cm} {L : List ft} (h : faX M L) (e : M'.1 = M.1) : faX M' L := by
  unfold faX
  rw [e]
  exact h
set_option maxHeartbeats 1000000 in
theorem w_holdInside {N : Nat → Nat} (hN : 2400 ≤ N 201) (hN8 : N 208 = 64) {M : cm} {D : Nat → Bool} (hD : dM M D) {R l m n : Nat} (hR : R < 16) (hn : n ≤ 9) (hl : l < 16) (hm : m < 16) (hv : M.1 207 R = zI (n : Nat)) (hly : M.1 205 R = zI (l : Nat)) (hot : M.1 206 R = zI (m : Nat)) {L : List ft} (hlen : L.length < 900000) (hL : faX M L) :
    wp (f_X8_holdInside N (zI (R : Nat)) M) (fun M' => faX M' (insL (rl D l) (rl D m) R n 4096 L) ∧ ruF M M') := by
  unfold f_X8_holdInside
  rw [nm_cz (by omega) (by omega) (by omega), zI_cl (by omega) (by omega), Int.toNat_natCast, hv, nm_l_eq, nm_cz (by omega) (by omega) (by omega), hot, show (64 : Int32) * zI (m : Nat) = zI ((64 * m : Nat) : Int) by rw [show (64 : Int32) = zI 64 from rfl, zI_mul]; rfl, nm_l_eq]
  have hsp := w_spread (a := 208) (N := N) (l := m) (st := 0) (n := n) (g := false) (r := rl D m) (M := M) hm hn (by omega) (by omega) (fun h => absurd h (by decide)) (fun y x hy hx => by
    rw [hD _ _ (by omega) hx]
    unfold rl
    rw [decide_eq_true (by omega), Bool.true_and]
    exact congrArg D (by omega))
  rw [if_neg (by decide), show zI ((0 : Nat) : Int) = (0 : Int32) from rfl] at hsp
  refine wp_s1 _ hsp ?_
  rintro M5 ⟨p1, p2, p3⟩
  have hsP : ∀ y x, y < 64 → x < 64 → bx (M5.2 208 y) x = sp false (rl D m) n (64 * y + x) := fun y x hy hx => by
    have := p3 y x hy hx
    rw [Nat.zero_add] at this
    exact this
  have hD5 : dM M5 D := fun y x hy hx => by
    rw [p2 101 y (by omega)]
    exact hD y x hy hx
  have key : ∀ (f y : Nat) (S : cm), y ≤ 64 → 64 - y < f → faX S (insL (rl D l) (rl D m) R n (64 * y) L) → faXF M5 S → wp (f_X8_holdInside_L37 N (zI (R : Nat)) (zI (n : Nat)) (zI ((64 * m : Nat) : Int)) f (zI (y : Nat)) S) (fun M' => faX M' (insL (rl D l) (rl D m) R n 4096 L) ∧ faXF M5 M') := by
    intro f
    induction f with
    | zero => intro k M1 h1 h2; omega
    | succ f ih =>
      intro y S hy hf hI hF
      rw [f_X8_holdInside_L37, show (64 : Int32) = zI 64 from rfl]
      simp (disch := omega) only [zI_le]
      refine wp_if (fun h => ?_) (fun h => ?_)
      · have : y = 64 := by omega
        subst this
        exact wp_r ⟨hI, hF⟩
      have s205 : S.1 205 R = zI (l : Nat) := (hF.2 205 R (by omega) (by omega)).trans (by rw [p1]; exact hly)
      rw [nm_cz (by omega) (by omega) (by omega), zI_cl (by omega) (by omega), Int.toNat_natCast, s205, zI_mul, zI_add, nm_cz (by omega) (by omega) (by omega), nm_cz (by omega) (by omega) (by omega), zI_cl (by omega) (by omega), show (64 * ((l : Nat) : Int) + ((y : Nat) : Int)).toNat = 64 * l + y by omega, zI_cl (by omega) (by omega), Int.toNat_natCast, hF.1]
      have hb : ∀ x, x < 64 → bx (M5.2 101 (64 * l + y) &&& (M5.2 208 y ^^^ (-1 : Int64))) x = insP (rl D l) (rl D m) n (64 * y + x) := fun x hx => by
        rw [bx_and, bx_not _ hx, hsP y x (by omega) hx, hD5 _ _ (by omega) hx]
        unfold insP
        have e : rl D l (64 * y + x) = D (64 * (64 * l + y) + x) := by
          unfold rl
          rw [decide_eq_true (by omega), Bool.true_and]
          exact congrArg D (by omega)
        rw [e]
      generalize (M5.2 101 (64 * l + y) &&& (M5.2 208 y ^^^ (-1 : Int64))) = w at hb ⊢
      rw [nm_l_eq, nm_l_eq, bc_eq]
      refine wp_s1 (fun S' => faX S' (insL (rl D l) (rl D m) R n (64 * y + 64) L) ∧ faXF M5 S') ?_ ?_
      · have hrun := lpb (fun f v i S => f_X8_holdInside_L85 N (zI (R : Nat)) (zI (n : Nat)) (zI ((64 * m : Nat) : Int)) (zI (y : Nat)) (zI ((pc (bx w) 64 : Nat) : Int)) f v i S) (fun S' => faX S' (insL (rl D l) (rl D m) R n (64 * y + 64) L) ∧ faXF M5 S') w (fun x S => faX S (insL (rl D l) (rl D m) R n (64 * y + x) L) ∧ faXF M5 S) (fun x S hx hb0 hI => ?_) (fun f v i S x hx hb1 hI hlow hi hpc hn9 => ?_) (fun f v i S hi hI => ?_) nm_F 0 S w (by omega) (fun x hx => by simp) (by rw [nm_F_eq]; omega) ⟨hI, hF⟩
        · exact hrun
        · rw [← Nat.add_assoc, insL_f (by rw [← hb x hx]; exact hb0)]
          exact hI
        · have hq := pc_le (bx w) x
          have hq2 := pc_le (bx w) 64
          have hlk := insL_len (rl D l) (rl D m) R n (64 * y + x) L
          rw [f_X8_holdInside_L85, hi]
          simp (disch := omega) only [zI_le]
          rw [if_neg (by omega), hlow, show (64 : Int32) = zI 64 from rfl, zI_mul, zI_add, nm_l_eq, show 64 * ((y : Nat) : Int) + ((x : Nat) : Int) = ((64 * y + x : Nat) : Int) by omega]
          have hDS : dM S D := by rw [show dM S D = dM M5 D by unfold dM; rw [hI.2.1]]; exact hD5
          refine wp_s1 _ ⟨_, w_leastLacking hDS hm hn (by omega), rfl⟩ ?_
          rintro _ rfl
          refine wp_s1 _ (w_noteX hN hI.1 (by omega) (t := (R, 64 * y + x, lkP (rl D m) n (64 * y + x), n)) ⟨hR, (by show 64 * y + x < 4096; omega), lkP_lt (by omega), (by show n ≤ 4096; omega)⟩) ?_
          rintro S2 ⟨z1, z2⟩
          rw [nm_l_eq, ← hi]
          refine hn9 S2 ⟨?_, z2.1.trans hI.2.1, fun n j x y => (z2.2 n j x y).trans (hI.2.2 n j x y)⟩
          rw [← Nat.add_assoc, insL_t (by rw [← hb x hx]; exact hb1)]
          exact z1
        · rw [f_X8_holdInside_L85, hi, if_pos (Int32.le_refl _)]
          exact wp_r hI
      · rintro S2 ⟨z1, z2⟩
        rw [zI_inc]
        exact ih (y + 1) S2 (by omega) (by omega) z1 z2
  rw [zI_0]
  refine wp_s1 _ (key nm_F 0 M5 (by omega) (by rw [nm_F_eq]; omega) (faX_1 hL p1) ⟨rfl, fun _ _ _ _ => rfl⟩) ?_
  rintro S ⟨z1, z2⟩
  refine wp_r ⟨z1, fun q hq => ?_, fun n j a b => by rw [z2.2 n j a b, p1]⟩
  rw [z2.1]
  funext j
  exact p2 q j (fun h => hq h.1)
