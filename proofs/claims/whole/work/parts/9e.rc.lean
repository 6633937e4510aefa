/-! all 128 lines, by the reference -/
noncomputable def l128 (r : Nat → Bool) (k R V c : Nat) (L : List ft) : List ft := fo (fun c L => lnL (wk k (fun j => r (alg c j))) (alg c) R V 64 L) c L
theorem l128_lo {r : Nat → Bool} {k R V : Nat} {L : List ft} : ∀ c, c ≤ 64 → l128 r k R V c L = mpL (fun y x => r (64 * y + x)) 64 1 k R V c L := by
  intro c
  induction c with
  | zero => intro _; rfl
  | succ c ih =>
    intro hc
    show lnL (wk k (fun j => r (alg c j))) (alg c) R V 64 (l128 r k R V c L) = lnL (wk k (fun x => r (64 * c + x))) (fun x => 64 * c + 1 * x) R V 64 (mpL _ 64 1 k R V c L)
    rw [ih (by omega)]
    have e : alg c = fun x => 64 * c + 1 * x := by
      funext x
      unfold alg
      rw [if_pos (by omega), Nat.one_mul]
    have e2 : (fun j => r (alg c j)) = fun x => r (64 * c + x) := by
      funext x
      rw [e]
      show r (64 * c + 1 * x) = _
      rw [Nat.one_mul]
    rw [e2, e]
theorem l128_hi {r : Nat → Bool} {k R V : Nat} {L : List ft} : ∀ y, y ≤ 64 → l128 r k R V (64 + y) L = mpL (fun y x => r (64 * x + y)) 1 64 k R V y (mpL (fun y x => r (64 * y + x)) 64 1 k R V 64 L) := by
  intro y
  induction y with
  | zero => intro _; exact l128_lo 64 (by omega)
  | succ y ih =>
    intro hc
    show lnL (wk k (fun j => r (alg (64 + y) j))) (alg (64 + y)) R V 64 (l128 r k R V (64 + y) L) = lnL (wk k (fun x => r (64 * x + y))) (fun x => 1 * y + 64 * x) R V 64 (mpL _ 1 64 k R V y _)
    rw [ih (by omega)]
    have e : alg (64 + y) = fun x => 1 * y + 64 * x := by
      funext x
      unfold alg
      rw [if_neg (by omega)]
      omega
    have e2 : (fun j => r (alg (64 + y) j)) = fun x => r (64 * x + y) := by
      funext x
      rw [e]
      show r (1 * y + 64 * x) = _
      rw [show 1 * y + 64 * x = 64 * x + y by omega]
    rw [e2, e]
theorem l128_len (r : Nat → Bool) (k R V c : Nat) (L : List ft) : (l128 r k R V c L).length ≤ L.length + 64 * c := by
  induction c with
  | zero => exact Nat.le_refl _
  | succ c ih =>
    have := lnL_len (wk k (fun j => r (alg c j))) (alg c) R V 64 (l128 r k R V c L)
    show (lnL (wk k (fun j => r (alg c j))) (alg c) R V 64 (l128 r k R V c L)).length ≤ _
    omega
theorem w_lines {I : nm_I} {D : Nat → Bool} (hO : oR I D) {R V k l : Nat} (hR : R < 16) (hV : V ≤ 4096) (hk : k < 2) (hl : l < 16) (hv : I 39 R = zI (V : Nat)) (hly : I 37 R = zI (l : Nat)) {L : List ft} (hL : faO I L) (hlen : L.length < 700000) :
    wp (f_X12_lines (zI (R : Nat)) (zI (k : Nat)) I) (fun I' => faO I' (liL (rl D l) k R V L) ∧ faOF I I') := by
  have key : ∀ (f c : Nat) (S : nm_I), c ≤ 128 → 128 - c < f → faO S (l128 (rl D l) k R V c L) → faOF I S → wp (f_X12_lines_L14 (zI (R : Nat)) (zI (k : Nat)) (zI ((4096 * l : Nat) : Int)) f (zI (c : Nat)) S) (fun I' => faO I' (l128 (rl D l) k R V 128 L) ∧ faOF I I') := by
    intro f
    induction f with
    | zero => intro c S h1 h2; omega
    | succ f ih =>
      intro c S hc hf hI hF
      have hlk := l128_len (rl D l) k R V c L
      rw [f_X12_lines_L14, show (128 : Int32) = zI 128 from rfl]
      simp (disch := omega) only [zI_le]
      refine wp_if (fun h => ?_) (fun h => ?_)
      · have : c = 128 := by omega
        subst this
        exact wp_r ⟨hI, hF⟩
      refine wp_s1 _ (w_line (oR_fr hO (fun j => hF 20 j (by omega) (by omega))) hR hV hk hl (show c < 128 by omega) ((hF 39 R (by omega) (by omega)).trans hv) hI (by omega)) ?_
      rintro S2 ⟨z1, z2⟩
      rw [zI_inc]
      exact ih (c + 1) S2 (by omega) (by omega) z1 (fun n j a b => (z2 n j a b).trans (hF n j a b))
  unfold f_X12_lines
  rw [nm_cz (by omega) (by omega) (by omega), zI_cl (by omega) (by omega), Int.toNat_natCast, hly, show (4096 : Int32) * zI (l : Nat) = zI ((4096 * l : Nat) : Int) by rw [show (4096 : Int32) = zI 4096 from rfl, zI_mul]; rfl, nm_l_eq, zI_0]
  have hrun := key nm_F 0 I (by omega) (by rw [nm_F_eq]; omega) hL (fun _ _ _ _ => rfl)
  rw [show l128 (rl D l) k R V 128 L = liL (rl D l) k R V L from l128_hi 64 (by omega)] at hrun
  exact wp_s1 _ hrun (fun _ h => wp_r h)
