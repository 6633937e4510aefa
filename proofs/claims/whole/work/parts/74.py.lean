/-! a PUT brings what the other cell comes to -/
def pM (M : cm) (w : Nat) (F : Nat → Bool) : Prop := ∀ y x, y < 512 → x < 64 → bx (M.2 (w + 2) y) x = F (64 * y + x)
theorem pM_at {M : cm} {w : Nat} {F : Nat → Bool} (h : pM M w F) {l Y X : Nat} (hl : l < 8) (hY : Y < 64) (hX : X < 64) : bx (M.2 (w + 2) (64 * l + Y)) X = F (4096 * l + (64 * Y + X)) := by
  rw [h _ _ (by omega) hX]
  congr 1
  omega
theorem w_hasLayer {w : Nat} {N : Nat → Nat} (hN : N (w + 2) = 512) {M : cm} {F : Nat → Bool} (hF : pM M w F) {l : Nat} (hl : l < 8) : wp (f_X1_hasLayer w N (zI (l : Nat)) M) (fun r => r = 0 → ∀ q, q < 4096 → F (4096 * l + q) = false) := by
  unfold f_X1_hasLayer
  rw [nm_l_eq, zI_0]
  refine lpm (fun f (t : Int32) => f_X1_hasLayer_L2 w N (zI (l : Nat)) M (fun _ => some (zI 0)) f t) _ (fun t => ∃ y, y ≤ 64 ∧ t = zI ((y : Nat) : Int) ∧ ∀ q, q < 64 * y → F (4096 * l + q) = false) (fun t => 100 - t.toInt.toNat) ?_ nm_F (zI 0) (by show 100 - _ < nm_F; rw [nm_F_eq]; omega) ⟨0, by omega, rfl, fun q hq => by omega⟩
  rintro f t ⟨y, hy, rfl, hI⟩ hn9
  show wp (f_X1_hasLayer_L2 w N _ M _ (f + 1) _) _
  rw [f_X1_hasLayer_L2, hN]
  simp (disch := omega) only [zI_lit, zI_le, zI_mul, zI_add]
  refine wp_if (fun h => wp_r (fun _ q hq => hI q (by omega))) (fun h => ?_)
  refine wp_cz (by omega) (by omega) (by omega) ?_
  rw [zI_cl (by omega) (by omega), show (64 * ((l : Nat) : Int) + ((y : Nat) : Int)).toNat = 64 * l + y by omega]
  refine wp_if (fun h2 => ?_) (fun h2 => wp_r (fun h3 => absurd h3 (by decide)))
  have hz : M.2 (w + 2) (64 * l + y) = 0 := (bx_cmp0 _).mp h2
  refine hn9 _ ⟨y + 1, by omega, rfl, fun q hq => ?_⟩ ?_
  · by_cases hqy : q < 64 * y
    · exact hI q hqy
    · have := pM_at hF hl (Y := y) (X := q - 64 * y) (by omega) (by omega)
      rw [hz, bx_0, show 64 * y + (q - 64 * y) = q by omega] at this
      exact this.symm
  · show 100 - (zI (((y : Nat) : Int) + 1)).toInt.toNat < 100 - (zI ((y : Nat) : Int)).toInt.toNat
    rw [zI_ti (by omega) (by omega), zI_ti (by omega) (by omega)]
    omega
/-- what bringing leaves as it was -/
def bD (w : Nat) (M M' : cm) : Prop := (∀ m j, ¬ (m = w ∧ j = 5) → m ≠ w + 3 → M'.1 m j = M.1 m j) ∧ ∀ m, m ≠ w + 2 → m ≠ 3 → M'.2 m = M.2 m
theorem bD_rf (w : Nat) (M : cm) : bD w M M := ⟨fun _ _ _ _ => rfl, fun _ _ _ => rfl⟩
theorem bD_tr {w : Nat} {M M1 M2 : cm} (h1 : bD w M M1) (h2 : bD w M1 M2) : bD w M M2 := ⟨fun m j a b => (h2.1 m j a b).trans (h1.1 m j a b), fun m a b => (h2.2 m a b).trans (h1.2 m a b)⟩
noncomputable def brF (F F2 : Nat → Bool) (sq n : Nat) (mir : Bool) (ta td : Nat) (fa fd : Int) (p : Nat) : Bool := bP (F p = true ∨ brP (fun q => F2 (4096 * (p / 4096) + q)) sq n mir ta td fa fd (p % 4096 / 64) (p % 64))
set_option maxHeartbeats 2000000 in
theorem w_bring {w w2 pz : Nat} (n1 : w2 ≠ w) (n2 : w2 ≠ w + 3) (n3 : w2 + 3 ≠ w) (n4 : pz ≠ w) (n5 : pz ≠ w + 3) (n6 : w + 2 ≠ 3) (n7 : w2 + 2 ≠ 3) {N : Nat → Nat} (hN : N (w + 3) = 200) (hN2 : N (w2 + 3) = 200) (hR : N (w + 2) = 512) (hR2 : N (w2 + 2) = 512) (hN3 : N 3 = 64) {M : cm} {sq n : Nat} {mir : Bool} {ta td : Nat} {fa fd : Int} (h : putM M pz sq n mir ta td fa fd) {T T2 : List tx} (hT : tM M w T) (hT2 : tM M w2 T2) {F F2 : Nat → Bool} (hF : pM M w F) (hF2 : pM M w2 F2) :
    wp (f_X1_bring w w2 pz N M) (fun M' => pM M' w (brF F F2 sq n mir ta td fa fd) ∧ tM M' w (btA T2 sq n mir ta td fa fd T) ∧ bD w M M') := by
  have hp9 := h
  obtain ⟨⟨h2, h3, h4, h5, h6, h7, h8⟩, hsq, hn, hta, htd, ⟨f1, f2⟩, f3, f4⟩ := hp9
  unfold f_X1_bring
  refine wp_s1 (fun M1 => pM M1 w (brF F F2 sq n mir ta td fa fd) ∧ M1.1 = M.1 ∧ ∀ m, m ≠ w + 2 → m ≠ 3 → M1.2 m = M.2 m) ?_ ?_
  · rw [zI_0]
    refine lpc (fun f => f_X1_bring_L3 w w2 pz N f) _ 8 (fun k M1 => 0 ≤ k ∧ pM M1 w (fun p => if ((p / 4096 : Nat) : Int) < k then brF F F2 sq n mir ta td fa fd p else F p) ∧ M1.1 = M.1 ∧ ∀ m, m ≠ w + 2 → m ≠ 3 → M1.2 m = M.2 m) ?_ ?_ nm_F 0 M (by omega) (by rw [nm_F_eq]; omega) ⟨by omega, ?_, rfl, fun _ _ _ => rfl⟩
    · rintro f k M1 hk ⟨k0, hI, d1, d2⟩ hn9
      obtain ⟨l, rfl⟩ := Int.eq_ofNat_of_zero_le k0
      have hl : l < 8 := by omega
      have hF21 : pM M1 w2 F2 := fun y x hy hx => by rw [d2 _ (by omega) n7]; exact hF2 y x hy hx
      have hold : ∀ q, q < 4096 → (if (((4096 * l + q) / 4096 : Nat) : Int) < ((l : Nat) : Int) then brF F F2 sq n mir ta td fa fd (4096 * l + q) else F (4096 * l + q)) = F (4096 * l + q) := by
        intro q hq
        rw [if_neg (by omega)]
      have hgo : ∀ M2 : cm, M2.1 = M.1 → (∀ m, m ≠ w + 2 → m ≠ 3 → M2.2 m = M.2 m) → (∀ j, ¬ (64 * l ≤ j ∧ j < 64 * l + 64) → M2.2 (w + 2) j = M1.2 (w + 2) j) → (∀ Y X, Y < 64 → X < 64 → (bx (M2.2 (w + 2) (64 * l + Y)) X = true ↔ F (4096 * l + (64 * Y + X)) = true ∨ brP (fun q => F2 (4096 * l + q)) sq n mir ta td fa fd Y X)) → wp (f_X1_bring_J48 w w2 pz N (zI ((l : Nat) : Int)) M2 (f_X1_bring_L3 w w2 pz N f)) (fun M1 => pM M1 w (brF F F2 sq n mir ta td fa fd) ∧ M1.1 = M.1 ∧ ∀ m, m ≠ w + 2 → m ≠ 3 → M1.2 m = M.2 m) := by
        intro M2 e1 e2 e3 e4
        unfold f_X1_bring_J48
        rw [zI_inc]
        refine hn9 _ ⟨by omega, fun y x hy hx => ?_, e1, e2⟩
        show _ = if (((64 * y + x) / 4096 : Nat) : Int) < ((l : Nat) : Int) + 1 then _ else _
        by_cases hyl : 64 * l ≤ y ∧ y < 64 * l + 64
        · rw [if_pos (by omega)]
          have h9 := e4 (y - 64 * l) x (by omega) hx
          rw [show 64 * l + (y - 64 * l) = y by omega] at h9
          apply Bool.eq_iff_iff.mpr
          rw [h9]
          unfold brF
          rw [bP_t, show (64 * y + x) / 4096 = l by omega, show (64 * y + x) % 4096 / 64 = y - 64 * l by omega, show (64 * y + x) % 64 = x by omega, show 4096 * l + (64 * (y - 64 * l) + x) = 64 * y + x by omega]
        · rw [e3 y hyl, hI y x hy hx]
          show (if (((64 * y + x) / 4096 : Nat) : Int) < ((l : Nat) : Int) then _ else _) = _
          by_cases hlt : (((64 * y + x) / 4096 : Nat) : Int) < ((l : Nat) : Int)
          · rw [if_pos hlt, if_pos (by omega)]
          · rw [if_neg hlt, if_neg (by omega)]
      show wp (f_X1_bring_L3 w w2 pz N (f + 1) (zI ((l : Nat) : Int)) M1) _
      rw [f_X1_bring_L3]
      simp (disch := omega) only [zI_lit, zI_le]
      rw [if_neg (by omega)]
      refine wp_s1 _ (w_hasLayer hR2 hF21 hl) ?_
      intro r hr
      refine wp_if (fun hr0 => ?_) (fun hr0 => ?_)
      · have hno := hr hr0
        refine hgo M1 d1 d2 (fun _ _ => rfl) (fun Y X hY hX => ?_)
        rw [pM_at hI hl hY hX, hold _ (by omega)]
        constructor
        · intro h
          exact Or.inl h
        · rintro (h | ⟨p, i, j, p1, p2, -⟩)
          · exact h
          · have p2 : F2 (4096 * l + p) = true := p2
            rw [hno p p1] at p2
            exact absurd p2 (by decide)
      · unfold nm_cp
        rw [hR2, zI_mul, zI_ti (by omega) (by omega), zI_ti (by omega) (by omega), zI_ti (by omega) (by omega), if_pos ⟨⟨by omega, by omega, by omega⟩, by omega, by omega⟩, nm_l_eq, zI_cl (by omega) (by omega), zI_cl (by omega) (by omega), zI_cl (by omega) (by omega), show (64 * ((l : Nat) : Int)).toNat = 64 * l by omega, show (0 : Int).toNat = 0 from rfl, show (64 : Int).toNat = 64 from rfl]
        have hmap : ∀ Y X, Y < 64 → X < 64 → bx ((va_up M1.2 3 (va_cpy (M1.2 (w2 + 2)) (M1.2 3) (64 * l) 0 64)) 3 Y) X = F2 (4096 * l + (64 * Y + X)) := by
          intro Y X hY hX
          rw [va_up_self]
          unfold va_cpy
          rw [if_pos ⟨by omega, by omega⟩, show 64 * l + (Y - 0) = 64 * l + Y by omega]
          exact pM_at hF21 hl hY hX
        refine wp_s1 _ (w_turn (M := (M1.1, va_up M1.2 3 (va_cpy (M1.2 (w2 + 2)) (M1.2 3) (64 * l) 0 64))) hN3 (putM_1 h d1)) ?_
        rintro M3 ⟨⟨t1, t2⟩, t3⟩
        refine wp_s1 _ (w_bringMap n6 hR hl (putM_1 h (t1.trans d1)) (g := fun p => F2 (4096 * l + p)) (fun Y X hY hX => ?_)) ?_
        · have := sT_fwd (mir := mir) hn hY hX
          rw [t3 Y X hY hX, hmap _ _ this.1 this.2.1]
        · rintro M4 ⟨⟨u1, u2⟩, u3⟩
          have hrow : ∀ j, M3.2 (w + 2) j = M1.2 (w + 2) j := fun j => by
            rw [t2 _ _ (fun h => n6 h.1)]
            show va_up M1.2 3 _ (w + 2) j = _
            rw [va_up_ne _ _ n6]
          refine hgo M4 (u1.trans (t1.trans d1)) (fun m a b => ?_) (fun j hj => ?_) (fun Y X hY hX => ?_)
          · funext j
            rw [u2 _ _ (fun h => a h.1), t2 _ _ (fun h => b h.1)]
            show va_up M1.2 3 _ m j = _
            rw [va_up_ne _ _ b, d2 m a b]
          · rw [u2 _ _ (fun h => hj h.2)]
            exact hrow j
          · rw [u3 Y X hY hX, hrow, pM_at hI hl hY hX, hold _ (by omega)]
    · rintro f M1 ⟨k0, hI, d1, d2⟩
      show wp (f_X1_bring_L3 w w2 pz N (f + 1) (zI 8) M1) _
      rw [f_X1_bring_L3]
      simp (disch := omega) only [zI_lit, zI_le, Int.le_refl, if_true]
      refine wp_r ⟨fun y x hy hx => ?_, d1, d2⟩
      rw [hI y x hy hx]
      show (if (((64 * y + x) / 4096 : Nat) : Int) < 8 then _ else _) = _
      rw [if_pos (by omega)]
    · intro y x hy hx
      show _ = if (((64 * y + x) / 4096 : Nat) : Int) < 0 then _ else _
      rw [if_neg (by omega)]
      exact hF y x hy hx
  rintro M1 ⟨p1, d1, d2⟩
  have hT1 : tM M1 w T := by unfold tM; rw [d1]; exact hT
  have hT21 : tM M1 w2 T2 := by unfold tM; rw [d1]; exact hT2
  have hput1 := putM_1 h d1
  have hp71 : M1.1 pz 7 = zI (ta : Nat) := by rw [d1]; exact h7
  have hp81 : M1.1 pz 8 = zI (td : Nat) := by rw [d1]; exact h8
  refine wp_s1 (fun M2 => tM M2 w (btA T2 sq n mir ta td fa fd T) ∧ xD w M1 M2) ?_ ?_
  · rw [zI_0]
    refine lpc (fun f => f_X1_bring_L57 w w2 pz N f) _ td (fun k M2 => 0 ≤ k ∧ tM M2 w (fo (fun j T => fo (fun i T => fo (fun t T => bt1 sq n mir fa fd i j (T2.getD t d0) T) T2.length T) ta T) k.toNat T) ∧ xD w M1 M2) ?_ ?_ nm_F 0 M1 (by omega) (by rw [nm_F_eq]; omega) ⟨by omega, hT1, xD_rf _ _⟩
    · rintro f k M2 hk ⟨k0, hI, hX⟩ hn9
      obtain ⟨j, rfl⟩ := Int.eq_ofNat_of_zero_le k0
      rw [show ((j : Nat) : Int).toNat = j from rfl] at hI
      generalize hTj : fo (fun j T => fo (fun i T => fo (fun t T => bt1 sq n mir fa fd i j (T2.getD t d0) T) T2.length T) ta T) j T = Tj at *
      rw [f_X1_bring_L57, hX.2 _ _ (fun h => n4 h.1) n5, hp81]
      simp (disch := omega) only [zI_le]
      rw [if_neg (by omega)]
      refine wp_s1 (fun M3 => tM M3 w (fo (fun i T => fo (fun t T => bt1 sq n mir fa fd i j (T2.getD t d0) T) T2.length T) ta Tj) ∧ xD w M1 M3) ?_ ?_
      · rw [zI_0]
        refine lpc (fun f => f_X1_bring_L69 w w2 pz N (zI ((j : Nat) : Int)) f) _ ta (fun k M3 => 0 ≤ k ∧ tM M3 w (fo (fun i T => fo (fun t T => bt1 sq n mir fa fd i j (T2.getD t d0) T) T2.length T) k.toNat Tj) ∧ xD w M1 M3) ?_ ?_ nm_F 0 M2 (by omega) (by rw [nm_F_eq]; omega) ⟨by omega, hI, hX⟩
        · rintro f' k' M3 hk' ⟨k0', hI', hX'⟩ hn8
          obtain ⟨i, rfl⟩ := Int.eq_ofNat_of_zero_le k0'
          rw [show ((i : Nat) : Int).toNat = i from rfl] at hI'
          rw [f_X1_bring_L69, hX'.2 _ _ (fun h => n4 h.1) n5, hp71]
          simp (disch := omega) only [zI_le]
          rw [if_neg (by omega)]
          refine wp_s1 _ (w_bringTexts n1 n2 n3 n4 n5 hN hN2 (putM_x hput1 hX' n4 n5) hI' (tM_x hT21 hX' n1 n2 n3) (i := i) (j := j) (by omega) (by omega)) ?_
          rintro M4 ⟨a1, a2⟩
          rw [zI_inc]
          refine hn8 _ ⟨by omega, ?_, xD_tr hX' a2⟩
          rw [show (((i : Nat) : Int) + 1).toNat = i + 1 by omega]
          exact a1
        · rintro f' M3 ⟨k0', hI', hX'⟩
          rw [f_X1_bring_L69, hX'.2 _ _ (fun h => n4 h.1) n5, hp71]
          simp (disch := omega) only [zI_le, Int.le_refl, if_true]
          exact wp_r ⟨hI', hX'⟩
      · rintro M3 ⟨a1, a2⟩
        rw [zI_inc]
        refine hn9 _ ⟨by omega, ?_, a2⟩
        rw [show (((j : Nat) : Int) + 1).toNat = j + 1 by omega]
        show tM M3 w (fo (fun i T => fo (fun t T => bt1 sq n mir fa fd i j (T2.getD t d0) T) T2.length T) ta (fo _ j T))
        rw [hTj]
        exact a1
    · rintro f M2 ⟨k0, hI, hX⟩
      rw [f_X1_bring_L57, hX.2 _ _ (fun h => n4 h.1) n5, hp81]
      simp (disch := omega) only [zI_le, Int.le_refl, if_true]
      exact wp_r ⟨hI, hX⟩
  rintro M2 ⟨a1, a2⟩
  refine wp_r ⟨fun y x hy hx => by rw [a2.1]; exact p1 y x hy hx, a1, fun m j b c => by rw [a2.2 m j b c, d1], fun m b c => by rw [a2.1]; exact d2 m b c⟩
