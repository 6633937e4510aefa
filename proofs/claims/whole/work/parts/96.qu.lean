set_option maxHeartbeats 1000000 in
theorem w_lackRow {I : nm_I} {D : Nat → Bool} (hO : oR I D) {l n p : Nat} (hl : l < 16) (hn : n ≤ 9) (hp : p < 4096) {y : Int} (y1 : ((p / 64 : Nat) : Int) - n ≤ y) (y2 : y ≤ ((p / 64 : Nat) : Int) + n) {K : Unit → Option Int32} (hK : (∀ q, lbad (rl D l) n p q → y + 1 ≤ ((q / 64 : Nat) : Int)) → wp (K ()) (fun b => b = zI ((lkP (rl D l) n p : Nat) : Int))) (hI : ∀ q, lbad (rl D l) n p q → y ≤ ((q / 64 : Nat) : Int)) :
    wp (f_X12_lacking_L27 (zI (l : Nat)) (zI (p : Nat)) (zI (n : Nat)) (zI y) I K nm_F (zI (((p % 64 : Nat) : Int) - n))) (fun b => b = zI ((lkP (rl D l) n p : Nat) : Int)) := by
  refine lpm (fun f (t : Int32) => f_X12_lacking_L27 (zI (l : Nat)) (zI (p : Nat)) (zI (n : Nat)) (zI y) I K f t) _ (fun t => ∃ x : Int, t = zI x ∧ ((p % 64 : Nat) : Int) - n ≤ x ∧ x ≤ ((p % 64 : Nat) : Int) + n + 1 ∧ ∀ q, lbad (rl D l) n p q → y < ((q / 64 : Nat) : Int) ∨ (((q / 64 : Nat) : Int) = y ∧ x ≤ ((q % 64 : Nat) : Int))) (fun t => (200 - t.toInt).toNat) ?_ nm_F (zI (((p % 64 : Nat) : Int) - n)) ?_ ⟨_, rfl, by omega, by omega, fun q hq => ?_⟩
  · rintro f _ ⟨x, rfl, x1, x2, hx⟩ hn9
    have hm : (200 - (zI (x + 1)).toInt).toNat < (200 - (zI x).toInt).toNat := by
      rw [zI_ti (by omega) (by omega), zI_ti (by omega) (by omega)]
      omega
    show wp (f_X12_lacking_L27 _ _ _ _ _ _ (f + 1) _) _
    rw [f_X12_lacking_L27, show (64 : Int32) = zI 64 from rfl, md (by omega) (by omega) (by omega) (by omega), zI_add]
    simp (disch := omega) only [zI_lt]
    refine wp_if (fun h => ?_) (fun h => ?_)
    · refine hK (fun q hq => ?_)
      have h3 := hx q hq
      obtain ⟨q1, ⟨q2, q3, q4, q5⟩, q6⟩ := hq
      omega
    have hskip : (∀ q, lbad (rl D l) n p q → ((q / 64 : Nat) : Int) = y → ((q % 64 : Nat) : Int) = x → False) → wp (f_X12_lacking_J95 (zI x) I (f_X12_lacking_L27 (zI (l : Nat)) (zI (p : Nat)) (zI (n : Nat)) (zI y) I K f) K) (fun b => b = zI ((lkP (rl D l) n p : Nat) : Int)) := by
      intro hno
      unfold f_X12_lacking_J95
      rw [zI_inc]
      refine hn9 _ ⟨x + 1, rfl, by omega, by omega, fun q hq => ?_⟩ hm
      have h3 := hx q hq
      have h4 : ¬ (((q / 64 : Nat) : Int) = y ∧ ((q % 64 : Nat) : Int) = x) := fun z => hno q hq z.1 z.2
      omega
    rw [isIn63 (by omega) (by omega), isIn63 (by omega) (by omega)]
    by_cases hx6 : 0 ≤ x ∧ x ≤ 63
    · rw [if_pos hx6, if_neg (by decide)]
      by_cases hy6 : 0 ≤ y ∧ y ≤ 63
      · rw [if_pos hy6, if_neg (by decide), show (4096 : Int32) = zI 4096 from rfl, zI_mul, zI_mul, zI_add, zI_add, nm_cz (by omega) (by omega) (by omega), zI_cl (by omega) (by omega), zI_add]
        have e : I 20 (4096 * ((l : Nat) : Int) + 64 * y + x).toNat = if rl D l (64 * y + x).toNat = true then 1 else 0 := by
          rw [hO _ (by omega)]
          unfold rl
          rw [decide_eq_true (by omega), Bool.true_and, show (4096 * ((l : Nat) : Int) + 64 * y + x).toNat = 4096 * l + (64 * y + x).toNat by omega]
        rw [e]
        refine wp_if (fun h2 => wp_r ?_) (fun h2 => hskip (fun q hq h3 h4 => ?_))
        · have hb : rl D l (64 * y + x).toNat = false := (ite_z _).mp h2
          have : LK (rl D l) n p (64 * y + x).toNat := Or.inl ⟨⟨by omega, ⟨by omega, by omega, by omega, by omega⟩, hb⟩, fun q hq => by
            have h3 := hx q hq
            omega⟩
          rw [← lkP_eq this]
          exact congrArg zI (by omega)
        · apply h2
          rw [ite_z, ← hq.2.2]
          exact congrArg _ (by omega)
      · rw [if_neg hy6, if_pos rfl]
        refine hskip (fun q hq h3 h4 => ?_)
        have := hq.1
        omega
    · rw [if_neg hx6, if_pos rfl]
      exact hskip (fun q hq h3 h4 => by omega)
  · show (200 - (zI _).toInt).toNat < nm_F
    rw [zI_ti (by omega) (by omega), nm_F_eq]
    omega
  · have h3 := hI q hq
    obtain ⟨q1, ⟨q2, q3, q4, q5⟩, q6⟩ := hq
    omega
theorem w_lacking {I : nm_I} {D : Nat → Bool} (hO : oR I D) {l n p : Nat} (hl : l < 16) (hn : n ≤ 9) (hp : p < 4096) :
    f_X12_lacking (zI (l : Nat)) (zI (p : Nat)) (zI (n : Nat)) I = some (zI ((lkP (rl D l) n p : Nat) : Int)) := by
  apply wp_eq
  unfold f_X12_lacking
  rw [show (64 : Int32) = zI 64 from rfl, zI_div (by omega) (by omega) (by omega) (by omega), zI_sub]
  simp only [nm_l_eq]
  refine lpm (fun f (t : Int32) => f_X12_lacking_L8 (zI (l : Nat)) (zI (p : Nat)) (zI (n : Nat)) I (fun _ => some (zI (p : Nat))) f t) _ (fun t => ∃ y : Int, t = zI y ∧ ((p / 64 : Nat) : Int) - n ≤ y ∧ y ≤ ((p / 64 : Nat) : Int) + n + 1 ∧ ∀ q, lbad (rl D l) n p q → y ≤ ((q / 64 : Nat) : Int)) (fun t => (200 - t.toInt).toNat) ?_ nm_F (zI (((p : Nat) : Int) / 64 - n)) ?_ ⟨_, rfl, by omega, by omega, fun q hq => ?_⟩
  · rintro f _ ⟨y, rfl, y1, y2, hy⟩ hn9
    have hm : (200 - (zI (y + 1)).toInt).toNat < (200 - (zI y).toInt).toNat := by
      rw [zI_ti (by omega) (by omega), zI_ti (by omega) (by omega)]
      omega
    show wp (f_X12_lacking_L8 _ _ _ _ _ (f + 1) _) _
    rw [f_X12_lacking_L8, show (64 : Int32) = zI 64 from rfl, md (by omega) (by omega) (by omega) (by omega), zI_div (by omega) (by omega) (by omega) (by omega), zI_add, zI_sub]
    simp (disch := omega) only [zI_lt]
    refine wp_if (fun h => wp_r ?_) (fun h => ?_)
    · refine congrArg (fun z : Nat => zI (z : Int)) (lkP_eq (Or.inr ⟨fun q hq => ?_, rfl⟩))
      have h3 := hy q hq
      obtain ⟨q1, ⟨q2, q3, q4, q5⟩, q6⟩ := hq
      omega
    simp only [nm_l_eq]
    rw [zI_inc]
    exact w_lackRow hO hl hn hp y1 (by omega) (fun hq => hn9 _ ⟨y + 1, rfl, by omega, by omega, hq⟩ hm) hy
  · show (200 - (zI _).toInt).toNat < nm_F
    rw [zI_ti (by omega) (by omega), nm_F_eq]
    omega
  · obtain ⟨q1, ⟨q2, q3, q4, q5⟩, q6⟩ := hq
    omega
