theorem w_settle {c : Nat} (hc8 : c < 8) {K : Nat → Nat} {s : Nat → Nat → Int} {n : Nat} {tb : Nat → fl} {S : ca} (hc : cO S.2) (hl : (S.2 (1000 + 100 * c + 2) = 0 ∧ S.2 (1000 + 100 * c + 3) = 0) ∨ (S.2 (1000 + 100 * c + 2) = 512 ∧ S.2 (1000 + 100 * c + 3) = 200)) (hce : ceM S.1 K c s n) (hput : ∀ k, k < n → s k 0 = 4 → stl S (s k 1).toNat (tb (s k 1).toNat)) (hs : S.1.1 (1000 + 100 * c) 2 = 0 ∨ (S.1.1 (1000 + 100 * c) 2 = 1 ∧ stl S c (flT tb s n))) :
    wc sN (f_X1_settle (1000 + 100 * c) K S) S.2 (fun S' => cO S'.2 ∧ stl S' c (flT tb s n) ∧ S'.1.1 (1000 + 100 * c) 2 = 1 ∧ seD c S S') := by
  unfold f_X1_settle
  refine wc_if (fun h0 => ?_) (fun h0 => ?_)
  · rw [zI_nI, zI_0]
    refine wc_if (fun h1 => ?_) (fun h1 => ?_)
    · have hc2 := hc.2 _ (cl_dyW hc8).1
      have hcl := cap_le (1000 + 100 * c + 2)
      have hz : S.2 (1000 + 100 * c + 2) = 0 := by
        have := zI_inj (by omega) (by omega) (by omega) (by omega) h1
        omega
      have hz3 : S.2 (1000 + 100 * c + 3) = 0 := by
        rcases hl with h | h
        · exact h.2
        · omega
      have pu := pt_up S.2 512 (cl_dyW hc8).1
      refine wc_a1 (f := sN) (fun S1 => S1 = ((S.1.1, va_up S.1.2 (1000 + 100 * c + 2) (fun _ => 0)), va_up S.2 (1000 + 100 * c + 2) 512)) ⟨_, _, _, rfl, by omega, ?_, rfl⟩ ?_
      · show 512 + 2 * pt S.2 ≤ 2 * pt (va_up S.2 (1000 + 100 * c + 2) 512)
        omega
      · rintro S1 rfl
        have pu2 := pt_up (va_up S.2 (1000 + 100 * c + 2) 512) 200 (cl_dyW hc8).2
        have e3 : va_up S.2 (1000 + 100 * c + 2) 512 (1000 + 100 * c + 3) = 0 := by rw [va_up_ne _ _ (by omega)]; exact hz3
        refine wc_a1 (f := sN) (fun S2 => S2 = ((va_up S.1.1 (1000 + 100 * c + 3) (fun _ => 0), va_up S.1.2 (1000 + 100 * c + 2) (fun _ => 0)), va_up (va_up S.2 (1000 + 100 * c + 2) 512) (1000 + 100 * c + 3) 200)) ⟨_, _, _, rfl, by omega, ?_, rfl⟩ ?_
        · show 200 + 2 * pt (va_up S.2 (1000 + 100 * c + 2) 512) ≤ 2 * pt (va_up (va_up S.2 (1000 + 100 * c + 2) 512) (1000 + 100 * c + 3) 200)
          omega
        · rintro S2 rfl
          have hcap : ∀ x, cap x = 8192 ∨ cap x = 131072 := fun x => by
            unfold cap
            split
            · exact Or.inr rfl
            · exact Or.inl rfl
          have hcO : cO (va_up (va_up S.2 (1000 + 100 * c + 2) 512) (1000 + 100 * c + 3) 200) := by
            refine ⟨cl_ndy (cl_ndy hc.1 (cl_dyW hc8).1) (cl_dyW hc8).2, fun x hx => ?_⟩
            have := hcap x
            by_cases h3 : x = 1000 + 100 * c + 3
            · rw [h3, va_up_self]
              have := hcap (1000 + 100 * c + 3)
              omega
            · rw [va_up_ne _ _ h3]
              by_cases h2 : x = 1000 + 100 * c + 2
              · rw [h2, va_up_self]
                have := hcap (1000 + 100 * c + 2)
                omega
              · rw [va_up_ne _ _ h2]
                exact hc.2 x hx
          have i1 : ∀ m, m ≠ 1000 + 100 * c + 3 → va_up S.1.1 (1000 + 100 * c + 3) (fun _ => 0) m = S.1.1 m := fun m h => va_up_ne _ _ h
          have j1 : ∀ m, m ≠ 1000 + 100 * c + 2 → va_up S.1.2 (1000 + 100 * c + 2) (fun _ => 0) m = S.1.2 m := fun m h => va_up_ne _ _ h
          have n1 : ∀ x, x ≠ 1000 + 100 * c + 2 → x ≠ 1000 + 100 * c + 3 → va_up (va_up S.2 (1000 + 100 * c + 2) 512) (1000 + 100 * c + 3) 200 x = S.2 x := fun x a b => by rw [va_up_ne _ _ b, va_up_ne _ _ a]
          have hn16 := hce.1
          refine wc_m (w_settleJ (tb := tb) (S := ((va_up S.1.1 (1000 + 100 * c + 3) (fun _ => 0), va_up S.1.2 (1000 + 100 * c + 2) (fun _ => 0)), va_up (va_up S.2 (1000 + 100 * c + 2) 512) (1000 + 100 * c + 3) 200)) hc8 hcO ?_ ?_ ⟨hce.1, ?_, fun k hk => ⟨(hce.2.2 k hk).1, shM_fr (hce.2.2 k hk).2 (fun j => ?_) ?_⟩⟩ (fun k hk h4 => ?_)) ?_
          · show va_up _ _ _ _ = 512
            rw [va_up_ne _ _ (by omega), va_up_self]
          · show va_up _ _ _ _ = 200
            rw [va_up_self]
          · show va_up S.1.1 _ _ _ 1 = _
            rw [i1 _ (by omega)]
            exact hce.2.1
          · show va_up S.1.1 _ _ _ j = _
            rw [i1 _ (by omega)]
          · show va_up S.1.2 _ _ _ = _
            rw [j1 _ (by omega)]
          · have hr := put_rng (hce.2.2 k hk).1 h4
            obtain ⟨z1, z2, z3, z4, z5, z6⟩ := hput k hk h4
            generalize (s k 1).toNat = o at *
            refine ⟨?_, ?_, ?_, ?_⟩
            · show va_up _ _ _ _ = _
              rw [n1 _ (by omega) (by omega)]
              exact z1
            · show va_up _ _ _ _ = _
              rw [n1 _ (by omega) (by omega)]
              exact z2
            · intro y x hy hx
              show bx (va_up S.1.2 _ _ _ y) x = _
              rw [j1 _ (by omega)]
              exact z3 y x hy hx
            · refine ⟨?_, z5, fun i hi => ⟨(z6 i hi).1, ?_⟩⟩
              · show va_up S.1.1 _ _ _ 5 = _
                rw [i1 _ (by omega)]
                exact z4
              · show va_up S.1.1 _ _ _ i = _
                rw [i1 _ (by omega)]
                exact (z6 i hi).2
          · rintro S' ⟨q1, q2, q3, q4, q5, q6⟩
            refine ⟨by rw [q1]; exact hcO, q2, q3, fun m j a b => ?_, fun m a b => ?_, fun x a b => ?_⟩
            · rw [q4 m j a b]
              show va_up S.1.1 _ _ m j = _
              rw [i1 _ b]
            · rw [q5 m a b]
              exact j1 _ a
            · rw [q6 x a b]
              exact n1 x a b
    · have hc2 := hc.2 _ (cl_dyW hc8).1
      have hcl := cap_le (1000 + 100 * c + 2)
      have hz : S.2 (1000 + 100 * c + 2) ≠ 0 := fun e => h1 (by rw [e]; rfl)
      have hl2 : S.2 (1000 + 100 * c + 2) = 512 ∧ S.2 (1000 + 100 * c + 3) = 200 := by
        rcases hl with h | h
        · exact absurd h.1 hz
        · exact h
      refine wc_m (w_settleJ (tb := tb) hc8 hc hl2.1 hl2.2 hce hput) ?_
      rintro S' ⟨q1, q2, q3, q4⟩
      exact ⟨by rw [q1]; exact hc, q2, q3, q4⟩
  · rcases hs with h | h
    · exact absurd h h0
    · exact wc_r ⟨hc, h.2, h.1, ⟨fun _ _ _ _ => rfl, fun _ _ _ => rfl, fun _ _ _ => rfl⟩⟩
/-! numbers as sets of bits -/
def bi (m : Int32) (i : Nat) : Bool := m.toBitVec.getLsbD i
theorem bi_sh : ∀ l, l < 32 → ((1 : Int32) <<< (zI ((l : Nat) : Int) &&& 31)).toBitVec = BitVec.twoPow 32 l := by decide +kernel
theorem bi_0 (m : Int32) {l : Nat} (hl : l < 32) : m &&& ((1 : Int32) <<< (zI ((l : Nat) : Int) &&& 31)) = 0 ↔ bi m l = false := by
  have e : (m &&& ((1 : Int32) <<< (zI ((l : Nat) : Int) &&& 31))).toBitVec = if m.toBitVec.getLsbD l then BitVec.twoPow 32 l else 0#32 := by
    rw [Int32.toBitVec_and, bi_sh l hl, BitVec.and_twoPow]
  have hne : BitVec.twoPow 32 l ≠ 0#32 := by
    intro h
    have := congrArg (fun v => v.getLsbD l) h
    simp [BitVec.getLsbD_twoPow, hl] at this
  unfold bi
  constructor
  · intro h
    rw [h] at e
    cases hb : m.toBitVec.getLsbD l with
    | false => rfl
    | true =>
      rw [hb, if_pos rfl] at e
      exact absurd e.symm hne
  · intro h
    rw [h, if_neg (by decide)] at e
    exact Int32.toBitVec.inj e
theorem bi_or (a b : Int32) (i : Nat) : bi (a ||| b) i = (bi a i || bi b i) := by
  unfold bi
  rw [Int32.toBitVec_or, BitVec.getLsbD_or]
theorem bi_one {l : Nat} (hl : l < 32) (i : Nat) : bi ((1 : Int32) <<< (zI ((l : Nat) : Int) &&& 31)) i = decide (l = i) := by
  unfold bi
  rw [bi_sh l hl, BitVec.getLsbD_twoPow]
  simp [hl]
theorem bi_z (i : Nat) : bi 0 i = false := by
  unfold bi
  exact BitVec.getLsbD_zero
