/-! calls, told of both sides: shapes drawn -/
def simB (K : Nat → Nat) (N : Nat → Nat) (x : Option (Int32 × cm × (Nat → Nat))) (y : Option (Int32 × nm_I)) : Prop := ∃ r M' K' I', x = some (r, M', K') ∧ y = some (r, I') ∧ RR (M', N) K' I'
section
variable {S : ca} {K : Nat → Nat} {I : nm_I}
theorem simB_no (h : RR S K I) {x : Int32} {b : Int} (hx : x = zI b) (b1 : -9 ≤ b) (b2 : b ≤ -2) : simB K S.2 (nm_s2 (f_X11_refuse x S.1) fun r M' => some (r, M', K)) (nm_s2 (f_X12_no x I) fun r I' => some (r, I')) := by
  subst hx
  obtain ⟨M', I', e1, e2, e3⟩ := w_refuse h b1 b2
  rw [e1, e2, nm_s2_some, nm_s2_some]
  exact ⟨_, M', K, I', rfl, rfl, e3⟩
theorem s_drawn (h : RR S K I) {sd : Nat → Nat → Nat → Int} {cnt : Nat → Nat} (hcl : cls S K sd cnt) (hcO : clO I sd cnt) {c : Nat} (hc8 : c < 8) (hn : cnt c < 16) {ci : Nat} {fi : Nat → Int32} {fj : Nat → Int64} {a0 a1 a2 a3 a4 : Int} (hok : okS c (s7 a0 a1 a2 a3 a4)) (hsh : ∀ (M' : cm) (K' : Nat → Nat) (pz : Nat), M'.1 pz = fi → M'.2 pz = fj → K' pz = ci + 1 → shM M' K' pz (s7 a0 a1 a2 a3 a4)) :
    simB K S.2 (nm_s3 (f_X11_drawn (zI (c : Nat)) fi fj S.1) fun r M' pz => some (r, M', va_up K pz (ci + 1))) (nm_s2 (f_X12_adds (zI (c : Nat)) (zI a0) (zI a1) (zI a2) (zI a3) (zI a4) I) fun r I' => some (r, I')) := by
  obtain ⟨I', e1, e2, e3, e4⟩ := (w_adds hcO hc8 a0 a1 a2 a3 a4).2 hn
  obtain ⟨M2, m2, m21, m22, m23⟩ := w_outdate (M := S.1) (c := c) hc8
  obtain ⟨⟨n16, f1, f2⟩, -, -⟩ := hcl c hc8
  have hcnt : M2.1 (1000 + 100 * c) 1 = zI ((cnt c : Nat) : Int) := (m23 _ _ (by omega)).trans f1
  have hinc : zI ((cnt c : Nat) : Int) + (1 : Int32) = zI ((cnt c + 1 : Nat) : Int) := zI_inc _
  have hdec : zI ((cnt c + 1 : Nat) : Int) - (1 : Int32) = zI ((cnt c : Nat) : Int) := by
    rw [show (1 : Int32) = zI 1 from rfl, zI_sub]
    exact congrArg zI (by omega)
  unfold f_X11_drawn f_X1_add
  rw [e1, nm_s2_some, m2, nm_s1_some, nm_cz (by omega) (by omega) (by omega), zI_cl (by omega) (by omega), Int.toNat_natCast, nm_l_eq, hcnt, nm_cz (by omega) (by omega) (by omega), zI_cl (by omega) (by omega), Int.toNat_natCast, nm_l_eq]
  obtain ⟨pz, hpz⟩ : ∃ pz, pz = 1000 + 100 * c + 10 + cnt c := ⟨_, rfl⟩
  rw [← hpz, nm_l_eq, nm_l_eq]
  obtain ⟨A, hA9⟩ : ∃ A, A = nm_up (va_up M2.1 pz fi) (1000 + 100 * c) 1 (va_up M2.1 pz fi (1000 + 100 * c) 1 + 1) := ⟨_, rfl⟩
  obtain ⟨J, hJ9⟩ : ∃ J, J = va_up M2.2 pz fj := ⟨_, rfl⟩
  show simB K S.2 (nm_s3 (nm_s3 (some (nm_up (va_up M2.1 pz fi) (1000 + 100 * c) 1 (va_up M2.1 pz fi (1000 + 100 * c) 1 + 1) (1000 + 100 * c) 1 - 1, (nm_up (va_up M2.1 pz fi) (1000 + 100 * c) 1 (va_up M2.1 pz fi (1000 + 100 * c) 1 + 1), va_up M2.2 pz fj), pz)) fun r M3 pz => some (r, M3, pz)) fun r M' pz => some (r, M', va_up K pz (ci + 1))) _
  rw [← hA9, ← hJ9, nm_s3_some, nm_s3_some]
  have ha0 : ∀ m j, m ≠ pz → ¬ (m = 1000 + 100 * c ∧ j = 1) → A m j = M2.1 m j := fun m j p q => by
    rw [hA9, nm_up_ap, if_neg q, va_up_ne _ _ p]
  have ha1 : A (1000 + 100 * c) 1 = zI ((cnt c + 1 : Nat) : Int) := by
    rw [hA9, nm_up_ap, if_pos ⟨rfl, rfl⟩, va_up_ne _ _ (by omega), hcnt, hinc]
  have hap : A pz = fi := by
    rw [hA9]
    funext j
    rw [nm_up_ap, if_neg (by omega), va_up_self]
  have hjp : J pz = fj := by rw [hJ9, va_up_self]
  have hj0 : ∀ m, m ≠ pz → J m = M2.2 m := fun m p => by rw [hJ9, va_up_ne _ _ p]
  clear hA9 hJ9
  rw [ha1, hdec]
  refine ⟨_, (A, J), _, I', rfl, rfl, ?_⟩
  have hpz2 : 1010 + 100 * c + cnt c = pz := by omega
  refine RR_add h hc8 hn f1 hok (K' := va_up K pz (ci + 1)) (fun x _ hx => va_up_ne _ _ (by omega)) (by rw [hpz2]; exact hsh (A, J) _ pz hap hjp (va_up_self _ _ _)) ha1 (fun x p q => (ha0 _ _ (by omega) (by omega)).trans (m22 x p q)) (fun m j _ p q r => (ha0 _ _ (by omega) r).trans (m23 m j q)) (fun m _ p => (hj0 m (by omega)).trans (by rw [m21])) e2 e3 e4
theorem s_full (h : RR S K I) {sd : Nat → Nat → Nat → Int} {cnt : Nat → Nat} (hcl : cls S K sd cnt) (hcO : clO I sd cnt) {c : Nat} (hc8 : c < 8) {ci : Nat} {fi : Nat → Int32} {fj : Nat → Int64} {a0 a1 a2 a3 a4 : Int} (hok : okS c (s7 a0 a1 a2 a3 a4)) (hsh : ∀ (M' : cm) (K' : Nat → Nat) (pz : Nat), M'.1 pz = fi → M'.2 pz = fj → K' pz = ci + 1 → shM M' K' pz (s7 a0 a1 a2 a3 a4)) :
    simB K S.2 (if S.1.1 (1000 + 100 * c) 1 < (16 : Int32) then nm_s3 (f_X11_drawn (zI (c : Nat)) fi fj S.1) fun r M' pz => some (r, M', va_up K pz (ci + 1)) else nm_s2 (f_X11_refuse (-8) S.1) fun r M' => some (r, M', K)) (nm_s2 (f_X12_adds (zI (c : Nat)) (zI a0) (zI a1) (zI a2) (zI a3) (zI a4) I) fun r I' => some (r, I')) := by
  obtain ⟨⟨n16, f1, f2⟩, -, -⟩ := hcl c hc8
  have hlt : zI ((cnt c : Nat) : Int) < (16 : Int32) ↔ cnt c < 16 := by
    rw [show (16 : Int32) = zI 16 from rfl, zI_lt (by omega) (by omega) (by omega) (by omega)]
    omega
  rw [f1]
  by_cases hn : cnt c < 16
  · rw [if_pos (hlt.mpr hn)]
    exact s_drawn h hcl hcO hc8 hn hok hsh
  · rw [if_neg (fun e => hn (hlt.mp e)), (w_adds hcO hc8 a0 a1 a2 a3 a4).1 (by omega)]
    obtain ⟨M', I', e1, e2, e3⟩ := w_refuse h (b := -8) (by decide) (by decide)
    have e1' : f_X11_refuse (-8) S.1 = some (-8, M') := e1
    have e2' : f_X12_no (-8) I = some (-8, I') := e2
    rw [e1', e2', nm_s2_some, nm_s2_some, nm_s2_some]
    exact ⟨_, M', K, I', rfl, rfl, e3⟩
theorem s_text (h : RR S K I) (x y u v : Int32) : simB K S.2 (f_X11_text K x y u v S.1) (f_X12_text x y u v I) := by
  obtain ⟨z, z1, z2, rfl⟩ := zI_ex x
  obtain ⟨l, l1, l2, rfl⟩ := zI_ex y
  obtain ⟨q, q1, q2, rfl⟩ := zI_ex u
  obtain ⟨w, w1, w2, rfl⟩ := zI_ex v
  obtain ⟨sd, cnt, hcl, hcO⟩ := id h.2.1.1
  have hno3 := simB_no h (x := -3) (b := -3) rfl (by decide) (by decide)
  have hno7 := simB_no h (x := -7) (b := -7) rfl (by decide) (by decide)
  unfold f_X11_text f_X12_text
  rw [show f_X11_outside (zI z) 8 = f_X11_outside (zI z) (zI ((8 : Nat) : Int)) from rfl, show f_X11_outside (zI l) 16 = f_X11_outside (zI l) (zI ((16 : Nat) : Int)) from rfl, show f_X11_outside (zI q) 4096 = f_X11_outside (zI q) (zI ((4096 : Nat) : Int)) from rfl, out_z z1 z2 (by omega), out_z l1 l2 (by omega), out_z q1 q2 (by omega), oif, oif, oif, isCell_i z1 z2, isLayer_z l1 l2, isSquare_z q1 q2, iif, iif, iif, isIn_z w1 w2, iif, show (1 : Int64).toInt = 1 by decide, show (999 : Int64).toInt = 999 by decide]
  by_cases hz : ¬ (0 ≤ z ∧ z < 8)
  · rw [if_neg (by omega), if_neg hz]
    exact hno3
  replace hz := Classical.not_not.mp hz
  rw [if_pos (show 0 ≤ z ∧ z < ((8 : Nat) : Int) by omega), if_pos hz]
  by_cases hl : ¬ (0 ≤ l ∧ l < 16)
  · rw [if_neg (by omega), if_neg hl]
    exact hno3
  replace hl := Classical.not_not.mp hl
  rw [if_pos (show 0 ≤ l ∧ l < ((16 : Nat) : Int) by omega), if_pos hl]
  by_cases hq : ¬ (0 ≤ q ∧ q < 4096)
  · rw [if_neg (by omega), if_neg hq]
    exact hno3
  replace hq := Classical.not_not.mp hq
  rw [if_pos (show 0 ≤ q ∧ q < ((4096 : Nat) : Int) by omega), if_pos hq]
  have t1 : zI w < (1 : Int32) ↔ w < 1 := by rw [show (1 : Int32) = zI 1 from rfl, zI_lt (by omega) (by omega) (by omega) (by omega)]
  have t2 : zI w ≤ (999 : Int32) ↔ w ≤ 999 := by rw [show (999 : Int32) = zI 999 from rfl, zI_le (by omega) (by omega) (by omega) (by omega)]
  by_cases hw1 : w < 1
  · rw [if_pos (t1.mpr hw1), if_neg (by omega)]
    exact hno7
  rw [if_neg (fun e => hw1 (t1.mp e))]
  by_cases hw2 : ¬ w ≤ 999
  · rw [if_neg (fun e => hw2 (t2.mp e)), if_neg (by omega)]
    exact hno7
  replace hw2 := Classical.not_not.mp hw2
  obtain ⟨c, rfl⟩ := Int.eq_ofNat_of_zero_le hz.1
  obtain ⟨l, rfl⟩ := Int.eq_ofNat_of_zero_le hl.1
  obtain ⟨q, rfl⟩ := Int.eq_ofNat_of_zero_le hq.1
  obtain ⟨w, rfl⟩ := Int.eq_ofNat_of_zero_le (show 0 ≤ w by omega)
  rw [if_pos (t2.mpr hw2), if_pos (by omega), nm_cz (by omega) (by omega) (by omega), nm_l_eq, zI_cl (by omega) (by omega), Int.toNat_natCast]
  refine s_full h hcl hcO (by omega) (ci := 4) (a0 := 3) (a1 := l) (a2 := q) (a3 := w) (a4 := 0) ?_ (fun M' K' pz e1 e2 e3 => ?_)
  · unfold okS
    simp only [show ∀ a b c d e, s7 a b c d e 0 = a from fun _ _ _ _ _ => rfl, show ∀ a b c d e, s7 a b c d e 1 = b from fun _ _ _ _ _ => rfl, show ∀ a b c d e, s7 a b c d e 2 = c from fun _ _ _ _ _ => rfl, show ∀ a b c d e, s7 a b c d e 3 = d from fun _ _ _ _ _ => rfl, show ∀ a b c d e, s7 a b c d e 4 = e from fun _ _ _ _ _ => rfl, show ∀ a b c d e, s7 a b c d e 5 = 300 from fun _ _ _ _ _ => rfl, show ∀ a b c d e, s7 a b c d e 6 = 300 from fun _ _ _ _ _ => rfl]
    omega
  · have ht : txt (s7 3 (l : Nat) (q : Nat) (w : Nat) 0) = (l, q, w) := rfl
    have hp := w_pack (t := (l, q, w)) (show l < 16 ∧ q < 4096 ∧ w < 1024 by omega)
    refine ⟨by rw [e1]; rfl, by rw [e1]; rfl, by rw [e1]; rfl, fun e => ?_, fun _ => ⟨by rw [e3], ?_⟩, fun e => ?_⟩
    · exact absurd e (show ¬ ((3 : Int) = 0 ∨ (3 : Int) = 1 ∨ (3 : Int) = 2) by decide)
    · rw [e1, ht, ← hp]
      rfl
    · exact absurd e (show ¬ (3 : Int) = 4 by decide)
theorem s_put (h : RR S K I) (x y u v : Int32) (mir : Bool) : simB K S.2 (f_X11_put K x y u v (bq mir) S.1) (f_X12_put x y u v (bq mir) I) := by
  obtain ⟨z, z1, z2, rfl⟩ := zI_ex x
  obtain ⟨l, l1, l2, rfl⟩ := zI_ex y
  obtain ⟨q, q1, q2, rfl⟩ := zI_ex u
  obtain ⟨w, w1, w2, rfl⟩ := zI_ex v
  obtain ⟨sd, cnt, hcl, hcO⟩ := id h.2.1.1
  have hno3 := simB_no h (x := -3) (b := -3) rfl (by decide) (by decide)
  have hno7 := simB_no h (x := -7) (b := -7) rfl (by decide) (by decide)
  unfold f_X11_put f_X12_put
  rw [show f_X11_outside (zI z) 8 = f_X11_outside (zI z) (zI ((8 : Nat) : Int)) from rfl, show f_X11_outside (zI q) 4096 = f_X11_outside (zI q) (zI ((4096 : Nat) : Int)) from rfl, out_z z1 z2 (by omega), out_z q1 q2 (by omega), oif, oif, isCell_i z1 z2, isSquare_z q1 q2, iif, iif, isIn_z w1 w2, iif, show (0 : Int64).toInt = 0 by decide, show (3 : Int64).toInt = 3 by decide]
  by_cases hz : ¬ (0 ≤ z ∧ z < 8)
  · rw [if_neg (by omega), if_neg hz]
    exact hno3
  replace hz := Classical.not_not.mp hz
  obtain ⟨c, rfl⟩ := Int.eq_ofNat_of_zero_le hz.1
  rw [if_pos (show 0 ≤ ((c : Nat) : Int) ∧ ((c : Nat) : Int) < ((8 : Nat) : Int) by omega), if_pos hz, out_z l1 l2 (by omega), oif, isInN l1 l2 (by omega), iif]
  by_cases hl : ¬ (0 ≤ l ∧ l < ((c : Nat) : Int))
  · rw [if_neg hl, if_neg hl]
    exact hno3
  replace hl := Classical.not_not.mp hl
  rw [if_pos hl, if_pos hl]
  by_cases hq : ¬ (0 ≤ q ∧ q < 4096)
  · rw [if_neg (by omega), if_neg hq]
    exact hno3
  replace hq := Classical.not_not.mp hq
  rw [if_pos (show 0 ≤ q ∧ q < ((4096 : Nat) : Int) by omega), if_pos hq]
  have t1 : zI w < 0 ↔ w < 0 := by rw [show (0 : Int32) = zI 0 from rfl, zI_lt (by omega) (by omega) (by omega) (by omega)]
  have t2 : zI w ≤ (3 : Int32) ↔ w ≤ 3 := by rw [show (3 : Int32) = zI 3 from rfl, zI_le (by omega) (by omega) (by omega) (by omega)]
  by_cases hw1 : w < 0
  · rw [if_pos (t1.mpr hw1), if_neg (by omega)]
    exact hno7
  rw [if_neg (fun e => hw1 (t1.mp e))]
  by_cases hw2 : ¬ w ≤ 3
  · rw [if_neg (fun e => hw2 (t2.mp e)), if_neg (by omega)]
    exact hno7
  replace hw2 := Classical.not_not.mp hw2
  obtain ⟨l, rfl⟩ := Int.eq_ofNat_of_zero_le hl.1
  obtain ⟨q, rfl⟩ := Int.eq_ofNat_of_zero_le hq.1
  obtain ⟨w, rfl⟩ := Int.eq_ofNat_of_zero_le (show 0 ≤ w by omega)
  rw [if_pos (t2.mpr hw2), if_pos (by omega), nm_cz (by omega) (by omega) (by omega), nm_l_eq, zI_cl (by omega) (by omega), Int.toNat_natCast]
  have main : ∀ b : Bool, b = mir → simB K S.2 (if S.1.1 (1000 + 100 * c) 1 < (16 : Int32) then nm_s3 (f_X11_drawn (zI (c : Nat)) (mk_i [4, zI ((l : Nat) : Int), zI ((q : Nat) : Int), zI ((w : Nat) : Int), bq mir, 0, 0, 1, 1]) (fun _ => 0) S.1) fun r M' pz => some (r, M', va_up K pz 7) else nm_s2 (f_X11_refuse (-8) S.1) fun r M' => some (r, M', K)) (nm_s2 (f_X12_adds (zI (c : Nat)) 4 (zI ((l : Nat) : Int)) (zI ((q : Nat) : Int)) (zI ((w : Nat) : Int)) (bq b) I) fun r I' => some (r, I')) := by
    intro b hb
    subst hb
    have hbz : bq b = zI (if b = true then 1 else 0) := by cases b <;> rfl
    rw [hbz]
    have hmb : mirB (s7 4 (l : Nat) (q : Nat) (w : Nat) (if b = true then 1 else 0)) = b := by
      show decide ((if b = true then (1 : Int) else 0) = 1) = b
      cases b <;> decide
    refine s_full h hcl hcO (by omega) (ci := 6) (a0 := 4) (a1 := l) (a2 := q) (a3 := w) (a4 := if b = true then 1 else 0) ?_ (fun M' K' pz e1 e2 e3 => ?_)
    · have hb01 : 0 ≤ (if b = true then (1 : Int) else 0) ∧ (if b = true then (1 : Int) else 0) ≤ 1 := by cases b <;> decide
      unfold okS
      simp only [show ∀ a b c d e, s7 a b c d e 0 = a from fun _ _ _ _ _ => rfl, show ∀ a b c d e, s7 a b c d e 1 = b from fun _ _ _ _ _ => rfl, show ∀ a b c d e, s7 a b c d e 2 = c from fun _ _ _ _ _ => rfl, show ∀ a b c d e, s7 a b c d e 3 = d from fun _ _ _ _ _ => rfl, show ∀ a b c d e, s7 a b c d e 4 = e from fun _ _ _ _ _ => rfl, show ∀ a b c d e, s7 a b c d e 5 = 300 from fun _ _ _ _ _ => rfl, show ∀ a b c d e, s7 a b c d e 6 = 300 from fun _ _ _ _ _ => rfl]
      omega
    · refine ⟨by rw [e1]; rfl, by rw [e1]; rfl, by rw [e1]; rfl, fun e => ?_, fun e => ?_, fun _ => ⟨by rw [e3], ?_⟩⟩
      · exact absurd e (show ¬ ((4 : Int) = 0 ∨ (4 : Int) = 1 ∨ (4 : Int) = 2) by decide)
      · exact absurd e (show ¬ (4 : Int) = 3 by decide)
      · rw [hmb]
        refine ⟨⟨by rw [e1]; rfl, by rw [e1]; rfl, ?_, by rw [e1]; rfl, by rw [e1]; rfl, by rw [e1]; rfl, by rw [e1]; rfl⟩, ?_, ?_, show tmT 300 ≤ 4 by decide, show tmT 300 ≤ 4 by decide, show -63 ≤ tmF 300 ∧ tmF 300 ≤ 63 by decide, show -63 ≤ tmF 300 ∧ tmF 300 ≤ 63 by decide⟩
        · rw [e1]
          show zI (if b = true then 1 else 0) = _
          cases b <;> rfl
        · show ((q : Nat) : Int).toNat < 4096
          omega
        · show ((w : Nat) : Int).toNat < 4
          omega
  cases mir with
  | false =>
    rw [if_pos (show bq false = 0 by decide)]
    exact main false rfl
  | true =>
    rw [if_neg (show ¬ bq true = 0 by decide)]
    exact main true rfl
end
