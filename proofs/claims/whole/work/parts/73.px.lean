/-! texts: packed; at most 200 -/
abbrev tx : Type := Nat × Nat × Nat
def pkt (t : tx) : Nat := (t.1 * 4096 + t.2.1) * 1024 + t.2.2
def tok (t : tx) : Prop := t.1 < 16 ∧ t.2.1 < 4096 ∧ t.2.2 < 1024
def addT (T : List tx) (t : tx) : List tx := if T.length < 200 then T ++ [t] else T
theorem nI_or (a b : Nat) : nI a ||| nI b = nI (a ||| b) := by
  apply Int32.toBitVec.inj
  show BitVec.ofNat 32 a ||| BitVec.ofNat 32 b = BitVec.ofNat 32 (a ||| b)
  apply BitVec.eq_of_toNat_eq
  rw [BitVec.toNat_or, BitVec.toNat_ofNat, BitVec.toNat_ofNat, BitVec.toNat_ofNat, Nat.or_mod_two_pow]
theorem w_pack {t : tx} (h : tok t) : f_X5_pack (zI (t.1 : Nat)) (zI (t.2.1 : Nat)) (zI (t.2.2 : Nat)) = zI ((pkt t : Nat) : Int) := by
  obtain ⟨h1, h2, h3⟩ := h
  unfold f_X5_pack
  rw [← zI_nI, ← zI_nI, ← zI_nI, ← zI_nI, pk_shlN _ 12 (by decide) (by omega), nI_or, ← Nat.two_pow_add_eq_or_of_lt (i := 12) (b := t.2.1) h2 t.1 |> fun e => (by rw [Nat.mul_comm]; exact e : t.1 * 2 ^ 12 + t.2.1 = t.1 * 2 ^ 12 ||| t.2.1), pk_shlN _ 10 (by decide) (by omega), nI_or]
  congr 1
  have := Nat.two_pow_add_eq_or_of_lt (i := 10) (b := t.2.2) h3 (t.1 * 2 ^ 12 + t.2.1)
  rw [Nat.mul_comm] at this
  rw [← this]
  rfl
theorem w_layerOf {t : tx} (h : tok t) : f_X5_layerOf (zI ((pkt t : Nat) : Int)) = zI (t.1 : Nat) := by
  obtain ⟨h1, h2, h3⟩ := h
  unfold f_X5_layerOf nm_iushr
  rw [← zI_nI, pk_ushrN (by unfold pkt; omega) _ 22 (by decide), zI_nI]
  unfold pkt
  congr 2
  omega
theorem w_squareOf {t : tx} (h : tok t) : f_X5_squareOf (zI ((pkt t : Nat) : Int)) = zI (t.2.1 : Nat) := by
  obtain ⟨h1, h2, h3⟩ := h
  unfold f_X5_squareOf nm_iushr
  rw [← zI_nI, pk_ushrN (by unfold pkt; omega) _ 10 (by decide), pk_andN (by unfold pkt; omega) 12 (by decide), zI_nI]
  unfold pkt
  congr 2
  omega
theorem w_nameOf {t : tx} (h : tok t) : f_X5_nameOf (zI ((pkt t : Nat) : Int)) = zI (t.2.2 : Nat) := by
  obtain ⟨h1, h2, h3⟩ := h
  unfold f_X5_nameOf
  rw [← zI_nI, pk_andN (by unfold pkt; omega) 10 (by decide), zI_nI]
  unfold pkt
  congr 2
  omega
def d0 : tx := (0, 0, 0)
/-- the texts of a cell, as the program holds them -/
def tM (M : cm) (w : Nat) (T : List tx) : Prop := M.1 w 5 = zI ((T.length : Nat) : Int) ∧ T.length ≤ 200 ∧ ∀ i, i < T.length → tok (T.getD i d0) ∧ M.1 (w + 3) i = zI ((pkt (T.getD i d0) : Nat) : Int)
def xD (w : Nat) (M M' : cm) : Prop := M'.2 = M.2 ∧ ∀ m j, ¬ (m = w ∧ j = 5) → m ≠ w + 3 → M'.1 m j = M.1 m j
theorem xD_rf (w : Nat) (M : cm) : xD w M M := ⟨rfl, fun _ _ _ _ => rfl⟩
theorem xD_tr {w : Nat} {M M1 M2 : cm} (h1 : xD w M M1) (h2 : xD w M1 M2) : xD w M M2 := ⟨h2.1.trans h1.1, fun m j a b => (h2.2 m j a b).trans (h1.2 m j a b)⟩
theorem getD_app {T : List tx} {t : tx} {i : Nat} : (T ++ [t]).getD i d0 = if i < T.length then T.getD i d0 else if i = T.length then t else d0 := by
  by_cases h : i < T.length
  · rw [if_pos h, List.getD_eq_getElem?_getD, List.getD_eq_getElem?_getD, List.getElem?_append_left h]
  · rw [if_neg h, List.getD_eq_getElem?_getD, List.getElem?_append_right (by omega)]
    by_cases h2 : i = T.length
    · rw [if_pos h2, h2]
      simp
    · rw [if_neg h2, List.getElem?_eq_none (by simp; omega)]
      rfl
theorem w_addText {w : Nat} {N : Nat → Nat} (hN : N (w + 3) = 200) {M : cm} {T : List tx} (hT : tM M w T) {t : tx} (ht : tok t) : wp (f_X1_addText w N (zI ((pkt t : Nat) : Int)) M) (fun M' => tM M' w (addT T t) ∧ xD w M M') := by
  obtain ⟨h1, h2, h3⟩ := hT
  unfold f_X1_addText addT
  rw [h1, hN]
  simp (disch := omega) only [zI_lit, zI_le]
  by_cases h : 200 ≤ T.length
  · rw [if_pos (by omega), if_neg (by omega)]
    exact wp_r ⟨⟨h1, h2, h3⟩, xD_rf _ _⟩
  · rw [if_neg (by omega), if_pos (by omega)]
    simp (disch := omega) only [nm_cz, zI_cl, nm_l_eq]
    refine wp_r ⟨⟨?_, ?_, ?_⟩, rfl, ?_⟩
    · show nm_up _ _ _ _ _ _ = _
      rw [nm_up_ap, if_pos ⟨rfl, rfl⟩, nm_up_ap, if_neg (by omega), h1, zI_add, List.length_append]
      rfl
    · rw [List.length_append]
      show T.length + 1 ≤ 200
      omega
    · intro i hi
      rw [List.length_append] at hi
      have hi : i < T.length + 1 := hi
      have em : nm_up (nm_up M.1 (w + 3) ((T.length : Nat) : Int).toNat (zI ((pkt t : Nat) : Int))) w 5 (nm_up M.1 (w + 3) ((T.length : Nat) : Int).toNat (zI ((pkt t : Nat) : Int)) w 5 + zI 1) (w + 3) i = if i = T.length then zI ((pkt t : Nat) : Int) else M.1 (w + 3) i := by
        rw [nm_up_ap, if_neg (show ¬ (w + 3 = w ∧ i = 5) by omega), nm_up_ap]
        by_cases hil : i = T.length
        · rw [if_pos hil, if_pos ⟨rfl, by omega⟩]
        · rw [if_neg hil, if_neg (by omega)]
      refine ⟨?_, em.trans ?_⟩
      · rw [getD_app]
        by_cases hil : i < T.length
        · rw [if_pos hil]
          exact (h3 i hil).1
        · rw [if_neg hil, if_pos (by omega)]
          exact ht
      · rw [getD_app]
        by_cases hil : i < T.length
        · rw [if_pos hil, if_neg (by omega)]
          exact (h3 i hil).2
        · rw [if_neg hil, if_pos (by omega), if_pos (by omega)]
    · intro m j a b
      show nm_up _ _ _ _ _ _ = _
      rw [nm_up_ap, if_neg a, nm_up_ap, if_neg (fun h => b h.1)]
def fo {α : Type} (f : Nat → α → α) : Nat → α → α
  | 0, a => a
  | n + 1, a => f n (fo f n a)
/-- a text of another cell, put -/
def bt1 (sq n : Nat) (mir : Bool) (fa fd : Int) (i j : Nat) (t : tx) (T : List tx) : List tx :=
  if (0 ≤ pX n mir ((t.2.1 % 64 : Nat) : Int) ((t.2.1 / 64 : Nat) : Int) + (((sq % 64 : Nat) : Int) + (i : Int) * fa) ∧ pX n mir ((t.2.1 % 64 : Nat) : Int) ((t.2.1 / 64 : Nat) : Int) + (((sq % 64 : Nat) : Int) + (i : Int) * fa) < 64) ∧ 0 ≤ pY n mir ((t.2.1 % 64 : Nat) : Int) ((t.2.1 / 64 : Nat) : Int) + (((sq / 64 : Nat) : Int) + (j : Int) * fd) ∧ pY n mir ((t.2.1 % 64 : Nat) : Int) ((t.2.1 / 64 : Nat) : Int) + (((sq / 64 : Nat) : Int) + (j : Int) * fd) < 64 then
    addT T (t.1, 64 * (pY n mir ((t.2.1 % 64 : Nat) : Int) ((t.2.1 / 64 : Nat) : Int) + (((sq / 64 : Nat) : Int) + (j : Int) * fd)).toNat + (pX n mir ((t.2.1 % 64 : Nat) : Int) ((t.2.1 / 64 : Nat) : Int) + (((sq % 64 : Nat) : Int) + (i : Int) * fa)).toNat, t.2.2)
  else T
def btA (T2 : List tx) (sq n : Nat) (mir : Bool) (ta td : Nat) (fa fd : Int) (T : List tx) : List tx := fo (fun j T => fo (fun i T => fo (fun t T => bt1 sq n mir fa fd i j (T2.getD t d0) T) T2.length T) ta T) td T
theorem pXY_rng {n : Nat} {mir : Bool} {x y : Int} (h1 : 0 ≤ x ∧ x < 64) (h2 : 0 ≤ y ∧ y < 64) : -64 ≤ pX n mir x y ∧ pX n mir x y < 64 ∧ -64 ≤ pY n mir x y ∧ pY n mir x y < 64 := by
  unfold pX pY fc
  cases mir <;> simp only [if_true, if_false, Bool.false_eq_true] <;> (repeat' split) <;> omega
theorem w_outside {x n : Int} (h1 : -2147483648 ≤ x) (h2 : x < 2147483648) (h3 : -2147483648 ≤ n) (h4 : n < 2147483648) : f_X11_outside (zI x) (zI n) = if 0 ≤ x ∧ x < n then 0 else 1 := by
  unfold f_X11_outside f_X11_outside_J9
  rw [zI_0]
  simp (disch := omega) only [zI_lt]
  by_cases a : x < 0
  · rw [if_pos a, if_neg (by omega)]
  · rw [if_neg a]
    by_cases b : x < n
    · rw [if_pos b, if_pos (by omega)]
    · rw [if_neg b, if_neg (by omega)]
theorem tM_x {M M' : cm} {w w2 : Nat} {T : List tx} (h : tM M w2 T) (hx : xD w M M') (h1 : w2 ≠ w) (h2 : w2 ≠ w + 3) (h3 : w2 + 3 ≠ w) : tM M' w2 T := by
  obtain ⟨a, b, c⟩ := h
  refine ⟨by rw [hx.2 _ _ (fun h => h1 h.1) h2]; exact a, b, fun i hi => ⟨(c i hi).1, ?_⟩⟩
  rw [hx.2 _ _ (fun h => h3 h.1) (by omega)]
  exact (c i hi).2
theorem putM_x {M M' : cm} {w pz sq n : Nat} {mir : Bool} {ta td : Nat} {fa fd : Int} (h : putM M pz sq n mir ta td fa fd) (hx : xD w M M') (h1 : pz ≠ w) (h2 : pz ≠ w + 3) : putM M' pz sq n mir ta td fa fd := by
  unfold putM
  rw [hx.2 _ _ (fun h => h1 h.1) h2, hx.2 _ _ (fun h => h1 h.1) h2, hx.2 _ _ (fun h => h1 h.1) h2, hx.2 _ _ (fun h => h1 h.1) h2, hx.2 _ _ (fun h => h1 h.1) h2, hx.2 _ _ (fun h => h1 h.1) h2, hx.2 _ _ (fun h => h1 h.1) h2]
  exact h
theorem w_bringTexts {w w2 pz : Nat} (n1 : w2 ≠ w) (n2 : w2 ≠ w + 3) (n3 : w2 + 3 ≠ w) (n4 : pz ≠ w) (n5 : pz ≠ w + 3) {N : Nat → Nat} (hN : N (w + 3) = 200) (hN2 : N (w2 + 3) = 200) {M : cm} {sq n : Nat} {mir : Bool} {ta td : Nat} {fa fd : Int} (h : putM M pz sq n mir ta td fa fd) {T T2 : List tx} (hT : tM M w T) (hT2 : tM M w2 T2) {i j : Nat} (hi : i ≤ 3) (hj : j ≤ 3) : wp (f_X1_bringTexts w w2 pz N (zI (i : Nat)) (zI (j : Nat)) M) (fun M' => tM M' w (fo (fun t T => bt1 sq n mir fa fd i j (T2.getD t d0) T) T2.length T) ∧ xD w M M') := by
  have hT2l := hT2.2.1
  unfold f_X1_bringTexts
  refine wp_s1 (fun M' => tM M' w (fo (fun t T => bt1 sq n mir fa fd i j (T2.getD t d0) T) T2.length T) ∧ xD w M M') ?_ (fun _ h => wp_r h)
  rw [zI_0]
  refine lpc (fun f => f_X1_bringTexts_L3 w w2 pz N (zI (i : Nat)) (zI (j : Nat)) f) _ T2.length (fun k M1 => 0 ≤ k ∧ tM M1 w (fo (fun t T => bt1 sq n mir fa fd i j (T2.getD t d0) T) k.toNat T) ∧ xD w M M1) ?_ ?_ nm_F 0 M (by omega) (by rw [nm_F_eq]; omega) ⟨by omega, hT, xD_rf _ _⟩
  · rintro f k M1 hk ⟨k0, hI, hX⟩ hn9
    obtain ⟨k, rfl⟩ := Int.eq_ofNat_of_zero_le k0
    have hp1 := putM_x h hX n4 n5
    obtain ⟨b1, b2, b3⟩ := tM_x hT2 hX n1 n2 n3
    obtain ⟨t1, t2⟩ := b3 k (by omega)
    generalize ht : T2.getD k d0 = t at *
    obtain ⟨-, hsq, hn, hta, htd, ⟨f1, f2⟩, f3, f4⟩ := hp1
    have hp1 := putM_x h hX n4 n5
    have ir := mul_rng hi f1 f2
    have jr := mul_rng hj f3 f4
    have pr := pXY_rng (n := n) (mir := mir) (x := ((t.2.1 % 64 : Nat) : Int)) (y := ((t.2.1 / 64 : Nat) : Int)) (by omega) (by have := t1.2.1; omega)
    have hsqt := t1.2.1
    rw [show ((k : Nat) : Int).toNat = k from rfl] at hI
    have hstep : ∀ M2, tM M2 w (bt1 sq n mir fa fd i j t (fo (fun t T => bt1 sq n mir fa fd i j (T2.getD t d0) T) k T)) → xD w M M2 → wp (f_X1_bringTexts_J118 w w2 pz N (zI ((k : Nat) : Int)) M2 (f_X1_bringTexts_L3 w w2 pz N (zI (i : Nat)) (zI (j : Nat)) f)) (fun M' => tM M' w (fo (fun t T => bt1 sq n mir fa fd i j (T2.getD t d0) T) T2.length T) ∧ xD w M M') := by
      intro M2 h2 x2
      unfold f_X1_bringTexts_J118
      rw [zI_inc]
      refine hn9 _ ⟨by omega, ?_, x2⟩
      rw [show (((k : Nat) : Int) + 1).toNat = k + 1 by omega]
      show tM M2 w (bt1 sq n mir fa fd i j (T2.getD k d0) _)
      rw [ht]
      exact h2
    rw [f_X1_bringTexts_L3, b1, hN2]
    simp (disch := omega) only [zI_le, nm_cz, zI_cl, nm_l_eq]
    rw [if_neg (by omega), show ((k : Nat) : Int).toNat = k from rfl, t2, w_squareOf t1, w_xOf hp1, w_yOf hp1]
    simp (disch := omega) only [zI_lit, zI_div, zI_mul, zI_sub]
    rw [show ((t.2.1 : Nat) : Int) - ((t.2.1 : Nat) : Int) / 64 * 64 = ((t.2.1 % 64 : Nat) : Int) by omega, show ((t.2.1 : Nat) : Int) / 64 = ((t.2.1 / 64 : Nat) : Int) by omega, w_turnedX hp1, w_turnedY hp1, zI_add, zI_add, w_outside (by omega) (by omega) (by omega) (by omega), w_outside (by omega) (by omega) (by omega) (by omega)]
    by_cases c1 : 0 ≤ pX n mir ((t.2.1 % 64 : Nat) : Int) ((t.2.1 / 64 : Nat) : Int) + (((sq % 64 : Nat) : Int) + (i : Int) * fa) ∧ pX n mir ((t.2.1 % 64 : Nat) : Int) ((t.2.1 / 64 : Nat) : Int) + (((sq % 64 : Nat) : Int) + (i : Int) * fa) < 64
    · rw [if_pos c1, if_pos (by rfl)]
      by_cases c2 : 0 ≤ pY n mir ((t.2.1 % 64 : Nat) : Int) ((t.2.1 / 64 : Nat) : Int) + (((sq / 64 : Nat) : Int) + (j : Int) * fd) ∧ pY n mir ((t.2.1 % 64 : Nat) : Int) ((t.2.1 / 64 : Nat) : Int) + (((sq / 64 : Nat) : Int) + (j : Int) * fd) < 64
      · rw [if_pos c2, if_pos (by rfl), w_layerOf t1, w_nameOf t1, zI_mul, zI_add]
        have htn : tok (t.1, 64 * (pY n mir ((t.2.1 % 64 : Nat) : Int) ((t.2.1 / 64 : Nat) : Int) + (((sq / 64 : Nat) : Int) + (j : Int) * fd)).toNat + (pX n mir ((t.2.1 % 64 : Nat) : Int) ((t.2.1 / 64 : Nat) : Int) + (((sq % 64 : Nat) : Int) + (i : Int) * fa)).toNat, t.2.2) := ⟨t1.1, by show _ + _ < 4096; omega, t1.2.2⟩
        have hpk := w_pack htn
        simp only at hpk
        rw [show 64 * (pY n mir ((t.2.1 % 64 : Nat) : Int) ((t.2.1 / 64 : Nat) : Int) + (((sq / 64 : Nat) : Int) + (j : Int) * fd)) + (pX n mir ((t.2.1 % 64 : Nat) : Int) ((t.2.1 / 64 : Nat) : Int) + (((sq % 64 : Nat) : Int) + (i : Int) * fa)) = ((64 * (pY n mir ((t.2.1 % 64 : Nat) : Int) ((t.2.1 / 64 : Nat) : Int) + (((sq / 64 : Nat) : Int) + (j : Int) * fd)).toNat + (pX n mir ((t.2.1 % 64 : Nat) : Int) ((t.2.1 / 64 : Nat) : Int) + (((sq % 64 : Nat) : Int) + (i : Int) * fa)).toNat : Nat) : Int) by omega, hpk]
        refine wp_s1 _ (w_addText hN hI htn) ?_
        rintro M2 ⟨a1, a2⟩
        refine hstep M2 ?_ (xD_tr hX a2)
        unfold bt1
        rw [if_pos ⟨c1, c2⟩]
        exact a1
      · rw [if_neg c2, if_neg (by decide)]
        refine hstep M1 ?_ hX
        unfold bt1
        rw [if_neg (fun h => c2 h.2)]
        exact hI
    · rw [if_neg c1, if_neg (by decide)]
      refine hstep M1 ?_ hX
      unfold bt1
      rw [if_neg (fun h => c1 h.1)]
      exact hI
  · rintro f M1 ⟨k0, hI, hX⟩
    obtain ⟨b1, b2, b3⟩ := tM_x hT2 hX n1 n2 n3
    rw [f_X1_bringTexts_L3, b1]
    simp (disch := omega) only [zI_le, Int.le_refl, if_true]
    exact wp_r ⟨hI, hX⟩
