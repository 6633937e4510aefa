/-! a row's bits -/
def bx (w : Int64) (x : Nat) : Bool := w.toBitVec.getLsbD x
theorem bx_big {w : Int64} {x : Nat} (h : 64 ≤ x) : bx w x = false := BitVec.getLsbD_of_ge _ _ h
theorem bx_ext {a b : Int64} (h : ∀ x, x < 64 → bx a x = bx b x) : a = b := by
  apply Int64.toBitVec.inj
  apply BitVec.eq_of_getLsbD_eq
  intro i hi
  exact h i hi
theorem bx_and (a b : Int64) (x : Nat) : bx (a &&& b) x = (bx a x && bx b x) := by simp [bx]
theorem bx_or (a b : Int64) (x : Nat) : bx (a ||| b) x = (bx a x || bx b x) := by simp [bx]
theorem bx_xor (a b : Int64) (x : Nat) : bx (a ^^^ b) x = (bx a x ^^ bx b x) := by simp [bx]
theorem bx_0 (x : Nat) : bx 0 x = false := by simp [bx]
theorem bx_m1 {x : Nat} (h : x < 64) : bx (-1) x = true := by
  have h2 : ∀ x, x < 64 → bx (-1) x = true := by decide +kernel
  exact h2 x h
theorem bx_not (a : Int64) {x : Nat} (h : x < 64) : bx (a ^^^ (-1)) x = !bx a x := by
  rw [bx_xor, bx_m1 h]
  cases bx a x <;> rfl
theorem sh_l : ∀ n, n < 64 → ((zI (n : Nat)).toInt64 &&& 63).toBitVec.smod 64 = BitVec.ofNat 64 n := by decide +kernel
theorem sh_r : ∀ n, n < 64 → ((zI (n : Nat)).toInt64.toUInt64 &&& Int64.toUInt64 63).toBitVec % 64 = BitVec.ofNat 64 n := by decide +kernel
theorem bx_shl (w : Int64) {k x : Nat} (hk : k < 64) (hx : x < 64) : bx (nm_shl w (zI k)) x = (decide (k ≤ x) && bx w (x - k)) := by
  unfold nm_shl bx
  rw [Int64.toBitVec_shiftLeft, sh_l k hk, BitVec.shiftLeft_eq', BitVec.getLsbD_shiftLeft, BitVec.toNat_ofNat, Nat.mod_eq_of_lt (show k < 2 ^ 64 by omega)]
  by_cases h : k ≤ x
  · simp [hx, h, Nat.not_lt.mpr h]
  · simp [h, Nat.lt_of_not_le h]
theorem bx_shr (w : Int64) {k : Nat} (hk : k < 64) (x : Nat) : bx (nm_shr w (zI k)) x = bx w (x + k) := by
  unfold nm_shr bx
  have e : (w.toUInt64 >>> ((zI (k : Nat)).toInt64.toUInt64 &&& Int64.toUInt64 63)).toInt64.toBitVec = w.toBitVec >>> k := by
    show (w.toUInt64 >>> ((zI (k : Nat)).toInt64.toUInt64 &&& Int64.toUInt64 63)).toBitVec = w.toBitVec >>> k
    rw [UInt64.toBitVec_shiftRight, sh_r k hk]
    show w.toBitVec >>> (BitVec.ofNat 64 k) = _
    rw [BitVec.ushiftRight_eq', BitVec.toNat_ofNat, Nat.mod_eq_of_lt (show k < 2 ^ 64 by omega)]
  rw [e, BitVec.getLsbD_ushiftRight, Nat.add_comm]
theorem bx_cmp0 (w : Int64) : lg_cmp w 0 = 0 ↔ w = 0 := by
  unfold lg_cmp
  constructor
  · intro h
    split at h
    · exact absurd h (by decide)
    · split at h
      · assumption
      · exact absurd h (by decide)
  · intro h
    subst h
    decide
theorem bx_nz {w : Int64} (h : w ≠ 0) : ∃ k, k < 64 ∧ bx w k = true ∧ ∀ j, j < k → bx w j = false := by
  have h1 : ∃ k, k < 64 ∧ bx w k = true := by
    apply Classical.byContradiction
    intro hn
    apply h
    apply bx_ext
    intro x hx
    rw [bx_0]
    cases hb : bx w x with
    | false => rfl
    | true => exact absurd ⟨x, hx, hb⟩ hn
  obtain ⟨k, hk, hb⟩ := h1
  have h2 : ∀ m, ∀ k, k < m → k < 64 → bx w k = true → ∃ k, k < 64 ∧ bx w k = true ∧ ∀ j, j < k → bx w j = false := by
    intro m
    induction m with
    | zero => intro k h; omega
    | succ m ih =>
      intro k h1 h2 h3
      by_cases h4 : ∃ j, j < k ∧ bx w j = true
      · obtain ⟨j, hj, hb⟩ := h4
        exact ih j (by omega) (by omega) hb
      · refine ⟨k, h2, h3, fun j hj => ?_⟩
        cases hb : bx w j with
        | false => rfl
        | true => exact absurd ⟨j, hj, hb⟩ h4
  exact h2 64 k hk hk hb
theorem bx_tn (w : Int64) (x : Nat) : bx w x = w.toBitVec.toNat.testBit x := rfl
/-- one less: the least one goes, those below it come -/
theorem bx_dec {w : Int64} {k : Nat} (hk : k < 64) (h1 : bx w k = true) (h2 : ∀ j, j < k → bx w j = false) {x : Nat} (hx : x < 64) : bx (w - 1) x = if x < k then true else if x = k then false else bx w x := by
  have hn : w.toBitVec.toNat = 2 ^ k * (2 * (w.toBitVec.toNat / 2 ^ (k + 1)) + 1) := by
    apply Nat.eq_of_testBit_eq
    intro i
    rw [show 2 ^ k * (2 * (w.toBitVec.toNat / 2 ^ (k + 1)) + 1) = 2 ^ k * (2 * (w.toBitVec.toNat / 2 ^ (k + 1)) + 1) + 0 from rfl, Nat.testBit_two_pow_mul_add _ (Nat.two_pow_pos k)]
    by_cases hi : i < k
    · rw [if_pos hi]
      have := h2 i hi
      rw [bx_tn] at this
      simp [this]
    · rw [if_neg hi]
      by_cases hik : i = k
      · subst hik
        rw [bx_tn] at h1
        rw [h1, Nat.sub_self, Nat.testBit_zero]
        simp
      · obtain ⟨d, hd⟩ : ∃ d, i = k + 1 + d := ⟨i - k - 1, by omega⟩
        subst hd
        rw [show k + 1 + d - k = d + 1 by omega, Nat.testBit_succ, show (2 * (w.toBitVec.toNat / 2 ^ (k + 1)) + 1) / 2 = w.toBitVec.toNat / 2 ^ (k + 1) by omega, ← Nat.shiftRight_eq_div_pow, Nat.testBit_shiftRight]
  have hlt := w.toBitVec.isLt
  generalize hm : w.toBitVec.toNat / 2 ^ (k + 1) = m at hn
  have hpos := Nat.two_pow_pos k
  have hsub : (w - 1).toBitVec.toNat = 2 ^ k * (2 * m) + (2 ^ k - 1) := by
    rw [Int64.toBitVec_sub, BitVec.toNat_sub, hn, Nat.mul_add, Nat.mul_one]
    show (2 ^ 64 - 1 + (2 ^ k * (2 * m) + 2 ^ k)) % 2 ^ 64 = _
    rw [hn, Nat.mul_add, Nat.mul_one] at hlt
    rw [show 2 ^ 64 - 1 + (2 ^ k * (2 * m) + 2 ^ k) = (2 ^ k * (2 * m) + (2 ^ k - 1)) + 2 ^ 64 by omega, Nat.add_mod_right, Nat.mod_eq_of_lt (by omega)]
  rw [bx_tn, bx_tn, hsub, hn, Nat.testBit_two_pow_mul_add _ (by omega), show 2 ^ k * (2 * m + 1) = 2 ^ k * (2 * m + 1) + 0 from rfl, Nat.testBit_two_pow_mul_add _ (Nat.two_pow_pos k)]
  by_cases hxk : x < k
  · simp [hxk, Nat.testBit_two_pow_sub_one]
  · rw [if_neg hxk, if_neg hxk, if_neg hxk]
    by_cases hxe : x = k
    · subst hxe
      simp [Nat.testBit_zero]
    · rw [if_neg hxe]
      obtain ⟨d, hd⟩ : ∃ d, x - k = d + 1 := ⟨x - k - 1, by omega⟩
      rw [hd, Nat.testBit_succ, Nat.testBit_succ]
      congr 1
      omega
theorem bx_neg {w : Int64} {k : Nat} (hk : k < 64) (h1 : bx w k = true) (h2 : ∀ j, j < k → bx w j = false) {x : Nat} (hx : x < 64) : bx (-w) x = if x < k then false else if x = k then true else !bx w x := by
  have e : -w = (w - 1) ^^^ (-1) := by
    apply Int64.toBitVec.inj
    have e2 : (-1 : Int64).toBitVec = BitVec.allOnes 64 := by decide
    rw [Int64.toBitVec_neg, Int64.toBitVec_xor, e2, BitVec.xor_allOnes, Int64.toBitVec_sub]
    show -w.toBitVec = ~~~(w.toBitVec - 1#64)
    rw [← BitVec.not_neg, BitVec.not_not]
  rw [e, bx_not _ hx, bx_dec hk h1 h2 hx]
  by_cases hxk : x < k
  · simp [hxk]
  · by_cases hxe : x = k
    · simp [hxe]
    · simp [hxk, hxe]
/-! Long.bitCount -/
def pc (f : Nat → Bool) : Nat → Nat
  | 0 => 0
  | n + 1 => pc f n + (f n).toNat
theorem pc_le (f : Nat → Bool) (n : Nat) : pc f n ≤ n := by
  induction n with
  | zero => exact Nat.le_refl _
  | succ n ih =>
    have : (f n).toNat ≤ 1 := Bool.toNat_le _
    show pc f n + (f n).toNat ≤ n + 1
    omega
theorem pc_congr {f g : Nat → Bool} {n : Nat} (h : ∀ i, i < n → f i = g i) : pc f n = pc g n := by
  induction n with
  | zero => rfl
  | succ n ih =>
    show pc f n + (f n).toNat = pc g n + (g n).toNat
    rw [ih (fun i hi => h i (by omega)), h n (by omega)]
theorem pc_add (f : Nat → Bool) (a b : Nat) : pc f (a + b) = pc f a + pc (fun i => f (a + i)) b := by
  induction b with
  | zero => rfl
  | succ b ih =>
    show pc f (a + b) + (f (a + b)).toNat = pc f a + (pc (fun i => f (a + i)) b + (f (a + b)).toNat)
    omega
theorem pc_mono (f : Nat → Bool) {a b : Nat} (h : a ≤ b) : pc f a ≤ pc f b := by
  obtain ⟨d, rfl⟩ := Nat.le.dest h
  rw [pc_add]
  omega
theorem pc_false {f : Nat → Bool} {n : Nat} (h : ∀ i, i < n → f i = false) : pc f n = 0 := by
  induction n with
  | zero => rfl
  | succ n ih =>
    show pc f n + (f n).toNat = 0
    rw [ih (fun i hi => h i (by omega)), h n (by omega)]
    rfl
theorem pc_lt {f : Nat → Bool} {k n : Nat} (hk : k < n) (h : f k = true) : pc f k < pc f n := by
  have h2 := pc_mono f (show k + 1 ≤ n by omega)
  have h3 : pc f (k + 1) = pc f k + 1 := by
    show pc f k + (f k).toNat = _
    rw [h]
    rfl
  omega
def mk8 (d : Nat) : Nat → Nat
  | 0 => 0
  | k + 1 => 256 * mk8 d k + d
theorem land8 (a b c d : Nat) (hb : b < 256) (hd : d < 256) : (256 * a + b) &&& (256 * c + d) = 256 * (a &&& c) + (b &&& d) := by
  have hbd : (b &&& d) < 2 ^ 8 := Nat.and_lt_two_pow _ hd
  apply Nat.eq_of_testBit_eq
  intro i
  rw [Nat.testBit_and, show 256 = 2 ^ 8 from rfl, Nat.testBit_two_pow_mul_add _ hb, Nat.testBit_two_pow_mul_add _ hd, Nat.testBit_two_pow_mul_add _ hbd]
  by_cases h : i < 8
  · simp [h]
  · simp [h]
def st1 (k n : Nat) : Nat := n - ((n / 2) &&& mk8 85 k)
def st2 (k v : Nat) : Nat := (v &&& mk8 51 k) + ((v / 4) &&& mk8 51 k)
def st3 (k v : Nat) : Nat := (v + v / 16) &&& mk8 15 k
def sb1 (b : Nat) : Nat := b - ((b / 2) &&& 85)
def sb2 (b : Nat) : Nat := (b &&& 51) + ((b / 4) &&& 51)
def sb3 (b : Nat) : Nat := (b + b / 16) &&& 15
theorem st1_s (k n : Nat) : st1 (k + 1) n = 256 * st1 k (n / 256) + sb1 (n % 256) := by
  have e1 : n / 2 = 256 * (n / 256 / 2) + (128 * (n / 256 % 2) + n % 256 / 2) := by omega
  have e2 : ∀ e, e < 2 → ∀ c, c < 128 → (128 * e + c) &&& 85 = c &&& 85 := by decide +kernel
  unfold st1 sb1
  show n - ((n / 2) &&& (256 * mk8 85 k + 85)) = _
  rw [e1, land8 _ _ _ _ (by omega) (by omega), e2 _ (by omega) _ (by omega)]
  have h1 : (n / 256 / 2 &&& mk8 85 k) ≤ n / 256 / 2 := Nat.and_le_left
  have h2 : (n % 256 / 2 &&& 85) ≤ n % 256 / 2 := Nat.and_le_left
  omega
theorem st2_s (k a b : Nat) (hb : b < 256) : st2 (k + 1) (256 * a + b) = 256 * st2 k a + sb2 b := by
  have e1 : (256 * a + b) / 4 = 256 * (a / 4) + (64 * (a % 4) + b / 4) := by omega
  have e2 : ∀ e, e < 4 → ∀ c, c < 64 → (64 * e + c) &&& 51 = c &&& 51 := by decide +kernel
  unfold st2 sb2
  show ((256 * a + b) &&& (256 * mk8 51 k + 51)) + (((256 * a + b) / 4) &&& (256 * mk8 51 k + 51)) = _
  rw [e1, land8 _ _ _ _ hb (by omega), land8 _ _ _ _ (by omega) (by omega), e2 _ (by omega) _ (by omega)]
  omega
theorem st3_s (k a b : Nat) (hb : b ≤ 72) (ha : a % 16 ≤ 4) : st3 (k + 1) (256 * a + b) = 256 * st3 k a + sb3 b := by
  have e1 : (256 * a + b) + (256 * a + b) / 16 = 256 * (a + a / 16) + (16 * (a % 16) + (b + b / 16)) := by omega
  have e2 : ∀ e, e < 5 → ∀ c, c < 80 → (16 * e + c) &&& 15 = c &&& 15 := by decide +kernel
  unfold st3 sb3
  show ((256 * a + b) + (256 * a + b) / 16) &&& (256 * mk8 15 k + 15) = _
  rw [e1, land8 _ _ _ _ (by omega) (by omega), e2 _ (by omega) _ (by omega)]
def sg (b : Nat) : Nat := sb3 (sb2 (sb1 b))
def G8 (k n : Nat) : Nat := st3 k (st2 k (st1 k n))
theorem sb_facts : ∀ b, b < 256 → sb1 b < 256 ∧ sb2 (sb1 b) ≤ 68 ∧ sb2 (sb1 b) % 16 ≤ 4 ∧ sg b ≤ 8 ∧ sg b = pc (fun i => b.testBit i) 8 := by decide +kernel
theorem st12_low (k n : Nat) : st2 k (st1 k n) % 16 ≤ 4 := by
  cases k with
  | zero => simp [st2, st1, mk8]
  | succ k =>
    have hb := sb_facts (n % 256) (by omega)
    rw [st1_s, st2_s _ _ _ hb.1]
    omega
theorem G8_s (k n : Nat) : G8 (k + 1) n = sg (n % 256) + 256 * G8 k (n / 256) := by
  have hb := sb_facts (n % 256) (by omega)
  unfold G8
  rw [st1_s, st2_s _ _ _ hb.1, st3_s _ _ _ (by omega) (st12_low k (n / 256)), Nat.add_comm]
  rfl
theorem G8_0 (n : Nat) : G8 0 n = 0 := by simp [G8, st3, mk8]
theorem pc_tb8 (n m : Nat) : pc (fun i => n.testBit i) (8 + m) = sg (n % 256) + pc (fun i => (n / 256).testBit i) m := by
  have hb := sb_facts (n % 256) (by omega)
  rw [pc_add, hb.2.2.2.2]
  congr 1
  · apply pc_congr
    intro i hi
    rw [show 256 = 2 ^ 8 from rfl, Nat.testBit_mod_two_pow]
    simp [hi]
  · apply pc_congr
    intro i _
    rw [show 256 = 2 ^ 8 from rfl, ← Nat.shiftRight_eq_div_pow, Nat.testBit_shiftRight]
def tn (w : Int64) : Nat := w.toBitVec.toNat
theorem tn_lt (w : Int64) : tn w < 18446744073709551616 := w.toBitVec.isLt
theorem tn_lN (w : Int64) : lN (tn w) = w := by
  apply Int64.toBitVec.inj
  show BitVec.ofNat 64 w.toBitVec.toNat = w.toBitVec
  simp
theorem tn_shr (w : Int64) {k : Nat} (hk : k < 64) : tn (nm_shr w (zI k)) = tn w / 2 ^ k := by
  apply Nat.eq_of_testBit_eq
  intro i
  rw [← Nat.shiftRight_eq_div_pow, Nat.testBit_shiftRight]
  have := bx_shr w hk i
  rw [Nat.add_comm]
  exact this
theorem tn_and (a b : Int64) : tn (a &&& b) = tn a &&& tn b := by simp [tn]
theorem tn_add (a b : Int64) : tn (a + b) = (tn a + tn b) % 18446744073709551616 := by
  show (a + b).toBitVec.toNat = _
  rw [Int64.toBitVec_add, BitVec.toNat_add]
  rfl
theorem tn_sub {a b : Int64} (h : tn b ≤ tn a) : tn (a - b) = tn a - tn b := by
  show (a - b).toBitVec.toNat = _
  rw [Int64.toBitVec_sub, BitVec.toNat_sub]
  have h1 : a.toBitVec.toNat < 2 ^ 64 := a.toBitVec.isLt
  have h2 : b.toBitVec.toNat < 2 ^ 64 := b.toBitVec.isLt
  have h3 : b.toBitVec.toNat ≤ a.toBitVec.toNat := h
  show (2 ^ 64 - b.toBitVec.toNat + a.toBitVec.toNat) % 2 ^ 64 = a.toBitVec.toNat - b.toBitVec.toNat
  rw [show 2 ^ 64 - b.toBitVec.toNat + a.toBitVec.toNat = (a.toBitVec.toNat - b.toBitVec.toNat) + 2 ^ 64 by omega, Nat.add_mod_right, Nat.mod_eq_of_lt (by omega)]
def Pn (f : Nat → Nat) : Nat → Nat
  | 0 => 0
  | k + 1 => f 0 + 256 * Pn (fun i => f (i + 1)) k
theorem Pn_add (f g : Nat → Nat) (k : Nat) : Pn f k + Pn g k = Pn (fun i => f i + g i) k := by
  induction k generalizing f g with
  | zero => rfl
  | succ k ih =>
    have := ih (fun i => f (i + 1)) (fun i => g (i + 1))
    show f 0 + 256 * _ + (g 0 + 256 * _) = f 0 + g 0 + 256 * Pn (fun i => f (i + 1) + g (i + 1)) k
    omega
theorem Pn_pad (f : Nat → Nat) (k : Nat) (h : f k = 0) : Pn f (k + 1) = Pn f k := by
  induction k generalizing f with
  | zero =>
    show f 0 + 256 * 0 = 0
    omega
  | succ k ih =>
    show f 0 + 256 * Pn (fun i => f (i + 1)) (k + 1) = f 0 + 256 * Pn (fun i => f (i + 1)) k
    rw [ih (fun i => f (i + 1)) h]
theorem Pn_div1 (f : Nat → Nat) (k : Nat) (h : f 0 < 256) (hz : f (k + 1) = 0) : Pn f (k + 1) / 256 = Pn (fun i => f (i + 1)) (k + 1) := by
  rw [Pn_pad (fun i => f (i + 1)) k hz]
  show (f 0 + 256 * Pn (fun i => f (i + 1)) k) / 256 = _
  omega
theorem and127 (v : Int64) : v.toInt32 &&& zI 127 = zI ((tn v % 128 : Nat) : Int) := by
  have e8 : v.toInt32 = nI (tn v) := by
    have h := lN_i (tn v)
    rw [tn_lN] at h
    exact h
  rw [e8, ← zI_nI]
  apply Int32.toBitVec.inj
  have h127 : (zI 127).toBitVec = 127#32 := by decide
  rw [Int32.toBitVec_and, h127]
  show BitVec.ofNat 32 (tn v) &&& 127#32 = BitVec.ofNat 32 (tn v % 128)
  apply BitVec.eq_of_toNat_eq
  rw [BitVec.toNat_and, BitVec.toNat_ofNat, BitVec.toNat_ofNat, BitVec.toNat_ofNat, show 127 % 2 ^ 32 = 2 ^ 7 - 1 from rfl, Nat.and_two_pow_sub_one_eq_mod]
  omega
set_option maxRecDepth 10000 in
theorem bc_eq (w : Int64) : f_J13_bitCount_95d88 w = zI (pc (bx w) 64) := by
  have hpc : pc (bx w) 64 = pc (fun i => (tn w).testBit i) (8 + (8 + (8 + (8 + (8 + (8 + (8 + (8 + 0)))))))) := rfl
  rw [hpc]
  simp only [pc_tb8]
  unfold f_J13_bitCount_95d88
  simp only [nm_l_eq, zI_lit]
  generalize e1 : w - (nm_shr w (zI 1) &&& 6148914691236517205) = v1
  generalize e2 : (v1 &&& 3689348814741910323) + (nm_shr v1 (zI 2) &&& 3689348814741910323) = v2
  generalize e3 : (v2 + nm_shr v2 (zI 4)) &&& 1085102592571150095 = v3
  generalize e4 : v3 + nm_shr v3 (zI 8) = v4
  generalize e5 : v4 + nm_shr v4 (zI 16) = v5
  generalize e6 : v5 + nm_shr v5 (zI 32) = v6
  have hw := tn_lt w
  have g1 : tn (nm_shr w (zI 1)) = tn w / 2 := tn_shr w (k := 1) (by omega)
  have g2 : tn (nm_shr v1 (zI 2)) = tn v1 / 4 := tn_shr v1 (k := 2) (by omega)
  have g3 : tn (nm_shr v2 (zI 4)) = tn v2 / 16 := tn_shr v2 (k := 4) (by omega)
  have g4 : tn (nm_shr v3 (zI 8)) = tn v3 / 256 := tn_shr v3 (k := 8) (by omega)
  have g5 : tn (nm_shr v4 (zI 16)) = tn v4 / 65536 := tn_shr v4 (k := 16) (by omega)
  have g6 : tn (nm_shr v5 (zI 32)) = tn v5 / 4294967296 := tn_shr v5 (k := 32) (by omega)
  have m1 : tn (6148914691236517205 : Int64) = mk8 85 8 := by decide +kernel
  have m2 : tn (3689348814741910323 : Int64) = mk8 51 8 := by decide +kernel
  have m3 : tn (1085102592571150095 : Int64) = mk8 15 8 := by decide +kernel
  have t1 : tn v1 = st1 8 (tn w) := by
    rw [← e1, tn_sub, tn_and, g1, m1]
    · rfl
    · rw [tn_and, g1, m1]
      have h1 : (tn w / 2 &&& mk8 85 8) ≤ tn w / 2 := Nat.and_le_left
      omega
  have k2 : mk8 51 8 = 3689348814741910323 := by decide +kernel
  have t2 : tn v2 = st2 8 (tn v1) := by
    rw [← e2, tn_add, tn_and, tn_and, g2, m2]
    have h1 : (tn v1 &&& mk8 51 8) ≤ mk8 51 8 := Nat.and_le_right
    have h2 : (tn v1 / 4 &&& mk8 51 8) ≤ mk8 51 8 := Nat.and_le_right
    rw [Nat.mod_eq_of_lt (by omega)]
    rfl
  have t2b : tn v2 ≤ 7378697629483820646 := by
    rw [t2]
    have h1 : (tn v1 &&& mk8 51 8) ≤ mk8 51 8 := Nat.and_le_right
    have h2 : (tn v1 / 4 &&& mk8 51 8) ≤ mk8 51 8 := Nat.and_le_right
    unfold st2
    omega
  have t3 : tn v3 = G8 8 (tn w) := by
    rw [← e3, tn_and, tn_add, g3, m3, Nat.mod_eq_of_lt (by omega)]
    unfold G8 st3
    rw [← t1, ← t2]
  simp only [G8_s, G8_0] at t3
  have bb : ∀ b, sg (b % 256) ≤ 8 := fun b => (sb_facts (b % 256) (by omega)).2.2.2.1
  have b0 := bb (tn w)
  have b1 := bb (tn w / 256)
  have b2 := bb (tn w / 256 / 256)
  have b3 := bb (tn w / 256 / 256 / 256)
  have b4 := bb (tn w / 256 / 256 / 256 / 256)
  have b5 := bb (tn w / 256 / 256 / 256 / 256 / 256)
  have b6 := bb (tn w / 256 / 256 / 256 / 256 / 256 / 256)
  have b7 := bb (tn w / 256 / 256 / 256 / 256 / 256 / 256 / 256)
  generalize sg (tn w % 256) = c0 at *
  generalize sg (tn w / 256 % 256) = c1 at *
  generalize sg (tn w / 256 / 256 % 256) = c2 at *
  generalize sg (tn w / 256 / 256 / 256 % 256) = c3 at *
  generalize sg (tn w / 256 / 256 / 256 / 256 % 256) = c4 at *
  generalize sg (tn w / 256 / 256 / 256 / 256 / 256 % 256) = c5 at *
  generalize sg (tn w / 256 / 256 / 256 / 256 / 256 / 256 % 256) = c6 at *
  generalize sg (tn w / 256 / 256 / 256 / 256 / 256 / 256 / 256 % 256) = c7 at *
  obtain ⟨cf, hcf⟩ : ∃ f : Nat → Nat, f = fun i => [c0, c1, c2, c3, c4, c5, c6, c7].getD i 0 := ⟨_, rfl⟩
  have t4 : tn v4 = tn v3 + tn v3 / 256 := by
    rw [← e4, tn_add, g4, Nat.mod_eq_of_lt (by omega)]
  have t5 : tn v5 = tn v4 + tn v4 / 65536 := by
    rw [← e5, tn_add, g5, Nat.mod_eq_of_lt (by omega)]
  have t6 : tn v6 = tn v5 + tn v5 / 4294967296 := by
    rw [← e6, tn_add, g6, Nat.mod_eq_of_lt (by omega)]
  have k0 : tn v3 = Pn cf 8 := by
    rw [t3, hcf]
    rfl
  have z1 : ∀ i, cf i ≤ 8 := by
    intro i
    rw [hcf]
    match i with
    | 0 => exact b0
    | 1 => exact b1
    | 2 => exact b2
    | 3 => exact b3
    | 4 => exact b4
    | 5 => exact b5
    | 6 => exact b6
    | 7 => exact b7
    | i + 8 => exact Nat.zero_le _
  have z2 : ∀ i, cf (i + 8) = 0 := fun i => by rw [hcf]; rfl
  clear t3 b0 b1 b2 b3 b4 b5 b6 b7 t1 t2 t2b m1 m2 m3 k2 hpc g1 g2 g3
  have k4 : tn v4 = Pn (fun i => cf i + cf (i + 1)) 8 := by
    rw [t4, k0, Pn_div1 cf 7 (by have := z1 0; omega) (z2 0), Pn_add]
  have k5 : tn v5 = Pn (fun i => cf i + cf (i + 1) + (cf (i + 2) + cf (i + 3))) 8 := by
    rw [t5, k4, show 65536 = 256 * 256 from rfl, ← Nat.div_div_eq_div_mul, Pn_div1 (fun i => cf i + cf (i + 1)) 7 (by have h0 := z1 0; have h1 := z1 1; show cf 0 + cf 1 < 256; omega) (by show cf 8 + cf 9 = 0; rw [z2 0, z2 1]), Pn_div1 (fun i => cf (i + 1) + cf (i + 1 + 1)) 7 (by have := z1 1; have := z1 2; show cf 1 + cf 2 < 256; omega) (by show cf 9 + cf 10 = 0; rw [z2 1, z2 2]), Pn_add]
  have k6 : tn v6 = Pn (fun i => cf i + cf (i + 1) + (cf (i + 2) + cf (i + 3)) + (cf (i + 4) + cf (i + 5) + (cf (i + 6) + cf (i + 7)))) 8 := by
    have y : ∀ i, cf i + cf (i + 1) + (cf (i + 2) + cf (i + 3)) < 256 := fun i => by
      have h1 := z1 i
      have h2 := z1 (i + 1)
      have h3 := z1 (i + 2)
      have h4 := z1 (i + 3)
      omega
    rw [t6, k5, show 4294967296 = 256 * 256 * 256 * 256 from rfl, ← Nat.div_div_eq_div_mul, ← Nat.div_div_eq_div_mul, ← Nat.div_div_eq_div_mul, Pn_div1 _ 7 (y 0) (by show cf 8 + cf 9 + (cf 10 + cf 11) = 0; rw [z2 0, z2 1, z2 2, z2 3]), Pn_div1 _ 7 (y 1) (by show cf 9 + cf 10 + (cf 11 + cf 12) = 0; rw [z2 1, z2 2, z2 3, z2 4]), Pn_div1 _ 7 (y 2) (by show cf 10 + cf 11 + (cf 12 + cf 13) = 0; rw [z2 2, z2 3, z2 4, z2 5]), Pn_div1 _ 7 (y 3) (by show cf 11 + cf 12 + (cf 13 + cf 14) = 0; rw [z2 3, z2 4, z2 5, z2 6]), Pn_add]
  have e7 : tn v6 % 128 = c0 + (c1 + (c2 + (c3 + (c4 + (c5 + (c6 + c7)))))) := by
    rw [k6]
    have h9 : ∀ f : Nat → Nat, f 0 < 128 → Pn f 8 % 128 = f 0 := fun f hf => by
      show (f 0 + 256 * _) % 128 = f 0
      omega
    rw [h9 _ (by have h0 := z1 0; have h1 := z1 1; have h2 := z1 2; have h3 := z1 3; have h4 := z1 4; have h5 := z1 5; have h6 := z1 6; have h7 := z1 7; show cf 0 + cf 1 + (cf 2 + cf 3) + (cf 4 + cf 5 + (cf 6 + cf 7)) < 128; omega)]
    rw [hcf]
    show c0 + c1 + (c2 + c3) + (c4 + c5 + (c6 + c7)) = _
    omega
  have e9 := and127 v6
  rw [e9, e7]
  rfl
/-! lowest, heads, stretches, spans -/
theorem bx_low {w : Int64} {k : Nat} (hk : k < 64) (h1 : bx w k = true) (h2 : ∀ j, j < k → bx w j = false) : f_X0_lowest w = zI k := by
  have a1 : ∀ x, x < 64 → bx (w &&& -w) x = decide (x = k) := by
    intro x hx
    rw [bx_and, bx_neg hk h1 h2 hx]
    by_cases hxk : x < k
    · rw [if_pos hxk]
      have : x ≠ k := by omega
      simp [this]
    · rw [if_neg hxk]
      by_cases hxe : x = k
      · subst hxe
        simp [h1]
      · rw [if_neg hxe]
        simp [hxe]
  have a2 : ∀ x, x < 64 → bx ((w &&& -w) - 1) x = decide (x < k) := by
    intro x hx
    rw [bx_dec hk (by rw [a1 k hk]; simp) (fun j hj => by rw [a1 j (by omega)]; simp; omega) hx]
    by_cases hxk : x < k
    · simp [hxk]
    · rw [if_neg hxk]
      by_cases hxe : x = k
      · simp [hxe]
      · rw [if_neg hxe, a1 x hx]
        simp [hxe, hxk]
  unfold f_X0_lowest
  rw [bc_eq]
  congr 2
  rw [pc_congr a2]
  obtain ⟨d, hd⟩ := Nat.le.dest (show k ≤ 64 by omega)
  rw [← hd, pc_add]
  have b1 : pc (fun i => decide (k + i < k)) d = 0 := pc_false (fun i _ => by simp)
  have b2 : ∀ n, n ≤ k → pc (fun i => decide (i < k)) n = n := by
    intro n
    induction n with
    | zero => intro _; rfl
    | succ n ih =>
      intro hn
      show pc _ n + (decide (n < k)).toNat = n + 1
      rw [ih (by omega)]
      simp [show n < k by omega]
  rw [b1, b2 k (Nat.le_refl _)]
  rfl
theorem bx_low0 : f_X0_lowest 0 = zI 64 := by decide +kernel
theorem bx_heads (w : Int64) {x : Nat} (hx : x < 64) : bx (f_X0_heads w) x = (bx w x && !(decide (1 ≤ x) && bx w (x - 1))) := by
  unfold f_X0_heads
  rw [bx_and, bx_not _ hx]
  have := bx_shl w (k := 1) (by omega) hx
  rw [zI_lit]
  simp only [Int.natCast_one] at this
  rw [this]
theorem bx_span {f m x : Nat} (hf : f < 64) (hm : f + m ≤ 64) (hx : x < 64) : bx (f_X0_span (zI f) (zI m)) x = (decide (f ≤ x) && decide (x < f + m)) := by
  unfold f_X0_span
  simp (disch := omega) only [zI_lit, zI_lt]
  by_cases h : (m : Int) < 64
  · rw [if_pos h, bx_shl _ hf hx]
    have e1 : ∀ m, m < 64 → ∀ y, y < 64 → bx (nm_shl 1 (zI (m : Nat)) - 1) y = decide (y < m) := by
      intro m hm y hy
      have a1 : ∀ y, y < 64 → bx (nm_shl 1 (zI (m : Nat))) y = decide (y = m) := by
        intro y hy
        rw [bx_shl _ hm hy]
        have b1 : ∀ y, y < 64 → bx 1 y = decide (y = 0) := by decide +kernel
        by_cases hmy : m ≤ y
        · rw [b1 _ (by omega)]
          by_cases hym : y = m
          · simp [hym]
          · have : ¬ y - m = 0 := by omega
            simp [hym, this]
        · have : ¬ y = m := by omega
          simp [hmy, this]
      rw [bx_dec hm (by rw [a1 m hm]; simp) (fun j hj => by rw [a1 j (by omega)]; simp; omega) hy, a1 y hy]
      by_cases h1 : y < m
      · simp [h1]
      · by_cases h2 : y = m
        · simp [h2]
        · simp [h1, h2]
    by_cases h2 : f ≤ x
    · rw [show (nm_shl 1 (zI (m : Int)) - 1 : Int64) = nm_shl 1 (zI (m : Nat)) - 1 from rfl, e1 m (by omega) (x - f) (by omega)]
      have : (x - f < m) = (x < f + m) := by
        apply propext
        omega
      simp [h2, this]
    · simp [h2]
  · rw [if_neg h, bx_m1 hx]
    have h1 : f ≤ x := by omega
    have h2 : x < f + m := by omega
    simp [h1, h2]
/-- the run of ones from x on is s long -/
def rn (r : Nat → Bool) (x s : Nat) : Prop := x + s ≤ 64 ∧ (∀ j, x ≤ j → j < x + s → r j = true) ∧ (x + s < 64 → r (x + s) = false)
theorem bx_stretch {w : Int64} {x : Nat} (hx : x < 64) : ∃ s, rn (bx w) x s ∧ f_X0_stretch w (zI x) = zI s := by
  unfold f_X0_stretch
  by_cases h0 : (nm_shr w (zI (x : Nat)) ^^^ -1) = 0
  · have h1 : ∀ j, j < 64 → bx w (j + x) = true := by
      intro j hj
      have := congrArg (fun v => bx v j) h0
      simp only [bx_not _ hj, bx_shr w hx, bx_0] at this
      simpa using this
    have hx0 : x = 0 := by
      apply Classical.byContradiction
      intro hne
      have := h1 (64 - x) (by omega)
      rw [bx_big (by omega)] at this
      exact absurd this (by decide)
    subst hx0
    refine ⟨64, ⟨by omega, fun j _ hj => h1 j (by omega), fun h => by omega⟩, ?_⟩
    rw [h0]
    exact bx_low0
  · obtain ⟨k, hk, hb, hl⟩ := bx_nz h0
    have hxk : x + k ≤ 64 := by
      apply Classical.byContradiction
      intro hne
      have := hl (64 - x) (by omega)
      rw [bx_not _ (by omega), bx_shr w hx, bx_big (by omega)] at this
      exact absurd this (by decide)
    refine ⟨k, ⟨hxk, fun j h1 h2 => ?_, fun h => ?_⟩, bx_low hk hb hl⟩
    · have := hl (j - x) (by omega)
      rw [bx_not _ (by omega), bx_shr w hx, show j - x + x = j by omega] at this
      simpa using this
    · rw [bx_not _ hk, bx_shr w hx] at hb
      rw [Nat.add_comm]
      simpa using hb
/-- all that are set, one behind the other, the least first -/
theorem lpb {σ β : Type} (L : Nat → Int64 → Int32 → σ → Option β) (P : β → Prop) (h : Int64) (Inv : Nat → σ → Prop)
    (skip : ∀ p S, p < 64 → bx h p = false → Inv p S → Inv (p + 1) S)
    (body : ∀ n w i S p, p < 64 → bx h p = true → Inv p S → f_X0_lowest w = zI p → i = zI (pc (bx h) p) → pc (bx h) p < pc (bx h) 64 → (∀ S', Inv (p + 1) S' → wp (L n (w &&& (w - 1)) (i + 1) S') P) → wp (L (n + 1) w i S) P)
    (fin : ∀ n w i S, i = zI (pc (bx h) 64) → Inv 64 S → wp (L (n + 1) w i S) P) :
    ∀ (n p : Nat) S w, p ≤ 64 → (∀ x, x < 64 → bx w x = (decide (p ≤ x) && bx h x)) → 64 - p < n → Inv p S → wp (L n w (zI (pc (bx h) p)) S) P := by
  intro n
  induction n with
  | zero =>
    intro p S w h1 h2 h3 _
    omega
  | succ n ih =>
    intro p S w hp hw hn hI
    have hskip : ∀ d, p + d ≤ 64 → (∀ x, p ≤ x → x < p + d → bx h x = false) → Inv (p + d) S ∧ pc (bx h) (p + d) = pc (bx h) p := by
      intro d
      induction d with
      | zero => intro _ _; exact ⟨hI, rfl⟩
      | succ d ihd =>
        intro h1 h2
        obtain ⟨a, b⟩ := ihd (by omega) (fun x h3 h4 => h2 x h3 (by omega))
        refine ⟨skip (p + d) S (by omega) (h2 (p + d) (by omega) (by omega)) a, ?_⟩
        show pc (bx h) (p + d) + (bx h (p + d)).toNat = _
        rw [h2 (p + d) (by omega) (by omega), b]
        rfl
    by_cases hz : w = 0
    · have hf : ∀ x, p ≤ x → x < 64 → bx h x = false := by
        intro x h1 h2
        have := hw x h2
        rw [hz, bx_0] at this
        simpa [h1] using this.symm
      obtain ⟨a, b⟩ := hskip (64 - p) (by omega) (fun x h1 h2 => hf x h1 (by omega))
      rw [show p + (64 - p) = 64 by omega] at a b
      rw [← b]
      exact fin n w _ S rfl a
    · obtain ⟨q, hq, hb, hl⟩ := bx_nz hz
      have hbq := hw q hq
      rw [hb] at hbq
      have hpq : p ≤ q := by
        apply Classical.byContradiction
        intro hne
        simp [hne] at hbq
      have hhq : bx h q = true := by simpa [hpq] using hbq.symm
      obtain ⟨a, b⟩ := hskip (q - p) (by omega) (fun x h1 h2 => by
        have h3 := hl x (by omega)
        rw [hw x (by omega)] at h3
        simpa [h1] using h3)
      rw [show p + (q - p) = q by omega] at a b
      rw [← b]
      refine body n w _ S q hq hhq a (bx_low hq hb hl) rfl (pc_lt hq hhq) (fun S' hI' => ?_)
      have e1 : zI ((pc (bx h) q : Nat) : Int) + 1 = zI ((pc (bx h) (q + 1) : Nat) : Int) := by
        rw [zI_lit, zI_add]
        congr 1
        show _ = ((pc (bx h) q + (bx h q).toNat : Nat) : Int)
        rw [hhq]
        rfl
      rw [e1]
      refine ih (q + 1) S' _ (by omega) (fun x hx => ?_) (by omega) hI'
      rw [bx_and, bx_dec hq hb hl hx, hw x hx]
      by_cases h1 : x < q
      · rw [if_pos h1]
        have h2 : ¬ q + 1 ≤ x := by omega
        have h3 := hl x h1
        rw [hw x hx] at h3
        simp [h2]
        simpa using h3
      · rw [if_neg h1]
        by_cases h2 : x = q
        · subst h2
          have h9 : ¬ x + 1 ≤ x := by omega
          simp [h9]
        · rw [if_neg h2]
          have h3 : p ≤ x := by omega
          have h4 : q + 1 ≤ x := by omega
          simp [h3, h4]
