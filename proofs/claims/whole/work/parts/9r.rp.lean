/-! THE WISH, by the program: binding nets -/
theorem bi_and (a b : Int32) (i : Nat) : bi (a &&& b) i = (bi a i && bi b i) := by simp [bi]
theorem bi_not (a : Int32) {i : Nat} (hi : i < 32) : bi (a ^^^ (-1)) i = !bi a i := by
  have h1 : ∀ i, i < 32 → bi (-1) i = true := by decide +kernel
  have h2 : bi (a ^^^ (-1)) i = (bi a i ^^ bi (-1) i) := by
    unfold bi
    rw [Int32.toBitVec_xor, BitVec.getLsbD_xor]
  rw [h2, h1 i hi]
  cases bi a i <;> rfl
def pfX (M : cm) (pf : Nat → Int) : Prop := ∀ i, i < 24 → M.1 404 i = zI (pf i)
def prg (pf : Nat → Int) : Prop := ∀ i, i < 24 → -1 ≤ pf i ∧ pf i < 65536
def MBq (m : Int32) (pf0 pf : Nat → Int) : Prop := (∀ i, 24 ≤ i → i < 32 → bi m i = false) ∧ ∀ i, i < 24 → (bi m i = true → pf0 i = -1) ∧ (bi m i = false → pf i = pf0 i)
abbrev p4F (M M' : cm) : Prop := M'.2 = M.2 ∧ ∀ m k, m ≠ 404 → M'.1 m k = M.1 m k
theorem p4F_tr {M M1 M2 : cm} (h1 : p4F M M1) (h2 : p4F M1 M2) : p4F M M2 := ⟨h2.1.trans h1.1, fun m k a => (h2.2 m k a).trans (h1.2 m k a)⟩
theorem MBq_ne {m : Int32} {pf0 pf : Nat → Int} (h : MBq m pf0 pf) : m ≠ -1 := by
  intro e
  have := h.1 31 (by omega) (by omega)
  rw [e] at this
  exact absurd this (by decide)
theorem b1q_t {w : Nat} {z : Int} {pf : Nat → Int} : b1q w z pf = true ↔ pf w = z ∨ (pf w = -1 ∧ ∀ i, i < 24 → pf i ≠ z) := bP_t
theorem b1q_f {w : Nat} {z : Int} {pf : Nat → Int} : b1q w z pf = false ↔ ¬ (pf w = z ∨ (pf w = -1 ∧ ∀ i, i < 24 → pf i ≠ z)) := bP_f
theorem b2q_id {w : Nat} {z : Int} {pf : Nat → Int} (h : pf w = z) : b2q w z pf = pf := by
  funext j
  unfold b2q
  by_cases hj : b1q w z pf = true ∧ j = w
  · rw [if_pos hj, hj.2, h]
  · rw [if_neg hj]
theorem b2q_no {w : Nat} {z : Int} {pf : Nat → Int} (h : b1q w z pf = false) : b2q w z pf = pf := by
  funext j
  unfold b2q
  rw [if_neg (fun h2 => by rw [h] at h2; exact absurd h2.1 (by decide))]
theorem prg_b2 {w : Nat} {z : Int} {pf : Nat → Int} (h : prg pf) (h0 : 0 ≤ z) (h1 : z < 65536) : prg (b2q w z pf) := fun i hi => by
  unfold b2q
  by_cases hj : b1q w z pf = true ∧ i = w
  · rw [if_pos hj]
    omega
  · rw [if_neg hj]
    exact h i hi
theorem w_wishedOf {M : cm} {pf : Nat → Int} (hP : pfX M pf) (hr : prg pf) {z : Int} (h0 : 0 ≤ z) (h1 : z < 65536) : ∃ v : Int, f_X10_wishedOf (zI z) M = some (zI v) ∧ ((v = -1 ∧ ∀ i, i < 24 → pf i ≠ z) ∨ ∃ w : Nat, v = w ∧ w < 24 ∧ pf w = z) := by
  have key : ∀ (f k : Nat), k ≤ 24 → 24 - k < f → (∀ i, i < k → pf i ≠ z) → ∃ v : Int, f_X10_wishedOf_L2 (zI z) M (fun (_ : Unit) => some (-1 : Int32)) f (zI (k : Nat)) = some (zI v) ∧ ((v = -1 ∧ ∀ i, i < 24 → pf i ≠ z) ∨ ∃ w : Nat, v = w ∧ w < 24 ∧ pf w = z) := by
    intro f
    induction f with
    | zero => intro k h1 h2; omega
    | succ f ih =>
      intro k hk hf hI
      rw [f_X10_wishedOf_L2, show (24 : Int32) = zI 24 from rfl]
      simp (disch := omega) only [zI_le]
      by_cases h : (24 : Int) ≤ ((k : Nat) : Int)
      · rw [if_pos h]
        exact ⟨-1, rfl, Or.inl ⟨rfl, fun i hi => hI i (by omega)⟩⟩
      · have hr9 := hr k (by omega)
        rw [if_neg h, nm_cz (by omega) (by omega) (by omega), zI_cl (by omega) (by omega), Int.toNat_natCast, hP k (by omega), zI_inc]
        simp (disch := omega) only [zI_eq]
        by_cases h2 : pf k = z
        · rw [if_pos h2]
          exact ⟨k, rfl, Or.inr ⟨k, rfl, by omega, h2⟩⟩
        · rw [if_neg h2]
          refine ih (k + 1) (by omega) (by omega) (fun i hi => ?_)
          by_cases hik : i = k
          · rw [hik]
            exact h2
          · exact hI i (by omega)
  unfold f_X10_wishedOf
  rw [nm_l_eq, zI_0]
  exact key nm_F 0 (by omega) (by rw [nm_F_eq]; omega) (fun i hi => absurd hi (Nat.not_lt_zero _))
theorem w_part {M : cm} (m : Int32) : wp (f_X10_part m M) (fun M' => (∀ i, i < 24 → M'.1 404 i = if bi m i = true then -1 else M.1 404 i) ∧ p4F M M') := by
  have key : ∀ (f k : Nat) (S : cm), k ≤ 24 → 24 - k < f → (∀ i, i < 24 → S.1 404 i = if i < k ∧ bi m i = true then -1 else M.1 404 i) → p4F M S → wp (f_X10_part_L2 m f (zI (k : Nat)) S) (fun M' => (∀ i, i < 24 → M'.1 404 i = if bi m i = true then -1 else M.1 404 i) ∧ p4F M M') := by
    intro f
    induction f with
    | zero => intro k S h1 h2; omega
    | succ f ih =>
      intro k S hk hf hI hF
      rw [f_X10_part_L2, show (24 : Int32) = zI 24 from rfl]
      simp (disch := omega) only [zI_le]
      refine wp_if (fun h => ?_) (fun h => ?_)
      · have : k = 24 := by omega
        subst this
        refine wp_r ⟨fun i hi => ?_, hF⟩
        show S.1 404 i = _
        rw [hI i hi]
        by_cases hb : bi m i = true
        · rw [if_pos ⟨hi, hb⟩, if_pos hb]
        · rw [if_neg (fun q => hb q.2), if_neg hb]
      refine wp_if (fun h2 => ?_) (fun h2 => ?_)
      · have hb := (bi_0 m (by omega)).mp h2
        unfold f_X10_part_J23
        rw [zI_inc]
        refine ih (k + 1) S (by omega) (by omega) (fun i hi => ?_) hF
        rw [hI i hi]
        refine if_iff ⟨fun q => ⟨by omega, q.2⟩, fun q => ⟨?_, q.2⟩⟩
        by_cases hik : i = k
        · subst hik
          rw [hb] at q
          exact absurd q.2 (by decide)
        · omega
      · have hb : bi m k = true := by
          cases hbb : bi m k with
          | true => rfl
          | false => exact absurd ((bi_0 m (by omega)).mpr hbb) h2
        rw [nm_cz (by omega) (by omega) (by omega), zI_cl (by omega) (by omega), Int.toNat_natCast, nm_l_eq]
        unfold f_X10_part_J23
        rw [zI_inc]
        refine ih (k + 1) _ (by omega) (by omega) (fun i hi => ?_) ⟨hF.1, fun q j hq => ?_⟩
        · show nm_up S.1 404 k (-1) 404 i = _
          rw [nm_up_ap]
          by_cases hik : i = k
          · subst hik
            rw [if_pos ⟨rfl, rfl⟩, if_pos ⟨by omega, hb⟩]
          · rw [if_neg (fun q => hik q.2), hI i hi]
            exact if_iff ⟨fun q => ⟨by omega, q.2⟩, fun q => ⟨by omega, q.2⟩⟩
        · show nm_up S.1 404 k (-1) q j = _
          rw [nm_up_ap, if_neg (fun h => hq h.1)]
          exact hF.2 q j hq
  unfold f_X10_part
  rw [zI_0]
  exact wp_s1 _ (key nm_F 0 M (by omega) (by rw [nm_F_eq]; omega) (fun i hi => by rw [if_neg (fun q => absurd q.1 (Nat.not_lt_zero _))]) ⟨rfl, fun _ _ _ => rfl⟩) (fun _ h => wp_r h)
theorem w_bindD (x1 x2 : Int32) (M : cm) : f_X10_bind x1 x2 (-1) M = some (-1, M) := by
  unfold f_X10_bind
  rw [if_pos rfl]
theorem w_partB {M : cm} {m : Int32} {pf0 pf : Nat → Int} (hm : MBq m pf0 pf) (hP : pfX M pf) : wp (f_X10_part m M) (fun M' => pfX M' pf0 ∧ p4F M M') := by
  refine wp_m (w_part m) ?_
  rintro M' ⟨z1, z2⟩
  refine ⟨fun i hi => ?_, z2⟩
  obtain ⟨a, b⟩ := hm.2 i hi
  rw [z1 i hi]
  cases hb : bi m i with
  | true =>
    rw [if_pos rfl, a hb]
    rfl
  | false =>
    rw [if_neg (by decide), hP i hi, b hb]
theorem w_bind {M : cm} {m : Int32} {pf0 pf : Nat → Int} (hm : MBq m pf0 pf) (hP : pfX M pf) (hr : prg pf) {w : Nat} (hw : w < 24) {z : Int} (h0 : 0 ≤ z) (h1 : z < 65536) :
    wp (f_X10_bind (zI (w : Nat)) (zI z) m M) (fun r => (b1q w z pf = true → MBq r.1 pf0 (b2q w z pf) ∧ pfX r.2 (b2q w z pf)) ∧ (b1q w z pf = false → r.1 = -1 ∧ pfX r.2 pf0) ∧ p4F M r.2) := by
  have hrw := hr w hw
  obtain ⟨v, hv, hv2⟩ := w_wishedOf hP hr h0 h1
  have hvr : -1 ≤ v ∧ v < 24 := by
    rcases hv2 with ⟨a, _⟩ | ⟨w, a, b, _⟩ <;> omega
  have hdead : b1q w z pf = false → wp (nm_s1 (f_X10_part m M) fun M13 => some ((-1 : Int32), M13)) (fun r => (b1q w z pf = true → MBq r.1 pf0 (b2q w z pf) ∧ pfX r.2 (b2q w z pf)) ∧ (b1q w z pf = false → r.1 = -1 ∧ pfX r.2 pf0) ∧ p4F M r.2) := by
    intro hb
    refine wp_s1 _ (w_partB hm hP) ?_
    rintro M' ⟨z1, z2⟩
    exact wp_r ⟨fun h => by rw [hb] at h; exact absurd h (by decide), fun _ => ⟨rfl, z1⟩, z2⟩
  unfold f_X10_bind
  rw [if_neg (MBq_ne hm), nm_cz (by omega) (by omega) (by omega), nm_cz (by omega) (by omega) (by omega), nm_cz (by omega) (by omega) (by omega), zI_cl (by omega) (by omega), Int.toNat_natCast, hP w hw, hv, nm_s1_some, show (-1 : Int32) = zI (-1) from rfl]
  simp (disch := omega) only [zI_eq, nm_l_eq]
  refine wp_if (fun q1 => ?_) (fun q1 => ?_)
  · have hb : b1q w z pf = true := b1q_t.mpr (Or.inl q1)
    refine wp_r ⟨fun _ => by rw [b2q_id q1]; exact ⟨hm, hP⟩, fun h => by rw [hb] at h; exact absurd h (by decide), rfl, fun _ _ _ => rfl⟩
  refine wp_if (fun q2 => ?_) (fun q2 => hdead (b1q_f.mpr (fun h => h.elim q1 (fun h => q2 h.1))))
  refine wp_if (fun q3 => ?_) (fun q3 => ?_)
  · have hno : ∀ i, i < 24 → pf i ≠ z := by
      rcases hv2 with ⟨_, b⟩ | ⟨w, a, _⟩
      · exact b
      · omega
    have hb : b1q w z pf = true := b1q_t.mpr (Or.inr ⟨q2, hno⟩)
    refine wp_r ⟨fun _ => ⟨⟨fun i h2 h3 => ?_, fun i hi => ?_⟩, fun i hi => ?_⟩, fun h => by rw [hb] at h; exact absurd h (by decide), rfl, fun m' k' hm' => ?_⟩
    · show bi (m ||| _) i = false
      rw [bi_or, hm.1 i h2 h3, bi_one (by omega), decide_eq_false (by omega)]
      rfl
    · obtain ⟨a, b⟩ := hm.2 i hi
      show (bi (m ||| _) i = true → _) ∧ (bi (m ||| _) i = false → _)
      rw [bi_or, bi_one (by omega)]
      unfold b2q
      by_cases hiw : i = w
      · subst hiw
        rw [decide_eq_true rfl, Bool.or_true]
        refine ⟨fun _ => ?_, fun h => absurd h (by decide)⟩
        cases hbi : bi m i with
        | true => exact a hbi
        | false => rw [← b hbi]; exact q2
      · rw [decide_eq_false (fun h => hiw h.symm), Bool.or_false, if_neg (fun h => hiw h.2)]
        exact ⟨a, b⟩
    · show nm_up M.1 404 w (zI z) 404 i = _
      unfold b2q
      rw [nm_up_ap]
      by_cases hiw : i = w
      · subst hiw
        rw [if_pos ⟨rfl, rfl⟩, if_pos ⟨hb, rfl⟩]
      · rw [if_neg (fun h => hiw h.2), if_neg (fun h => hiw h.2)]
        exact hP i hi
    · show nm_up M.1 404 w (zI z) m' k' = _
      rw [nm_up_ap, if_neg (fun h => hm' h.1)]
  · refine hdead (b1q_f.mpr (fun h => h.elim q1 (fun h => ?_)))
    rcases hv2 with ⟨a, _⟩ | ⟨w', a, b, c⟩
    · exact q3 a
    · exact h.2 w' b c
def wsok (ws : wsT) (n : Nat) : Prop := n ≤ 12 ∧ ∀ i, i < n → (ws i).1 < 24 ∧ (ws i).2.1 < 24 ∧ (ws i).2.2.1 < 24 ∧ (ws i).2.2.2 ≤ 4096
def wsX (M : cm) (ws : wsT) (n : Nat) : Prop := M.1 400 0 = zI (n : Nat) ∧ ∀ i, i < n → M.1 401 i = zI ((576 * (ws i).1 + 24 * (ws i).2.1 + (ws i).2.2.1 : Nat) : Int) ∧ M.1 402 i = zI (((ws i).2.2.2 : Nat) : Int)
/-- all devices whole; nets in range -/
def whA (dev : dvT) (n nets : Nat) : Prop := nets ≤ 65536 ∧ ∀ d, d < n → (dev d).1 ≤ 4096 ∧ (0 ≤ (dev d).2.1 ∧ (dev d).2.1 < nets) ∧ (0 ≤ (dev d).2.2.1 ∧ (dev d).2.2.1 < nets) ∧ 0 ≤ (dev d).2.2.2 ∧ (dev d).2.2.2 < nets
def deX (N : Nat → Nat) (M : cm) (dev : dvT) (n : Nat) : Prop := (n ≤ N 322 ∧ n ≤ N 302 ∧ n ≤ N 303 ∧ n ≤ N 304) ∧ ∀ d, d < n → M.1 322 d = zI (((dev d).1 : Nat) : Int) ∧ M.1 302 d = zI (dev d).2.1 ∧ M.1 303 d = zI (dev d).2.2.1 ∧ M.1 304 d = zI (dev d).2.2.2
def stX (N : Nat → Nat) (M : cm) (dev : dvT) (ws : wsT) (n : Nat) : Prop := wsX M ws n ∧ deX N M dev n
def scF (M M' : cm) : Prop := M'.2 = M.2 ∧ ∀ m k, m ≠ 403 → m ≠ 404 → ¬ (m = 400 ∧ (k = 1 ∨ k = 2 ∨ k = 8)) → M'.1 m k = M.1 m k
theorem scF_tr {M M1 M2 : cm} (h1 : scF M M1) (h2 : scF M1 M2) : scF M M2 := ⟨h2.1.trans h1.1, fun m k a b c => (h2.2 m k a b c).trans (h1.2 m k a b c)⟩
theorem scF_p4 {M M' : cm} (h : p4F M M') : scF M M' := ⟨h.1, fun m k _ a _ => h.2 m k a⟩
section
variable {N : Nat → Nat} {dev : dvT} {ws : wsT} {n nets : Nat}
theorem stX_fr {M M' : cm} (h : stX N M dev ws n) (hf : scF M M') : stX N M' dev ws n := by
  obtain ⟨⟨h1, h2⟩, h3, h4⟩ := h
  refine ⟨⟨(hf.2 _ _ (by omega) (by omega) (by omega)).trans h1, fun i hi => ⟨(hf.2 _ _ (by omega) (by omega) (by omega)).trans (h2 i hi).1, (hf.2 _ _ (by omega) (by omega) (by omega)).trans (h2 i hi).2⟩⟩, h3, fun d hd => ?_⟩
  obtain ⟨a, b, c, e⟩ := h4 d hd
  exact ⟨(hf.2 _ _ (by omega) (by omega) (by omega)).trans a, (hf.2 _ _ (by omega) (by omega) (by omega)).trans b, (hf.2 _ _ (by omega) (by omega) (by omega)).trans c, (hf.2 _ _ (by omega) (by omega) (by omega)).trans e⟩
theorem w_ofDev {M : cm} (h : deX N M dev n) (hn : n ≤ 4096) {d : Nat} (hd : d < n) : f_X2_ofDevice N (zI (d : Nat)) (0 : Int32) M = some (zI (((dev d).1 : Nat) : Int)) ∧ f_X2_ofDevice N (zI (d : Nat)) (1 : Int32) M = some (zI (dev d).2.1) ∧ f_X2_ofDevice N (zI (d : Nat)) (2 : Int32) M = some (zI (dev d).2.2.1) ∧ f_X2_ofDevice N (zI (d : Nat)) (3 : Int32) M = some (zI (dev d).2.2.2) := by
  obtain ⟨⟨n1, n2, n3, n4⟩, h⟩ := h
  obtain ⟨a, b, c, e⟩ := h d hd
  unfold f_X2_ofDevice
  refine ⟨?_, ?_, ?_, ?_⟩
  · rw [if_pos rfl, nm_cz (by omega) (by omega) (by omega), zI_cl (by omega) (by omega), Int.toNat_natCast, a]
  · rw [if_neg (by decide), if_pos rfl, nm_cz (by omega) (by omega) (by omega), zI_cl (by omega) (by omega), Int.toNat_natCast, b]
  · rw [if_neg (by decide), if_neg (by decide), if_pos rfl, nm_cz (by omega) (by omega) (by omega), zI_cl (by omega) (by omega), Int.toNat_natCast, c]
  · rw [if_neg (by decide), if_neg (by decide), if_neg (by decide), nm_cz (by omega) (by omega) (by omega), zI_cl (by omega) (by omega), Int.toNat_natCast, e]
end
