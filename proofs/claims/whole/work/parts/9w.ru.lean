/-! THE WISH: same(), on both sides -/
section
variable {dev : dvT} {ws : wsT} {dn n nets : Nat}
theorem w_isComplete {I : nm_I} (hn12 : n ≤ 12) (hb : dvB dev dn nets) (hdn : dn ≤ 4096) (hws : wsO I ws n) (hdv : dvO I dn dev) : f_X12_isComplete I = some (if cplA dn dev n = true then 1 else 0) := by
  have hnt := hb.1
  have key : ∀ (f k : Nat) (b : Bool), k ≤ dn → dn - k < f → (b = true ↔ dn = n ∧ ∀ d, d < k → 0 ≤ (dev d).2.1 ∧ 0 ≤ (dev d).2.2.2) → wp (f_X12_isComplete_L19 I f (if b = true then 1 else 0) (zI (k : Nat))) (fun y => y = if cplA dn dev n = true then 1 else 0) := by
    intro f
    induction f with
    | zero => intro k b h1 h2; omega
    | succ f ih =>
      intro k b hk hf hbb
      rw [f_X12_isComplete_L19, hdv.1]
      simp (disch := omega) only [zI_le]
      refine wp_if (fun h => ?_) (fun h => ?_)
      · have : k = dn := by
          clear hbb
          omega
        subst this
        refine wp_r (if_iff ?_)
        rw [hbb]
        unfold cplA
        rw [bP_t]
        constructor
        · rintro ⟨a, c⟩
          exact ⟨a, fun d hd => c d (by omega)⟩
        · rintro ⟨a, c⟩
          exact ⟨a, fun d hd => c d (by omega)⟩
      have hkl : k < dn := by
        clear hbb
        omega
      have q2 : dn - (k + 1) < f := by
        clear hbb
        omega
      obtain ⟨c0, ⟨c1, c1'⟩, c2, ⟨c3, c3'⟩, -⟩ := hb.2 k hkl
      obtain ⟨-, v1, -, v3⟩ := hdv.2 k hkl
      unfold f_X12_isComplete_J53 f_X12_isComplete_J54
      have hgo : ∀ b' : Bool, (b' = true ↔ dn = n ∧ ∀ d, d < k + 1 → 0 ≤ (dev d).2.1 ∧ 0 ≤ (dev d).2.2.2) → wp (f_X12_isComplete_L19 I f (if b' = true then 1 else 0) (zI (k : Nat) + 1)) (fun y => y = if cplA dn dev n = true then 1 else 0) := by
        intro b' hb'
        rw [zI_inc]
        exact ih (k + 1) b' hkl q2 hb'
      refine wp_if (fun h0 => ?_) (fun h0 => ?_)
      · have hbf : b = false := (ite_z b).mp h0
        refine hgo false ⟨fun h => absurd h (by decide), fun ⟨a, e⟩ => ?_⟩
        have := hbb.mpr ⟨a, fun d hd => e d (by omega)⟩
        rw [hbf] at this
        exact this
      · have hbt : b = true := by
          cases b with
          | true => rfl
          | false => exact absurd rfl h0
        obtain ⟨b1, b2⟩ := hbb.mp hbt
        clear hbb
        rw [nm_cz (by omega) (by omega) (by omega), nm_cz (by omega) (by omega) (by omega), zI_cl (by omega) (by omega), Int.toNat_natCast, v1, v3, show (0 : Int32) = zI 0 from rfl]
        simp (disch := omega) only [zI_lt]
        refine wp_if (fun h2 => ?_) (fun h2 => ?_)
        · exact hgo false ⟨fun h => absurd h (by decide), fun ⟨a, e⟩ => by have := e k (by omega); omega⟩
        refine wp_if (fun h3 => ?_) (fun h3 => ?_)
        · exact hgo false ⟨fun h => absurd h (by decide), fun ⟨a, e⟩ => by have := e k (by omega); omega⟩
        · refine hgo true ⟨fun _ => ⟨b1, fun d hd => ?_⟩, fun _ => rfl⟩
          by_cases hdk : d = k
          · subst hdk
            omega
          · exact b2 d (by omega)
  have hJ : ∀ b : Bool, (b = true ↔ dn = n) → f_X12_isComplete_J16 (if b = true then 1 else 0) I = some (if cplA dn dev n = true then 1 else 0) := by
    intro b hbb
    obtain ⟨y, e, hy⟩ := key nm_F 0 b (by omega) (by rw [nm_F_eq]; omega) (by rw [hbb]; exact ⟨fun h => ⟨h, fun d hd => absurd hd (Nat.not_lt_zero _)⟩, fun h => h.1⟩)
    unfold f_X12_isComplete_J16
    rw [show f_X12_isComplete_L19 I nm_F (if b = true then 1 else 0) 0 = some y from e, nm_s1_some]
    subst hy
    cases cplA dn dev n
    · exact nm_b0
    · exact nm_b1
  unfold f_X12_isComplete
  rw [hdv.1, hws.1]
  simp (disch := omega) only [zI_eq]
  by_cases h : ((dn : Nat) : Int) = ((n : Nat) : Int)
  · rw [if_pos h]
    exact hJ true ⟨fun _ => by omega, fun _ => rfl⟩
  · rw [if_neg h]
    exact hJ false ⟨fun q => absurd q (by decide), fun q => absurd (by rw [q]) h⟩
/-- what same() leaves as it was, in the reference -/
abbrev saF (I I' : nm_I) : Prop := ∀ m k, ¬ (74 ≤ m ∧ m ≤ 77) → ¬ (m = 0 ∧ (k = 71 ∨ k = 72)) → I' m k = I m k
def saO (I0 : nm_I) (dev : dvT) (ws : wsT) (n nets : Nat) (res : rsT) (r : Int32 × nm_I) : Prop :=
  (res.1 = 0 ∧ r.1 = 0 ∧ r.2 0 71 = zI (res.2.2 : Nat) ∧ r.2 0 72 = I0 0 72 ∧ saF I0 r.2) ∨
  (res.1 = 1 ∧ r.1 = 1 ∧ r.2 0 71 = zI (res.2.2 : Nat) ∧ r.2 0 72 = 1 ∧ saF I0 r.2 ∧ pR r.2 (pfA dev ws res.2.1) nets ∧ ∀ j, j < n → r.2 77 j = zI ((chA res.2.1 j / 2 : Nat) : Int)) ∨
  (res.1 = 2 ∧ ∃ I1, I1 0 71 = zI (res.2.2 : Nat) ∧ I1 0 72 = 0 ∧ saF I0 I1 ∧ f_X12_no (-9) I1 = some r)
theorem f_no9 (I : nm_I) : ∃ J, f_X12_no (-9) I = some (-9, J) := by
  unfold f_X12_no
  rw [show (-(-9 : Int32)) = zI 9 from by decide, nm_cz (by omega) (by omega) (by omega), nm_cz (by omega) (by omega) (by omega), nm_l_eq]
  exact ⟨_, rfl⟩
set_option maxHeartbeats 1000000 in
/-- paired at last -/
theorem w_samePair (hwo : wsok ws n) (hw : whA dev n nets) {I0 I : nm_I} (hF0 : saF I0 I) (hst : stO I dev ws n nets) {rs : List Nat} {t : Nat} (hG : gLs dev ws n rs) (hth : thO I rs) (hrn : rs.length = n) (h71 : I 0 71 = zI (t : Nat)) :
    wp (nm_s1 (f_X12_pairsUpTo (I 0 65) I) fun I24 => nm_l (nm_up I24 0 72 (1 : Int32)) fun I26 => nm_s1 (f_X12_same_L120 nm_F (0 : Int32) I26) fun I32 => some ((1 : Int32), I32)) (fun r => saO I0 dev ws n nets (1, rs, t) r) := by
  have hn12 := hwo.1
  rw [hst.2.1.1, show ((n : Nat) : Int) = ((rs.length : Nat) : Int) by rw [hrn]]
  refine wp_s1 _ (w_pairsUpTo hwo hw hst hG hth (by omega)) ?_
  rintro I1 ⟨a1, a2⟩
  rw [nm_l_eq]
  obtain ⟨B, hB⟩ : ∃ B, B = nm_up I1 0 72 (1 : Int32) := ⟨_, rfl⟩
  rw [← hB]
  have b1 : ∀ m k, ¬ (m = 0 ∧ k = 72) → B m k = I1 m k := fun m k h => by rw [hB, nm_up_ap, if_neg h]
  have b2 : B 0 72 = 1 := by rw [hB, nm_up_ap, if_pos ⟨rfl, rfl⟩]
  clear hB
  have key : ∀ (f k : Nat) (S : nm_I), k ≤ n → n - k < f → (∀ j, j < k → S 77 j = zI ((chA rs j / 2 : Nat) : Int)) → (∀ m q, m ≠ 77 → S m q = B m q) → wp (f_X12_same_L120 f (zI (k : Nat)) S) (fun S => (∀ j, j < n → S 77 j = zI ((chA rs j / 2 : Nat) : Int)) ∧ ∀ m q, m ≠ 77 → S m q = B m q) := by
    intro f
    induction f with
    | zero => intro k S h1 h2; omega
    | succ f ih =>
      intro k S hk hf hI hF
      rw [f_X12_same_L120, hF 0 65 (by omega), b1 0 65 (by omega), a2 0 65 (by omega) (by omega), hst.2.1.1]
      simp (disch := omega) only [zI_le]
      refine wp_if (fun h => ?_) (fun h => ?_)
      · have : k = n := by omega
        subst this
        exact wp_r ⟨hI, hF⟩
      have hc := chA_lt hG k (by omega)
      rw [nm_cz (by omega) (by omega) (by omega), nm_cz (by omega) (by omega) (by omega), zI_cl (by omega) (by omega), Int.toNat_natCast, hF 74 k (by omega), b1 74 k (by omega), a2 74 k (by omega) (by omega), hth k (by omega), show (2 : Int32) = zI 2 from rfl, zI_div (by omega) (by omega) (by omega) (by omega), nm_l_eq, zI_inc]
      refine ih (k + 1) _ (by omega) (by omega) (fun j hj => ?_) (fun m q hm => ?_)
      · rw [nm_up_ap]
        by_cases hjk : j = k
        · subst hjk
          rw [if_pos ⟨rfl, rfl⟩]
          exact congrArg zI (by omega)
        · rw [if_neg (fun h => hjk h.2)]
          exact hI j (by omega)
      · rw [nm_up_ap, if_neg (fun h => hm h.1)]
        exact hF m q hm
  rw [zI_0]
  refine wp_s1 _ (key nm_F 0 B (by omega) (by rw [nm_F_eq]; omega) (fun j hj => absurd hj (Nat.not_lt_zero _)) (fun _ _ _ => rfl)) ?_
  rintro I3 ⟨c1, c2⟩
  refine wp_r (Or.inr (Or.inl ⟨rfl, rfl, ?_, ?_, fun m k a b => ?_, ?_, c1⟩))
  · show I3 0 71 = _
    rw [c2 _ _ (by omega), b1 _ _ (by omega), a2 _ _ (by omega) (by omega)]
    exact h71
  · show I3 0 72 = _
    rw [c2 _ _ (by omega)]
    exact b2
  · show I3 m k = _
    rw [c2 m k (by omega), b1 m k (by omega), a2 m k (by omega) (by omega)]
    exact hF0 m k a b
  · obtain ⟨p1, p2, p3, p4⟩ := a1
    have e75 : ∀ z, I3 75 z = I1 75 z := fun z => by rw [c2 _ _ (by omega), b1 _ _ (by omega)]
    have e76 : ∀ z, I3 76 z = I1 76 z := fun z => by rw [c2 _ _ (by omega), b1 _ _ (by omega)]
    exact ⟨fun w hw => (e76 w).trans (p1 w hw), fun z hz => by
      show (∃ w : Nat, w < 24 ∧ _ ∧ I3 75 z = _) ∨ (_ ∧ I3 75 z = _)
      rw [e75]
      exact p2 z hz, p3, p4⟩
set_option maxHeartbeats 2000000 in
theorem w_sameL (hwo : wsok ws n) (hw : whA dev n nets) {I0 : nm_I} (h72 : I0 0 72 = 0 ∨ I0 0 72 = 1) : ∀ (f : Nat) (rs : List Nat) (k t : Nat) (I : nm_I), 2 * (5000 - t) + rs.length + 2 < f → rs.length < n → k ≤ 2 * n → t ≤ 5000 → gLs dev ws n rs → thO I rs → stO I dev ws n nets → saF I0 I → I 0 71 = zI (t : Nat) → I 0 72 = I0 0 72 →
    wp (f_X12_same_L32 (fun (I23 : nm_I) => nm_s1 (f_X12_pairsUpTo (I23 0 65) I23) fun I24 => nm_l (nm_up I24 0 72 (1 : Int32)) fun I26 => nm_s1 (f_X12_same_L120 nm_F (0 : Int32) I26) fun I32 => some ((1 : Int32), I32)) f (zI (rs.length : Nat)) (zI (k : Nat)) I) (fun r => saO I0 dev ws n nets (srW dev ws n rs (srK dev ws n rs k t)) r) := by
  have hn12 := hwo.1
  intro f
  induction f with
  | zero => intro rs k t I h; omega
  | succ f ih =>
    intro rs k t I hf hrn hk ht hG hth hst hF h71 h72e
    rw [f_X12_same_L32, hst.2.1.1]
    simp (disch := omega) only [zI_le]
    rw [if_neg (by omega)]
    refine wp_s2 _ (w_nextChoice hwo hw hG hrn hst hth hk ht h71) ?_
    rintro r1 I1 ⟨v, t', e1, e2, e3, e4⟩
    have e1' : r1 = zI v := e1
    have e2' : I1 0 71 = zI (t' : Nat) := e2
    have e3' : p7F I I1 := e3
    have hF1 : saF I0 I1 := fun m q a b => (e3' m q (by omega) (by omega) (by omega)).trans (hF m q a b)
    have hst1 := stO_7 hst e3'
    have hth1 : thO I1 rs := fun j hj => (e3' _ _ (by omega) (by omega) (by omega)).trans (hth j hj)
    have h721 : I1 0 72 = I0 0 72 := (e3' _ _ (by omega) (by omega) (by omega)).trans h72e
    subst e1'
    rcases e4 with ⟨f1, f2, f3, f4⟩ | ⟨f1, f2, f3⟩ | ⟨c, u, f1, f2, f3, f4, f5, f6, f7, f8⟩
    · -- none
      subst f1
      rw [if_neg (by decide), if_pos (show zI (-1) < 0 by decide), f2]
      cases rs with
      | nil =>
        rw [if_neg (by decide)]
        exact wp_r (Or.inl ⟨rfl, rfl, e2', h721, hF1⟩)
      | cons c rs =>
        have hrn' : rs.length + 1 < n := hrn
        obtain ⟨hG1, hc1, -, -⟩ := hG
        rw [show zI (((c :: rs).length : Nat) : Int) + -1 = zI (rs.length : Nat) by
          rw [show (-1 : Int32) = zI (-1) from rfl, zI_add]
          exact congrArg zI (by show ((rs.length + 1 : Nat) : Int) + -1 = _; omega), show (0 : Int32) = zI 0 from rfl]
        simp (disch := omega) only [zI_le]
        rw [if_pos (by omega), nm_cz (by omega) (by omega) (by omega), zI_cl (by omega) (by omega), Int.toNat_natCast, hth1 rs.length (by show rs.length < rs.length + 1; omega), show chA (c :: rs) rs.length = c by simp [chA], nm_l_eq, show (1 : Int32) = zI 1 from rfl, zI_add]
        unfold f_X12_same_J102
        rw [srW_zero (by rfl)]
        exact ih rs (c + 1) t' I1 (by have : (c :: rs).length = rs.length + 1 := rfl; omega) (by omega) (by omega) f4 hG1 (fun j hj => by
          have := hth1 j (by show j < rs.length + 1; omega)
          rw [show chA (c :: rs) j = chA rs j by simp [chA]; omega] at this
          exact this) hst1 hF1 e2' h721
    · -- spent
      subst f1
      rw [if_pos (show zI (-9) = -9 from rfl), nm_l_eq, f2, srW_pos _ (show (2 : Nat) ≠ 0 by decide)]
      obtain ⟨J, hJ⟩ := f_no9 (nm_up I1 0 72 0)
      rw [hJ, nm_s2_some]
      refine wp_r (Or.inr (Or.inr ⟨rfl, nm_up I1 0 72 0, ?_, ?_, fun m q a b => ?_, hJ⟩))
      · rw [nm_up_ap, if_neg (by omega)]
        exact e2'
      · rw [nm_up_ap, if_pos ⟨rfl, rfl⟩]
      · rw [nm_up_ap, if_neg (by omega)]
        exact hF1 m q a b
    · -- a choice that goes
      subst f1
      rw [if_neg (by
        rw [show (-9 : Int32) = zI (-9) from rfl, zI_eq (by omega) (by omega) (by omega) (by omega)]
        omega), if_neg (by
        rw [show (0 : Int32) = zI 0 from rfl, zI_lt (by omega) (by omega) (by omega) (by omega)]
        omega), nm_cz (by omega) (by omega) (by omega), zI_cl (by omega) (by omega), Int.toNat_natCast, nm_l_eq, f8]
      obtain ⟨B, hB⟩ : ∃ B, B = nm_up I1 74 rs.length (zI (c : Nat)) := ⟨_, rfl⟩
      rw [← hB]
      have b1 : ∀ m q, ¬ (m = 74 ∧ q = rs.length) → B m q = I1 m q := fun m q h => by rw [hB, nm_up_ap, if_neg h]
      have b2 : B 74 rs.length = zI (c : Nat) := by rw [hB, nm_up_ap, if_pos ⟨rfl, rfl⟩]
      clear hB
      have hthB : thO B (c :: rs) := fun j hj => by
        have hj' : j < rs.length + 1 := hj
        show _ = zI (((if j = rs.length then c else chA rs j) : Nat) : Int)
        by_cases hjl : j = rs.length
        · subst hjl
          rw [if_pos rfl]
          exact b2
        · rw [if_neg hjl, b1 _ _ (by omega)]
          exact hth1 j (by omega)
      have hFB : saF I0 B := fun m q a b => (b1 m q (by omega)).trans (hF1 m q a b)
      have hstB : stO B dev ws n nets := by
        obtain ⟨⟨h1, h2⟩, ⟨h3, h4⟩, h5⟩ := hst1
        refine ⟨⟨(b1 _ _ (by omega)).trans h1, fun i hi => ?_⟩, ⟨(b1 _ _ (by omega)).trans h3, fun d hd => ?_⟩, (b1 _ _ (by omega)).trans h5⟩
        · obtain ⟨a, b, c, e⟩ := h2 i hi
          exact ⟨(b1 _ _ (by omega)).trans a, (b1 _ _ (by omega)).trans b, (b1 _ _ (by omega)).trans c, (b1 _ _ (by omega)).trans e⟩
        · obtain ⟨a, b, c, e⟩ := h4 d hd
          exact ⟨(b1 _ _ (by omega)).trans a, (b1 _ _ (by omega)).trans b, (b1 _ _ (by omega)).trans c, (b1 _ _ (by omega)).trans e⟩
      have hGB : gLs dev ws n (c :: rs) := ⟨hG, f5, f6, f7⟩
      have hB71 : B 0 71 = zI ((u + 1 : Nat) : Int) := by
        rw [b1 _ _ (by omega), e2', f2]
      have hlen : (c :: rs).length = rs.length + 1 := rfl
      unfold f_X12_same_J102
      rw [zI_inc, zI_0]
      by_cases hl : rs.length + 1 < n
      · rw [srW_go hl f5 f6 f4 f7]
        exact ih (c :: rs) 0 (u + 1) B (by omega) hl (by omega) (by omega) hGB hthB hstB hFB hB71 ((b1 _ _ (by omega)).trans h721)
      · have hl' : rs.length + 1 = n := by omega
        rw [srW_last hl' f5 f6 f4 f7]
        obtain ⟨f', rfl⟩ : ∃ f', f = f' + 1 := ⟨f - 1, by omega⟩
        rw [f_X12_same_L32, hstB.2.1.1, if_pos (by
          rw [zI_le (by omega) (by omega) (by omega) (by omega)]
          omega)]
        have hsp := w_samePair hwo hw hFB hstB hGB hthB (by rw [hlen]; exact hl') hB71
        rw [hstB.2.1.1, zI_0] at hsp
        exact hsp
theorem w_sameO (hwo : wsok ws n) (hb : dvB dev dn nets) (hdn : dn ≤ 4096) {I : nm_I} (hws : wsO I ws n) (hdv : dvO I dn dev) (h57 : I 0 57 = zI (nets : Nat)) (h22 : I 0 22 ≠ 0) (h72 : I 0 72 = 0 ∨ I 0 72 = 1) :
    wp (f_X12_same I) (fun r => saO I dev ws n nets (smR dn dev ws n) r) := by
  have hn12 := hwo.1
  unfold f_X12_same
  rw [if_neg h22, nm_l_eq]
  obtain ⟨B, hB⟩ : ∃ B, B = nm_up I 0 71 (0 : Int32) := ⟨_, rfl⟩
  rw [← hB]
  have b1 : ∀ m k, ¬ (m = 0 ∧ k = 71) → B m k = I m k := fun m k h => by rw [hB, nm_up_ap, if_neg h]
  have b2 : B 0 71 = 0 := by rw [hB, nm_up_ap, if_pos ⟨rfl, rfl⟩]
  clear hB
  have hwsB : wsO B ws n := ⟨(b1 _ _ (by omega)).trans hws.1, fun i hi => by
    obtain ⟨a, b, c, e⟩ := hws.2 i hi
    exact ⟨(b1 _ _ (by omega)).trans a, (b1 _ _ (by omega)).trans b, (b1 _ _ (by omega)).trans c, (b1 _ _ (by omega)).trans e⟩⟩
  have hdvB : dvO B dn dev := ⟨(b1 _ _ (by omega)).trans hdv.1, fun d hd => by
    obtain ⟨a, b, c, e⟩ := hdv.2 d hd
    exact ⟨(b1 _ _ (by omega)).trans a, (b1 _ _ (by omega)).trans b, (b1 _ _ (by omega)).trans c, (b1 _ _ (by omega)).trans e⟩⟩
  have hFB : saF I B := fun m q a b => b1 m q (by omega)
  rw [w_isComplete hn12 hb hdn hwsB hdvB, nm_s1_some]
  unfold smR
  cases hc : cplA dn dev n with
  | false =>
    rw [if_pos (show (if false = true then (1 : Int32) else 0) = 0 from rfl), if_neg (show ¬ false = true by decide)]
    exact wp_r (Or.inl ⟨rfl, rfl, b2, b1 _ _ (by omega), hFB⟩)
  | true =>
    rw [if_neg (show ¬ (if true = true then (1 : Int32) else 0) = 0 by decide), if_pos (show true = true from rfl), nm_l_eq]
    obtain ⟨e, hwh⟩ := whA_of hb hc
    subst e
    have hst : stO B dev ws dn nets := ⟨hwsB, hdvB, (b1 _ _ (by omega)).trans h57⟩
    by_cases hz : dn = 0
    · subst hz
      have h1 : wp (f_X12_same_L32 (fun (I23 : nm_I) => nm_s1 (f_X12_pairsUpTo (I23 0 65) I23) fun I24 => nm_l (nm_up I24 0 72 (1 : Int32)) fun I26 => nm_s1 (f_X12_same_L120 nm_F (0 : Int32) I26) fun I32 => some ((1 : Int32), I32)) (999999 + 1) (zI 0) (zI 0) B) (fun r => saO I dev ws 0 nets (1, [], 0) r) := by
        rw [f_X12_same_L32, hdvB.1, if_pos (show zI ((0 : Nat) : Int) ≤ zI 0 by decide)]
        have hsp := w_samePair hwo hwh hFB hst (rs := []) (t := 0) trivial (fun j hj => absurd hj (Nat.not_lt_zero _)) rfl b2
        rw [hdvB.1] at hsp
        exact hsp
      exact h1
    · rw [← srW_all (by omega)]
      have h1 := w_sameL hwo hwh h72 nm_F [] 0 0 B (by rw [nm_F_eq]; show 2 * (5000 - 0) + 0 + 2 < 1000000; omega) (by show 0 < dn; omega) (by omega) (by omega) trivial (fun j hj => absurd hj (Nat.not_lt_zero _)) hst hFB b2 (b1 _ _ (by omega))
      exact h1
end
