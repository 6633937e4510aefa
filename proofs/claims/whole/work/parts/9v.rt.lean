/-! THE WISH, by the reference: one try, the next choice -/
section
variable {dev : dvT} {ws : wsT} {n nets : Nat}
theorem thO_fr {I I' : nm_I} {rs : List Nat} (h : thO I rs) (hf : p5F I I') : thO I' rs := fun j hj => (hf _ _ (by omega) (by omega)).trans (h j hj)
set_option maxHeartbeats 1000000 in
theorem w_goes (hwo : wsok ws n) (hw : whA dev n nets) {I : nm_I} (hst : stO I dev ws n nets) {rs : List Nat} (hG : gLs dev ws n rs) (hth : thO I rs) (hrn : rs.length < n) {c : Nat} (hc : c < 2 * n) :
    wp (f_X12_goes (zI (rs.length : Nat)) (zI (c : Nat)) I) (fun r => (r.1 = if okA dev ws rs c = true then 1 else 0) ∧ p5F I r.2) := by
  have hn12 := hwo.1
  have hnt := hw.1
  obtain ⟨g0, ⟨g1, g1'⟩, ⟨g2, g2'⟩, g3, g3'⟩ := hw.2 rs.length hrn
  obtain ⟨l1, l2, l3⟩ := wA_lt hwo hc
  obtain ⟨u1, u2, u3, u4⟩ := hwo.2 (c / 2) (by omega)
  have hno : ¬ okW dev ws rs.length c (pfA dev ws rs) → (0 : Int32) = if okA dev ws rs c = true then 1 else 0 := fun h => by
    rw [if_neg (show ¬ okA dev ws rs c = true from fun h2 => h (bP_t.mp h2))]
  have hyes : okW dev ws rs.length c (pfA dev ws rs) → (1 : Int32) = if okA dev ws rs c = true then 1 else 0 := fun h => by
    rw [if_pos (show okA dev ws rs c = true from bP_t.mpr h)]
  have h44 : szA dev ws rs.length c → wp (f_X12_goes_J44 (zI (rs.length : Nat)) (zI ((c / 2 : Nat) : Int)) (zI ((c % 2 : Nat) : Int)) I) (fun r => (r.1 = if okA dev ws rs c = true then 1 else 0) ∧ p5F I r.2) := by
    intro hsz
    unfold f_X12_goes_J44
    refine wp_s1 _ (w_pairsUpTo hwo hw hst hG hth (by omega)) ?_
    rintro I1 ⟨a1, a2⟩
    have hws1 := (stO_fr hst a2).1.2 (c / 2) (by omega)
    have hdv1 := (stO_fr hst a2).2.1.2 rs.length hrn
    rw [nm_cz (by omega) (by omega) (by omega), nm_cz (by omega) (by omega) (by omega), zI_cl (by omega) (by omega), zI_cl (by omega) (by omega), Int.toNat_natCast, Int.toNat_natCast, hws1.1, hdv1.2.1]
    refine wp_s2 _ (w_pairO a1 hnt (w := (ws (c / 2)).1) l1 (z := (dev rs.length).2.1) g1 g1') ?_
    rintro r1 I2 ⟨b1, b2, b3⟩
    have b2' : r1 = if b1q (ws (c / 2)).1 (dev rs.length).2.1 (pfA dev ws rs) = true then 1 else 0 := b2
    have hF2 : p5F I I2 := fun m k x y => (b3 m k x y).trans (a2 m k x y)
    cases hb1 : b1q (ws (c / 2)).1 (dev rs.length).2.1 (pfA dev ws rs) with
    | false =>
      rw [hb1, if_neg (by decide)] at b2'
      rw [if_pos b2']
      refine wp_r ⟨hno (fun h => ?_), hF2⟩
      have := h.2.1
      rw [show (wA ws c).1 = (ws (c / 2)).1 from rfl, hb1] at this
      exact absurd this (by decide)
    | true =>
      rw [hb1, if_pos rfl] at b2'
      rw [if_neg (by rw [b2']; decide)]
      have hws2 := (stO_fr hst hF2).1.2 (c / 2) (by omega)
      have hdv2 := (stO_fr hst hF2).2.1.2 rs.length hrn
      have h95 : wp (f_X12_goes_J95 (zI (rs.length : Nat)) (zI ((c / 2 : Nat) : Int)) (zI ((c % 2 : Nat) : Int)) (zI (((wA ws c).2.1 : Nat) : Int)) (zI (dev rs.length).2.2.1) I2) (fun r => (r.1 = if okA dev ws rs c = true then 1 else 0) ∧ p5F I r.2) := by
        unfold f_X12_goes_J95
        refine wp_s2 _ (w_pairO b1 hnt (w := (wA ws c).2.1) l2 (z := (dev rs.length).2.2.1) g2 g2') ?_
        rintro r2 I3 ⟨c1, c2, c3⟩
        have c2' : r2 = if b1q (wA ws c).2.1 (dev rs.length).2.2.1 (p1q dev ws rs.length c (pfA dev ws rs)) = true then 1 else 0 := c2
        have hF3 : p5F I I3 := fun m k x y => (c3 m k x y).trans (hF2 m k x y)
        cases hb2 : b1q (wA ws c).2.1 (dev rs.length).2.2.1 (p1q dev ws rs.length c (pfA dev ws rs)) with
        | false =>
          rw [hb2, if_neg (by decide)] at c2'
          rw [if_pos c2']
          refine wp_r ⟨hno (fun h => ?_), hF3⟩
          have := h.2.2.1
          rw [hb2] at this
          exact absurd this (by decide)
        | true =>
          rw [hb2, if_pos rfl] at c2'
          rw [if_neg (by rw [c2']; decide)]
          have hws3 := (stO_fr hst hF3).1.2 (c / 2) (by omega)
          have hdv3 := (stO_fr hst hF3).2.1.2 rs.length hrn
          have h128 : wp (f_X12_goes_J128 (zI (((wA ws c).2.2 : Nat) : Int)) (zI (dev rs.length).2.2.2) I3) (fun r => (r.1 = if okA dev ws rs c = true then 1 else 0) ∧ p5F I r.2) := by
            unfold f_X12_goes_J128
            refine wp_s2 _ (w_pairO c1 hnt (w := (wA ws c).2.2) l3 (z := (dev rs.length).2.2.2) g3 g3') ?_
            rintro r3 I4 ⟨d1, d2, d3⟩
            have d2' : r3 = if b1q (wA ws c).2.2 (dev rs.length).2.2.2 (p2q dev ws rs.length c (pfA dev ws rs)) = true then 1 else 0 := d2
            have hF4 : p5F I I4 := fun m k x y => (d3 m k x y).trans (hF3 m k x y)
            cases hb3 : b1q (wA ws c).2.2 (dev rs.length).2.2.2 (p2q dev ws rs.length c (pfA dev ws rs)) with
            | false =>
              rw [hb3, if_neg (by decide)] at d2'
              rw [if_pos d2']
              refine wp_r ⟨hno (fun h => ?_), hF4⟩
              have := h.2.2.2
              rw [hb3] at this
              exact absurd this (by decide)
            | true =>
              rw [hb3, if_pos rfl] at d2'
              rw [if_neg (by rw [d2']; decide)]
              exact wp_r ⟨hyes ⟨hsz, hb1, hb2, hb3⟩, hF4⟩
          rw [nm_cz (by omega) (by omega) (by omega), nm_cz (by omega) (by omega) (by omega), nm_cz (by omega) (by omega) (by omega), zI_cl (by omega) (by omega), zI_cl (by omega) (by omega), Int.toNat_natCast, Int.toNat_natCast, hdv3.2.2.2, hws3.2.1, hws3.2.2.1]
          by_cases h2 : c % 2 = 1
          · rw [if_neg (show ¬ zI ((c % 2 : Nat) : Int) = 0 by rw [h2]; decide)]
            rw [show (wA ws c).2.2 = (ws (c / 2)).2.1 by simp [wA, h2]] at h128
            exact h128
          · rw [if_pos (show zI ((c % 2 : Nat) : Int) = 0 by rw [show c % 2 = 0 by omega]; rfl)]
            rw [show (wA ws c).2.2 = (ws (c / 2)).2.2.1 by simp [wA, h2]] at h128
            exact h128
      rw [nm_cz (by omega) (by omega) (by omega), nm_cz (by omega) (by omega) (by omega), nm_cz (by omega) (by omega) (by omega), hdv2.2.2.1, hws2.2.1, hws2.2.2.1]
      by_cases h2 : c % 2 = 1
      · rw [if_neg (show ¬ zI ((c % 2 : Nat) : Int) = 0 by rw [h2]; decide)]
        rw [show (wA ws c).2.1 = (ws (c / 2)).2.2.1 by simp [wA, h2]] at h95
        exact h95
      · rw [if_pos (show zI ((c % 2 : Nat) : Int) = 0 by rw [show c % 2 = 0 by omega]; rfl)]
        rw [show (wA ws c).2.1 = (ws (c / 2)).2.1 by simp [wA, h2]] at h95
        exact h95
  have h16 : wp (f_X12_goes_J16 (zI (rs.length : Nat)) (zI ((c / 2 : Nat) : Int)) (zI ((c % 2 : Nat) : Int)) I) (fun r => (r.1 = if okA dev ws rs c = true then 1 else 0) ∧ p5F I r.2) := by
    have hws := hst.1.2 (c / 2) (by omega)
    have hdv := hst.2.1.2 rs.length hrn
    unfold f_X12_goes_J16
    rw [nm_cz (by omega) (by omega) (by omega), nm_cz (by omega) (by omega) (by omega), nm_cz (by omega) (by omega) (by omega), zI_cl (by omega) (by omega), zI_cl (by omega) (by omega), Int.toNat_natCast, Int.toNat_natCast, hws.2.2.2, hdv.1, zI_0]
    simp (disch := omega) only [zI_eq]
    refine wp_if (fun h => h44 (Or.inl (by omega))) (fun h => ?_)
    refine wp_if (fun h2 => h44 (Or.inr (by omega))) (fun h2 => ?_)
    refine wp_r ⟨hno (fun ho => ?_), fun _ _ _ _ => rfl⟩
    rcases ho.1 with h3 | h3 <;> omega
  unfold f_X12_goes
  rw [show (2 : Int32) = zI 2 from rfl, md (by omega) (by omega) (by omega) (by omega), zI_div (by omega) (by omega) (by omega) (by omega), nm_l_eq, show ((c : Nat) : Int) / 2 = ((c / 2 : Nat) : Int) by omega, show ((c : Nat) : Int) % 2 = ((c % 2 : Nat) : Int) by omega]
  refine wp_if (fun h5 => ?_) (fun h5 => ?_)
  · rw [h5] at h16
    exact h16
  · have h50 : c % 2 = 0 := by
      by_cases hh : c % 2 = 1
      · rw [hh] at h5
        exact absurd rfl h5
      · omega
    rw [h50] at h16
    exact h16
theorem tkA_iff : ∀ (rs : List Nat) (i : Nat), tkA rs i = true ↔ ∃ j, j < rs.length ∧ chA rs j / 2 = i := by
  intro rs
  induction rs with
  | nil => intro i; exact ⟨fun h => absurd (show false = true from h) (by decide), fun ⟨j, h, _⟩ => absurd h (Nat.not_lt_zero _)⟩
  | cons c rs ih =>
    intro i
    show (decide (c / 2 = i) || tkA rs i) = true ↔ ∃ j, j < rs.length + 1 ∧ (if j = rs.length then c else chA rs j) / 2 = i
    rw [Bool.or_eq_true, decide_eq_true_eq, ih]
    constructor
    · rintro (h | ⟨j, a, b⟩)
      · exact ⟨rs.length, by omega, by rw [if_pos rfl]; exact h⟩
      · exact ⟨j, by omega, by rw [if_neg (by omega)]; exact b⟩
    · rintro ⟨j, a, b⟩
      by_cases h : j = rs.length
      · rw [if_pos h] at b
        exact Or.inl b
      · rw [if_neg h] at b
        exact Or.inr ⟨j, by omega, b⟩
theorem w_isTaken {I : nm_I} {rs : List Nat} (hG : gLs dev ws n rs) (hn12 : n ≤ 12) (hth : thO I rs) (hrn : rs.length ≤ n) {i : Nat} (hi : i < 12) : f_X12_isTaken (zI (i : Nat)) (zI (rs.length : Nat)) I = some (if tkA rs i = true then 1 else 0) := by
  have key : ∀ (f k : Nat) (b : Bool), k ≤ rs.length → rs.length - k < f → (b = true ↔ ∃ j, j < k ∧ chA rs j / 2 = i) → wp (f_X12_isTaken_L5 (zI (i : Nat)) (zI (rs.length : Nat)) I f (if b = true then 1 else 0) (zI (k : Nat))) (fun y => y = if tkA rs i = true then 1 else 0) := by
    intro f
    induction f with
    | zero => intro k b h1 h2; omega
    | succ f ih =>
      intro k b hk hf hb
      rw [f_X12_isTaken_L5]
      simp (disch := omega) only [zI_le]
      refine wp_if (fun h => ?_) (fun h => ?_)
      · have : k = rs.length := by omega
        subst this
        refine wp_r (if_iff ?_)
        rw [hb, tkA_iff]
      have hkl : k < rs.length := by omega
      have q1 : k + 1 ≤ rs.length := hkl
      have q2 : rs.length - (k + 1) < f := by
        clear hb
        omega
      have hc := chA_lt hG k hkl
      unfold f_X12_isTaken_J28 f_X12_isTaken_J33
      have hgo : ∀ b' : Bool, (b' = true ↔ ∃ j, j < k + 1 ∧ chA rs j / 2 = i) → wp (f_X12_isTaken_L5 (zI (i : Nat)) (zI (rs.length : Nat)) I f (if b' = true then 1 else 0) (zI (k : Nat) + 1)) (fun y => y = if tkA rs i = true then 1 else 0) := by
        intro b' hb'
        rw [zI_inc]
        exact ih (k + 1) b' q1 q2 hb'
      refine wp_if (fun h0 => ?_) (fun h0 => ?_)
      · have hbf : b = false := (ite_z b).mp h0
        rw [nm_cz (by omega) (by omega) (by omega), zI_cl (by omega) (by omega), Int.toNat_natCast, hth k hkl, show (2 : Int32) = zI 2 from rfl, zI_div (by omega) (by omega) (by omega) (by omega)]
        simp (disch := omega) only [zI_eq]
        refine wp_if (fun h2 => ?_) (fun h2 => ?_)
        · exact hgo true ⟨fun _ => ⟨k, by omega, by omega⟩, fun _ => rfl⟩
        · refine hgo false ⟨fun h => absurd h (by decide), fun ⟨j, a, e⟩ => ?_⟩
          by_cases hjk : j = k
          · subst hjk
            omega
          · have := hb.mpr ⟨j, by omega, e⟩
            rw [hbf] at this
            exact this
      · have hbt : b = true := by
          cases b with
          | true => rfl
          | false => exact absurd rfl h0
        refine hgo true ⟨fun _ => ?_, fun _ => rfl⟩
        obtain ⟨j, a, e⟩ := hb.mp hbt
        exact ⟨j, by omega, e⟩
  have hk := key nm_F 0 false (by omega) (by rw [nm_F_eq]; omega) ⟨fun h => absurd h (by decide), fun ⟨j, a, _⟩ => absurd a (Nat.not_lt_zero _)⟩
  obtain ⟨y, e, hy⟩ := hk
  unfold f_X12_isTaken
  rw [show f_X12_isTaken_L5 (zI (i : Nat)) (zI (rs.length : Nat)) I nm_F 0 0 = some y from e, nm_s1_some]
  subst hy
  cases tkA rs i
  · exact nm_b0
  · exact nm_b1
/-- tries and pairs alone are others -/
abbrev p7F (I I' : nm_I) : Prop := ∀ m k, m ≠ 75 → m ≠ 76 → ¬ (m = 0 ∧ k = 71) → I' m k = I m k
theorem stO_7 {I I' : nm_I} (h : stO I dev ws n nets) (hf : p7F I I') : stO I' dev ws n nets := by
  obtain ⟨⟨h1, h2⟩, ⟨h3, h4⟩, h5⟩ := h
  refine ⟨⟨(hf _ _ (by omega) (by omega) (by omega)).trans h1, fun i hi => ?_⟩, ⟨(hf _ _ (by omega) (by omega) (by omega)).trans h3, fun d hd => ?_⟩, (hf _ _ (by omega) (by omega) (by omega)).trans h5⟩
  · obtain ⟨a, b, c, e⟩ := h2 i hi
    exact ⟨(hf _ _ (by omega) (by omega) (by omega)).trans a, (hf _ _ (by omega) (by omega) (by omega)).trans b, (hf _ _ (by omega) (by omega) (by omega)).trans c, (hf _ _ (by omega) (by omega) (by omega)).trans e⟩
  · obtain ⟨a, b, c, e⟩ := h4 d hd
    exact ⟨(hf _ _ (by omega) (by omega) (by omega)).trans a, (hf _ _ (by omega) (by omega) (by omega)).trans b, (hf _ _ (by omega) (by omega) (by omega)).trans c, (hf _ _ (by omega) (by omega) (by omega)).trans e⟩
def ncR (dev : dvT) (ws : wsT) (n : Nat) (rs : List Nat) (k t : Nat) (v : Int) (t' : Nat) : Prop :=
  (v = -1 ∧ srK dev ws n rs k t = (0, [], t') ∧ t ≤ t' ∧ t' ≤ 5000) ∨ (v = -9 ∧ srK dev ws n rs k t = (2, [], t') ∧ t' ≤ 5000) ∨ ∃ (c : Nat) (u : Nat), v = (c : Int) ∧ t' = u + 1 ∧ t ≤ u ∧ u < 5000 ∧ c < 2 * n ∧ tkA rs (c / 2) = false ∧ okA dev ws rs c = true ∧ srK dev ws n rs k t = srK dev ws n rs c u
theorem w_nextChoice (hwo : wsok ws n) (hw : whA dev n nets) {rs : List Nat} (hG : gLs dev ws n rs) (hrn : rs.length < n) {I : nm_I} (hst : stO I dev ws n nets) (hth : thO I rs) {k t : Nat} (hk : k ≤ 2 * n) (ht : t ≤ 5000) (h71 : I 0 71 = zI (t : Nat)) :
    wp (f_X12_nextChoice (zI (rs.length : Nat)) (zI (k : Nat)) I) (fun r => ∃ (v : Int) (t' : Nat), r.1 = zI v ∧ r.2 0 71 = zI (t' : Nat) ∧ p7F I r.2 ∧ ncR dev ws n rs k t v t') := by
  have hn12 := hwo.1
  have key : ∀ (f j u : Nat) (S : nm_I), j ≤ 2 * n → 2 * n - j < f → t ≤ u → u ≤ 5000 → S 0 71 = zI (u : Nat) → p7F I S → srK dev ws n rs k t = srK dev ws n rs j u → wp (f_X12_nextChoice_L2 (zI (rs.length : Nat)) (fun (I13 : nm_I) => some ((-1 : Int32), I13)) f (zI (j : Nat)) S) (fun r => ∃ (v : Int) (t' : Nat), r.1 = zI v ∧ r.2 0 71 = zI (t' : Nat) ∧ p7F I r.2 ∧ ncR dev ws n rs k t v t') := by
    intro f
    induction f with
    | zero => intro j u S h1 h2; omega
    | succ f ih =>
      intro j u S hj hf htu hu h7 hF he
      have hstS := stO_7 hst hF
      have hthS : thO S rs := fun i hi => (hF _ _ (by omega) (by omega) (by omega)).trans (hth i hi)
      rw [f_X12_nextChoice_L2, hstS.1.1, show (2 : Int32) = zI 2 from rfl, zI_mul]
      simp (disch := omega) only [zI_le]
      refine wp_if (fun h => ?_) (fun h => ?_)
      · refine wp_r ⟨-1, u, rfl, h7, hF, Or.inl ⟨rfl, ?_, htu, hu⟩⟩
        rw [he]
        exact srK_end (by omega)
      have hj2 : j < 2 * n := by omega
      rw [zI_div (by omega) (by omega) (by omega) (by omega), show ((j : Nat) : Int) / 2 = ((j / 2 : Nat) : Int) by omega, w_isTaken hG hn12 hthS (by omega) (by omega), nm_s1_some, h7]
      have hnext : ∀ (u' : Nat) (S' : nm_I), t ≤ u' → u' ≤ 5000 → S' 0 71 = zI (u' : Nat) → p7F I S' → srK dev ws n rs k t = srK dev ws n rs (j + 1) u' → wp (f_X12_nextChoice_J60 (zI (j : Nat)) S' (f_X12_nextChoice_L2 (zI (rs.length : Nat)) (fun (I13 : nm_I) => some ((-1 : Int32), I13)) f) (fun (I13 : nm_I) => some ((-1 : Int32), I13))) (fun r => ∃ (v : Int) (t' : Nat), r.1 = zI v ∧ r.2 0 71 = zI (t' : Nat) ∧ p7F I r.2 ∧ ncR dev ws n rs k t v t') := by
        intro u' S' a b c d e
        unfold f_X12_nextChoice_J60
        rw [zI_inc]
        exact ih (j + 1) u' S' (by omega) (by omega) a b c d e
      have hstep := srK_step (dev := dev) (ws := ws) (rs := rs) (t := u) hj2
      cases htk : tkA rs (j / 2) with
      | true =>
        rw [htk, if_pos rfl] at hstep
        rw [if_neg (show ¬ (if true = true then (1 : Int32) else 0) = 0 by decide)]
        exact hnext u S htu hu h7 hF (he.trans hstep)
      | false =>
        rw [htk, if_neg (by decide)] at hstep
        rw [if_pos (show (if false = true then (1 : Int32) else 0) = 0 from rfl), show (5000 : Int32) = zI 5000 from rfl]
        simp (disch := omega) only [zI_eq]
        refine wp_if (fun h5 => ?_) (fun h5 => ?_)
        · rw [if_pos (by omega)] at hstep
          exact wp_r ⟨-9, u, rfl, h7, hF, Or.inr (Or.inl ⟨rfl, he.trans hstep, hu⟩)⟩
        · rw [if_neg (by omega)] at hstep
          rw [nm_l_eq, zI_inc]
          obtain ⟨S1, hS1⟩ : ∃ S1, S1 = nm_up S 0 71 (zI (((u : Nat) : Int) + 1)) := ⟨_, rfl⟩
          rw [← hS1]
          have s1 : ∀ m q, ¬ (m = 0 ∧ q = 71) → S1 m q = S m q := fun m q h => by rw [hS1, nm_up_ap, if_neg h]
          have s2 : S1 0 71 = zI ((u + 1 : Nat) : Int) := by
            rw [hS1, nm_up_ap, if_pos ⟨rfl, rfl⟩]
            rfl
          clear hS1
          have hF1 : p7F I S1 := fun m q a b c => (s1 m q c).trans (hF m q a b c)
          have hth1 : thO S1 rs := fun i hi => (s1 _ _ (by omega)).trans (hthS i hi)
          refine wp_s2 _ (w_goes hwo hw (stO_7 hst hF1) hG hth1 hrn hj2) ?_
          rintro r1 S2 ⟨a1, a2⟩
          have a1' : r1 = if okA dev ws rs j = true then 1 else 0 := a1
          have hF2 : p7F I S2 := fun m q a b c => (a2 m q a b).trans (hF1 m q a b c)
          have s22 : S2 0 71 = zI ((u + 1 : Nat) : Int) := (a2 _ _ (by omega) (by omega)).trans s2
          cases hok : okA dev ws rs j with
          | true =>
            rw [hok, if_pos rfl] at a1'
            rw [if_neg (by rw [a1']; decide)]
            exact wp_r ⟨j, u + 1, rfl, s22, hF2, Or.inr (Or.inr ⟨j, u, rfl, rfl, htu, by omega, hj2, htk, hok, he⟩)⟩
          | false =>
            rw [hok, if_neg (by decide)] at a1'
            rw [hok, if_neg (show ¬ false = true by decide)] at hstep
            rw [if_pos a1']
            exact hnext (u + 1) S2 (by omega) (by omega) s22 hF2 (he.trans hstep)
  unfold f_X12_nextChoice
  rw [nm_l_eq]
  exact key nm_F k t I hk (by rw [nm_F_eq]; omega) (Nat.le_refl _) ht h71 (fun _ _ _ _ _ => rfl) rfl
end
