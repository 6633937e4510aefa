/-! THE WISH, by the reference: pairs -/
def ijA (pf : Nat → Int) : Prop := ∀ i j, i < 24 → j < 24 → pf i = pf j → pf i ≠ -1 → i = j
def pR (I : nm_I) (pf : Nat → Int) (nets : Nat) : Prop := (∀ w, w < 24 → I 76 w = zI (pf w)) ∧ (∀ z : Nat, z < nets → (∃ w : Nat, w < 24 ∧ pf w = (z : Int) ∧ I 75 z = zI (w : Nat)) ∨ ((∀ w, w < 24 → pf w ≠ (z : Int)) ∧ I 75 z = zI (-1))) ∧ ijA pf ∧ prg pf
abbrev p5F (I I' : nm_I) : Prop := ∀ m k, m ≠ 75 → m ≠ 76 → I' m k = I m k
theorem ijA_b2 {pf : Nat → Int} (h : ijA pf) {w : Nat} {z : Int} : ijA (b2q w z pf) := by
  intro i j hi hj he hne
  cases hb : b1q w z pf with
  | false =>
    rw [b2q_no hb] at he hne
    exact h i j hi hj he hne
  | true =>
    rcases b1q_t.mp hb with h1 | ⟨h1, h2⟩
    · rw [b2q_id h1] at he hne
      exact h i j hi hj he hne
    · unfold b2q at he hne
      by_cases hiw : i = w
      · by_cases hjw : j = w
        · omega
        · rw [if_pos ⟨hb, hiw⟩, if_neg (fun q => hjw q.2)] at he
          exact absurd he.symm (h2 j hj)
      · by_cases hjw : j = w
        · rw [if_neg (fun q => hiw q.2), if_pos ⟨hb, hjw⟩] at he
          exact absurd he (h2 i hi)
        · rw [if_neg (fun q => hiw q.2), if_neg (fun q => hjw q.2)] at he
          rw [if_neg (fun q => hiw q.2)] at hne
          exact h i j hi hj he hne
theorem w_pairO {I : nm_I} {pf : Nat → Int} {nets : Nat} (hp : pR I pf nets) (hn : nets ≤ 65536) {w : Nat} (hw : w < 24) {z : Int} (h0 : 0 ≤ z) (h1 : z < nets) :
    wp (f_X12_pair (zI z) (zI (w : Nat)) I) (fun r => pR r.2 (b2q w z pf) nets ∧ (r.1 = if b1q w z pf = true then 1 else 0) ∧ p5F I r.2) := by
  obtain ⟨p1, p2, p3, p4⟩ := hp
  obtain ⟨zn, rfl⟩ := Int.eq_ofNat_of_zero_le h0
  have hpw := p4 w hw
  have hid : b1q w ((zn : Nat) : Int) pf = true → pf w = ((zn : Nat) : Int) → wp (some ((1 : Int32), I)) (fun r => pR r.2 (b2q w ((zn : Nat) : Int) pf) nets ∧ (r.1 = if b1q w ((zn : Nat) : Int) pf = true then 1 else 0) ∧ p5F I r.2) := by
    intro a b
    rw [b2q_id b, if_pos a]
    exact wp_r ⟨⟨p1, p2, p3, p4⟩, rfl, fun _ _ _ _ => rfl⟩
  have hno : b1q w ((zn : Nat) : Int) pf = false → wp (some ((0 : Int32), I)) (fun r => pR r.2 (b2q w ((zn : Nat) : Int) pf) nets ∧ (r.1 = if b1q w ((zn : Nat) : Int) pf = true then 1 else 0) ∧ p5F I r.2) := by
    intro a
    rw [b2q_no a, a, if_neg (by decide)]
    exact wp_r ⟨⟨p1, p2, p3, p4⟩, rfl, fun _ _ _ _ => rfl⟩
  unfold f_X12_pair f_X12_pair_J18
  simp (disch := omega) only [nm_cz, zI_cl]
  rw [Int.toNat_natCast, Int.toNat_natCast, p1 w hw]
  rcases p2 zn (by omega) with ⟨v, v1, v2, v3⟩ | ⟨v1, v3⟩
  · rw [v3, zI_0]
    simp (disch := omega) only [zI_le, zI_lt, zI_eq]
    rw [if_pos (by omega)]
    by_cases hvw : ((v : Nat) : Int) = ((w : Nat) : Int)
    · have : v = w := by omega
      subst this
      rw [if_pos hvw, if_pos v2]
      have := hid (b1q_t.mpr (Or.inl v2)) v2
      exact this
    · rw [if_neg hvw]
      have hf : b1q w ((zn : Nat) : Int) pf = false := b1q_f.mpr (fun h => by
        rcases h with h | ⟨_, h⟩
        · have := p3 v w v1 hw (by rw [v2, h]) (by rw [v2]; omega)
          omega
        · exact h v v1 v2)
      have := hno hf
      exact this
  · rw [v3, zI_0]
    simp (disch := omega) only [zI_le, zI_lt, zI_eq]
    rw [if_neg (by omega)]
    by_cases hlt : pf w < 0
    · have hm : pf w = -1 := by omega
      have hb : b1q w ((zn : Nat) : Int) pf = true := b1q_t.mpr (Or.inr ⟨hm, v1⟩)
      rw [if_pos hlt, nm_l_eq, nm_l_eq, if_pos hb]
      obtain ⟨B, hB⟩ : ∃ B, B = nm_up (nm_up I 75 zn (zI (w : Nat))) 76 w (zI ((zn : Nat) : Int)) := ⟨_, rfl⟩
      rw [← hB]
      have c1 : ∀ m k, ¬ (m = 75 ∧ k = zn) → ¬ (m = 76 ∧ k = w) → B m k = I m k := fun m k a b => by rw [hB, nm_up_ap, if_neg b, nm_up_ap, if_neg a]
      have c2 : B 75 zn = zI (w : Nat) := by rw [hB, nm_up_ap, if_neg (by omega), nm_up_ap, if_pos ⟨rfl, rfl⟩]
      have c3 : B 76 w = zI ((zn : Nat) : Int) := by rw [hB, nm_up_ap, if_pos ⟨rfl, rfl⟩]
      clear hB
      refine wp_r ⟨⟨fun i hi => ?_, fun z' hz' => ?_, ijA_b2 p3, prg_b2 p4 (by omega) (by omega)⟩, rfl, fun m k a b => c1 m k (by omega) (by omega)⟩
      · show B 76 i = _
        unfold b2q
        by_cases hiw : i = w
        · subst hiw
          rw [if_pos ⟨hb, rfl⟩]
          exact c3
        · rw [if_neg (fun h => hiw h.2), c1 _ _ (by omega) (by omega)]
          exact p1 i hi
      · show (∃ w', w' < 24 ∧ _ ∧ B 75 z' = _) ∨ (_ ∧ B 75 z' = _)
        by_cases hzz : z' = zn
        · subst hzz
          refine Or.inl ⟨w, hw, ?_, c2⟩
          unfold b2q
          rw [if_pos ⟨hb, rfl⟩]
        · rw [c1 _ _ (by omega) (by omega)]
          rcases p2 z' hz' with ⟨v, a1, a2, a3⟩ | ⟨a1, a3⟩
          · refine Or.inl ⟨v, a1, ?_, a3⟩
            unfold b2q
            rw [if_neg]
            · exact a2
            · rintro ⟨_, h⟩
              rw [h] at a2
              omega
          · refine Or.inr ⟨fun i hi => ?_, a3⟩
            unfold b2q
            by_cases hiw : i = w
            · rw [if_pos ⟨hb, hiw⟩]
              omega
            · rw [if_neg (fun h => hiw h.2)]
              exact a1 i hi
    · rw [if_neg hlt, if_neg (by omega)]
      have hf : b1q w ((zn : Nat) : Int) pf = false := b1q_f.mpr (fun h => by
        rcases h with h | ⟨h, _⟩
        · exact v1 w hw h
        · omega)
      have := hno hf
      exact this
theorem tl_s : ∀ (rs : List Nat) (e : Nat), e < rs.length → rs.drop (rs.length - (e + 1)) = chA rs e :: rs.drop (rs.length - e) := by
  intro rs
  induction rs with
  | nil => intro e he; exact absurd he (Nat.not_lt_zero _)
  | cons c rs ih =>
    intro e he
    have he' : e < rs.length + 1 := he
    show List.drop (rs.length + 1 - (e + 1)) (c :: rs) = (if e = rs.length then c else chA rs e) :: List.drop (rs.length + 1 - e) (c :: rs)
    by_cases h : e = rs.length
    · subst h
      rw [if_pos rfl, show rs.length + 1 - (rs.length + 1) = 0 by omega, show rs.length + 1 - rs.length = 0 + 1 by omega]
      rfl
    · rw [if_neg h, show rs.length + 1 - (e + 1) = (rs.length - (e + 1)) + 1 by omega, show rs.length + 1 - e = (rs.length - e) + 1 by omega]
      exact ih e (by omega)
theorem tl_len (rs : List Nat) {e : Nat} (h : e ≤ rs.length) : (rs.drop (rs.length - e)).length = e := by
  rw [List.length_drop]
  omega
def wsO (I : nm_I) (ws : wsT) (n : Nat) : Prop := I 0 70 = zI (n : Nat) ∧ ∀ i, i < n → I 67 i = zI (((ws i).1 : Nat) : Int) ∧ I 68 i = zI (((ws i).2.1 : Nat) : Int) ∧ I 69 i = zI (((ws i).2.2.1 : Nat) : Int) ∧ I 70 i = zI (((ws i).2.2.2 : Nat) : Int)
def thO (I : nm_I) (rs : List Nat) : Prop := ∀ j, j < rs.length → I 74 j = zI ((chA rs j : Nat) : Int)
section
variable {dev : dvT} {ws : wsT} {n nets : Nat}
/-- what the pairing goes by -/
def stO (I : nm_I) (dev : dvT) (ws : wsT) (n nets : Nat) : Prop := wsO I ws n ∧ dvO I n dev ∧ I 0 57 = zI (nets : Nat)
theorem stO_fr {I I' : nm_I} (h : stO I dev ws n nets) (hf : p5F I I') : stO I' dev ws n nets := by
  obtain ⟨⟨h1, h2⟩, ⟨h3, h4⟩, h5⟩ := h
  refine ⟨⟨(hf _ _ (by omega) (by omega)).trans h1, fun i hi => ?_⟩, ⟨(hf _ _ (by omega) (by omega)).trans h3, fun d hd => ?_⟩, (hf _ _ (by omega) (by omega)).trans h5⟩
  · obtain ⟨a, b, c, e⟩ := h2 i hi
    exact ⟨(hf _ _ (by omega) (by omega)).trans a, (hf _ _ (by omega) (by omega)).trans b, (hf _ _ (by omega) (by omega)).trans c, (hf _ _ (by omega) (by omega)).trans e⟩
  · obtain ⟨a, b, c, e⟩ := h4 d hd
    exact ⟨(hf _ _ (by omega) (by omega)).trans a, (hf _ _ (by omega) (by omega)).trans b, (hf _ _ (by omega) (by omega)).trans c, (hf _ _ (by omega) (by omega)).trans e⟩
set_option maxHeartbeats 1000000 in
theorem w_pairsUpTo (hwo : wsok ws n) (hw : whA dev n nets) {I : nm_I} (hst : stO I dev ws n nets) {rs : List Nat} (hG : gLs dev ws n rs) (hth : thO I rs) (hrn : rs.length ≤ n) :
    wp (f_X12_pairsUpTo (zI (rs.length : Nat)) I) (fun I' => pR I' (pfA dev ws rs) nets ∧ p5F I I') := by
  have hn12 := hwo.1
  have hnt := hw.1
  unfold f_X12_pairsUpTo
  refine wp_s1 (fun I1 => (∀ z, z < nets → I1 75 z = zI (-1)) ∧ p5F I I1) ?_ ?_
  · have key : ∀ (f k : Nat) (S : nm_I), k ≤ nets → nets - k < f → (∀ q, q < k → S 75 q = zI (-1)) → p5F I S → wp (f_X12_pairsUpTo_L2 f (zI (k : Nat)) S) (fun I1 => (∀ z, z < nets → I1 75 z = zI (-1)) ∧ p5F I I1) := by
      intro f
      induction f with
      | zero => intro k S h1 h2; omega
      | succ f ih =>
        intro k S hk hf hI hF
        rw [f_X12_pairsUpTo_L2, hF 0 57 (by omega) (by omega), hst.2.2, show (-1 : Int32) = zI (-1) from rfl]
        simp (disch := omega) only [zI_le]
        refine wp_if (fun h => ?_) (fun h => ?_)
        · have : k = nets := by omega
          subst this
          exact wp_r ⟨hI, hF⟩
        rw [nm_cz (by omega) (by omega) (by omega), zI_cl (by omega) (by omega), Int.toNat_natCast, nm_l_eq, zI_inc]
        refine ih (k + 1) _ (by omega) (by omega) (fun q hq => ?_) (fun m j a b => ?_)
        · rw [nm_up_ap]
          by_cases hqk : q = k
          · rw [if_pos ⟨rfl, hqk⟩]
          · rw [if_neg (fun h => hqk h.2)]
            exact hI q (by omega)
        · rw [nm_up_ap, if_neg (by omega)]
          exact hF m j a b
    rw [zI_0]
    exact key nm_F 0 I (by omega) (by rw [nm_F_eq]; omega) (fun q hq => absurd hq (Nat.not_lt_zero _)) (fun _ _ _ _ => rfl)
  rintro I1 ⟨a1, a2⟩
  refine wp_s1 (fun I2 => pR I2 (fun _ => -1) nets ∧ p5F I I2) ?_ ?_
  · have key : ∀ (f k : Nat) (S : nm_I), k ≤ 24 → 24 - k < f → (∀ q, q < k → S 76 q = zI (-1)) → (∀ m j, m ≠ 76 → S m j = I1 m j) → wp (f_X12_pairsUpTo_L25 f (zI (k : Nat)) S) (fun I2 => pR I2 (fun _ => -1) nets ∧ p5F I I2) := by
      intro f
      induction f with
      | zero => intro k S h1 h2; omega
      | succ f ih =>
        intro k S hk hf hI hF
        rw [f_X12_pairsUpTo_L25, show (24 : Int32) = zI 24 from rfl, show (-1 : Int32) = zI (-1) from rfl]
        simp (disch := omega) only [zI_le]
        refine wp_if (fun h => ?_) (fun h => ?_)
        · have : k = 24 := by omega
          subst this
          refine wp_r ⟨⟨hI, fun z hz => Or.inr ⟨fun w _ => show (-1 : Int) ≠ (z : Int) by omega, (hF _ _ (by omega)).trans (a1 z hz)⟩, fun i j _ _ _ h => absurd rfl h, fun i _ => ⟨show (-1 : Int) ≤ -1 by decide, show (-1 : Int) < 65536 by decide⟩⟩, fun m j a b => (hF m j b).trans (a2 m j a b)⟩
        rw [nm_cz (by omega) (by omega) (by omega), zI_cl (by omega) (by omega), Int.toNat_natCast, nm_l_eq, zI_inc]
        refine ih (k + 1) _ (by omega) (by omega) (fun q hq => ?_) (fun m j a => ?_)
        · rw [nm_up_ap]
          by_cases hqk : q = k
          · rw [if_pos ⟨rfl, hqk⟩]
          · rw [if_neg (fun h => hqk h.2)]
            exact hI q (by omega)
        · rw [nm_up_ap, if_neg (by omega)]
          exact hF m j a
    rw [zI_0]
    exact key nm_F 0 I1 (by omega) (by rw [nm_F_eq]; omega) (fun q hq => absurd hq (Nat.not_lt_zero _)) (fun _ _ _ => rfl)
  rintro I2 ⟨b1, b2⟩
  have key : ∀ (f e : Nat) (S : nm_I), e ≤ rs.length → rs.length - e < f → pR S (pfA dev ws (rs.drop (rs.length - e))) nets → p5F I S → wp (f_X12_pairsUpTo_L46 (zI (rs.length : Nat)) f (zI (e : Nat)) S) (fun I' => pR I' (pfA dev ws rs) nets ∧ p5F I I') := by
    intro f
    induction f with
    | zero => intro e S h1 h2; omega
    | succ f ih =>
      intro e S he hf hI hF
      rw [f_X12_pairsUpTo_L46]
      simp (disch := omega) only [zI_le]
      refine wp_if (fun h => ?_) (fun h => ?_)
      · have : e = rs.length := by omega
        subst this
        rw [Nat.sub_self, List.drop_zero] at hI
        exact wp_r ⟨hI, hF⟩
      have hel : e < rs.length := by omega
      have hc := chA_lt hG e hel
      have hts := tl_s rs e hel
      obtain ⟨c, hcd⟩ : ∃ c, c = chA rs e := ⟨_, rfl⟩
      rw [← hcd] at hc hts
      have hlen := tl_len rs (e := e) (by omega)
      obtain ⟨g0, ⟨g1, g1'⟩, ⟨g2, g2'⟩, g3, g3'⟩ := hw.2 e (by omega)
      obtain ⟨l1, l2, l3⟩ := wA_lt hwo hc
      have hst' := fun (S : nm_I) (hF : p5F I S) => stO_fr hst hF
      have h74 : S 74 e = zI (c : Nat) := by
        rw [hF _ _ (by omega) (by omega), hcd]
        exact hth e hel
      rw [nm_cz (by omega) (by omega) (by omega), zI_cl (by omega) (by omega), Int.toNat_natCast, h74, nm_l_eq, nm_cz (by omega) (by omega) (by omega), show (2 : Int32) = zI 2 from rfl, md (by omega) (by omega) (by omega) (by omega), zI_div (by omega) (by omega) (by omega) (by omega), show ((c : Nat) : Int) / 2 = ((c / 2 : Nat) : Int) by omega, show ((c : Nat) : Int) % 2 = ((c % 2 : Nat) : Int) by omega]
      have h77 : wp (f_X12_pairsUpTo_J77 (zI (e : Nat)) (zI ((c / 2 : Nat) : Int)) (zI ((c % 2 : Nat) : Int)) S (f_X12_pairsUpTo_L46 (zI (rs.length : Nat)) f)) (fun I' => pR I' (pfA dev ws rs) nets ∧ p5F I I') := by
        have hwsS := (hst' S hF).1.2 (c / 2) (by omega)
        have hdvS := (hst' S hF).2.1.2 e (by omega)
        unfold f_X12_pairsUpTo_J77
        rw [nm_cz (by omega) (by omega) (by omega), nm_cz (by omega) (by omega) (by omega), zI_cl (by omega) (by omega), zI_cl (by omega) (by omega), Int.toNat_natCast, Int.toNat_natCast, hwsS.1, hdvS.2.1]
        refine wp_s2 _ (w_pairO hI hnt (w := (ws (c / 2)).1) l1 (z := (dev e).2.1) g1 g1') ?_
        rintro r1 S1 ⟨x1, -, x2⟩
        have hF1 : p5F I S1 := fun m k a b => (x2 m k a b).trans (hF m k a b)
        have hws1 := (hst' S1 hF1).1.2 (c / 2) (by omega)
        have hdv1 := (hst' S1 hF1).2.1.2 e (by omega)
        have h123 : wp (f_X12_pairsUpTo_J123 (zI (e : Nat)) (zI ((c / 2 : Nat) : Int)) (zI ((c % 2 : Nat) : Int)) (zI (((wA ws c).2.1 : Nat) : Int)) (zI (dev e).2.2.1) S1 (f_X12_pairsUpTo_L46 (zI (rs.length : Nat)) f)) (fun I' => pR I' (pfA dev ws rs) nets ∧ p5F I I') := by
          unfold f_X12_pairsUpTo_J123
          refine wp_s2 _ (w_pairO x1 hnt (w := (wA ws c).2.1) l2 (z := (dev e).2.2.1) g2 g2') ?_
          rintro r2 S2 ⟨y1, -, y2⟩
          have hF2 : p5F I S2 := fun m k a b => (y2 m k a b).trans (hF1 m k a b)
          have hws2 := (hst' S2 hF2).1.2 (c / 2) (by omega)
          have hdv2 := (hst' S2 hF2).2.1.2 e (by omega)
          have h154 : wp (f_X12_pairsUpTo_J154 (zI (e : Nat)) (zI (((wA ws c).2.2 : Nat) : Int)) (zI (dev e).2.2.2) S2 (f_X12_pairsUpTo_L46 (zI (rs.length : Nat)) f)) (fun I' => pR I' (pfA dev ws rs) nets ∧ p5F I I') := by
            unfold f_X12_pairsUpTo_J154
            refine wp_s2 _ (w_pairO y1 hnt (w := (wA ws c).2.2) l3 (z := (dev e).2.2.2) g3 g3') ?_
            rintro r3 S3 ⟨z1, -, z2⟩
            rw [zI_inc]
            refine ih (e + 1) S3 (by omega) (by omega) ?_ (fun m k a b => (z2 m k a b).trans (hF2 m k a b))
            rw [hts]
            show pR S3 (p3q dev ws (rs.drop (rs.length - e)).length c (pfA dev ws (rs.drop (rs.length - e)))) nets
            rw [hlen]
            exact z1
          rw [nm_cz (by omega) (by omega) (by omega), nm_cz (by omega) (by omega) (by omega), nm_cz (by omega) (by omega) (by omega), zI_cl (by omega) (by omega), zI_cl (by omega) (by omega), Int.toNat_natCast, Int.toNat_natCast, hdv2.2.2.2, hws2.2.1, hws2.2.2.1]
          by_cases h2 : c % 2 = 1
          · rw [if_neg (by rw [h2]; decide)]
            rw [show (wA ws c).2.2 = (ws (c / 2)).2.1 by simp [wA, h2]] at h154
            exact h154
          · rw [if_pos (by rw [show c % 2 = 0 by omega]; rfl)]
            rw [show (wA ws c).2.2 = (ws (c / 2)).2.2.1 by simp [wA, h2]] at h154
            exact h154
        rw [nm_cz (by omega) (by omega) (by omega), nm_cz (by omega) (by omega) (by omega), nm_cz (by omega) (by omega) (by omega), hdv1.2.2.1, hws1.2.1, hws1.2.2.1]
        by_cases h2 : c % 2 = 1
        · rw [if_neg (by rw [h2]; decide)]
          rw [show (wA ws c).2.1 = (ws (c / 2)).2.2.1 by simp [wA, h2]] at h123
          exact h123
        · rw [if_pos (by rw [show c % 2 = 0 by omega]; rfl)]
          rw [show (wA ws c).2.1 = (ws (c / 2)).2.1 by simp [wA, h2]] at h123
          exact h123
      refine wp_if (fun h5 => ?_) (fun h5 => ?_)
      · rw [h5] at h77
        exact h77
      · have h50 : c % 2 = 0 := by
          by_cases hh : c % 2 = 1
          · rw [hh] at h5
            exact absurd rfl h5
          · omega
        rw [h50] at h77
        exact h77
  rw [zI_0]
  refine wp_s1 _ (key nm_F 0 I2 (by omega) (by rw [nm_F_eq]; omega) ?_ b2) (fun _ h => wp_r h)
  rw [Nat.sub_zero, List.drop_length]
  exact b1
end
