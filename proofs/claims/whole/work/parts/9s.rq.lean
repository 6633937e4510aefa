/-! THE WISH, by the program: fit, search -/
section
variable {N : Nat → Nat} {dev : dvT} {ws : wsT} {n nets : Nat}
theorem wA_lt (hw : wsok ws n) {c : Nat} (hc : c < 2 * n) : (wA ws c).1 < 24 ∧ (wA ws c).2.1 < 24 ∧ (wA ws c).2.2 < 24 := by
  obtain ⟨a, b, e, _⟩ := hw.2 (c / 2) (by omega)
  unfold wA
  by_cases h : c % 2 = 1
  · simp only [if_pos h]
    exact ⟨a, e, b⟩
  · simp only [if_neg h]
    exact ⟨a, b, e⟩
theorem prg_3 (hw : whA dev n nets) {d : Nat} (hd : d < n) {c : Nat} {pf : Nat → Int} (h : prg pf) : prg (p1q dev ws d c pf) ∧ prg (p2q dev ws d c pf) ∧ prg (p3q dev ws d c pf) := by
  obtain ⟨h0, hh⟩ := hw
  obtain ⟨_, a, b, e⟩ := hh d hd
  have h1 : prg (p1q dev ws d c pf) := prg_b2 h (by omega) (by omega)
  have h2 : prg (p2q dev ws d c pf) := prg_b2 h1 (by omega) (by omega)
  exact ⟨h1, h2, prg_b2 h2 (by omega) (by omega)⟩
set_option maxHeartbeats 1000000 in
theorem w_fit (hwo : wsok ws n) (hw : whA dev n nets) {M : cm} (hst : stX N M dev ws n) {d c : Nat} (hd : d < n) (hc : c < 2 * n) {pf : Nat → Int} (hP : pfX M pf) (hr : prg pf) :
    wp (f_X10_fit N (zI (d : Nat)) (zI ((c / 2 : Nat) : Int)) (zI ((c % 2 : Nat) : Int)) M) (fun r => (okW dev ws d c pf → MBq r.1 pf (p3q dev ws d c pf) ∧ pfX r.2 (p3q dev ws d c pf)) ∧ (¬ okW dev ws d c pf → r.1 = -1 ∧ pfX r.2 pf) ∧ p4F M r.2) := by
  have hn12 := hwo.1
  obtain ⟨g1, g2, g3, g4⟩ := hwo.2 (c / 2) (by omega)
  obtain ⟨l1, l2, l3⟩ := wA_lt hwo hc
  obtain ⟨q1, q2, q3⟩ := prg_3 hw hd (ws := ws) (c := c) hr
  have hnt := hw.1
  obtain ⟨e0, ⟨e1, e1'⟩, ⟨e2, e2'⟩, e3, e3'⟩ := hw.2 d hd
  obtain ⟨⟨hs0, hs⟩, hde⟩ := hst
  obtain ⟨s1, s2⟩ := hs (c / 2) (by omega)
  obtain ⟨o0, o1, o2, o3⟩ := w_ofDev hde (by omega) hd
  have hde' : ∀ M' : cm, p4F M M' → deX N M' dev n := fun M' h => ⟨hde.1, fun d hd => by
    obtain ⟨a, b, c, e⟩ := hde.2 d hd
    exact ⟨(h.2 _ _ (by omega)).trans a, (h.2 _ _ (by omega)).trans b, (h.2 _ _ (by omega)).trans c, (h.2 _ _ (by omega)).trans e⟩⟩
  -- a fresh set that is dead stays so
  have hrest : szA dev ws d c → wp (f_X10_fit_J26 N (zI (d : Nat)) (zI ((c / 2 : Nat) : Int)) (zI ((c % 2 : Nat) : Int)) M) (fun r => (okW dev ws d c pf → MBq r.1 pf (p3q dev ws d c pf) ∧ pfX r.2 (p3q dev ws d c pf)) ∧ (¬ okW dev ws d c pf → r.1 = -1 ∧ pfX r.2 pf) ∧ p4F M r.2) := by
    intro hsz
    unfold f_X10_fit_J26
    obtain ⟨A, hA⟩ : ∃ A : Nat, A = 576 * (ws (c / 2)).1 + 24 * (ws (c / 2)).2.1 + (ws (c / 2)).2.2.1 := ⟨_, rfl⟩
    rw [← hA] at s1
    have a1 : zI (A : Nat) / (576 : Int32) = zI (((ws (c / 2)).1 : Nat) : Int) := by
      rw [show (576 : Int32) = zI 576 from rfl, zI_div (by omega) (by omega) (by omega) (by omega)]
      exact congrArg zI (by omega)
    have a2 : zI (A : Nat) / (24 : Int32) - zI (A : Nat) / (24 : Int32) / (24 : Int32) * (24 : Int32) = zI (((ws (c / 2)).2.1 : Nat) : Int) := by
      rw [show (24 : Int32) = zI 24 from rfl, zI_div (by omega) (by omega) (by omega) (by omega), md (by omega) (by omega) (by omega) (by omega)]
      exact congrArg zI (by omega)
    have a3 : zI (A : Nat) - zI (A : Nat) / (24 : Int32) * (24 : Int32) = zI (((ws (c / 2)).2.2.1 : Nat) : Int) := by
      rw [show (24 : Int32) = zI 24 from rfl, md (by omega) (by omega) (by omega) (by omega)]
      exact congrArg zI (by omega)
    rw [nm_cz (by omega) (by omega) (by omega), zI_cl (by omega) (by omega), Int.toNat_natCast, s1, nm_l_eq, nm_cz (by omega) (by omega) (by omega), nm_l_eq, nm_cz (by omega) (by omega) (by omega), o1, nm_s1_some, a1, a2, a3]
    have hm0 : MBq (0 : Int32) pf pf := ⟨fun i _ _ => bi_z i, fun i _ => ⟨fun h => by rw [bi_z] at h; exact absurd h (by decide), fun _ => rfl⟩⟩
    refine wp_s2 _ (w_bind hm0 hP hr (w := (ws (c / 2)).1) g1 (z := (dev d).2.1) e1 (by omega)) ?_
    rintro m1 M1 ⟨y1, y2, y3'⟩
    have y3 : p4F M M1 := y3'
    -- the second half, either way round
    have h87 : ∀ u v : Nat, u < 24 → v < 24 → (wA ws c).2.1 = u → (wA ws c).2.2 = v → ∀ (K : Int32 → cm → Option (Int32 × cm)), (∀ m M', K m M' = nm_s1 (f_X2_ofDevice N (zI (d : Nat)) (3 : Int32) M') fun r18 => nm_s2 (f_X10_bind (zI (v : Nat)) r18 m M') fun r22 M20 => some (r22, M20)) → wp (nm_s1 (f_X2_ofDevice N (zI (d : Nat)) (2 : Int32) M1) fun r12 => nm_s2 (f_X10_bind (zI (u : Nat)) r12 m1 M1) fun r16 M14 => K r16 M14) (fun r => (okW dev ws d c pf → MBq r.1 pf (p3q dev ws d c pf) ∧ pfX r.2 (p3q dev ws d c pf)) ∧ (¬ okW dev ws d c pf → r.1 = -1 ∧ pfX r.2 pf) ∧ p4F M r.2) := by
      intro u v hu hv eu ev K hK
      have oM1 := (w_ofDev (hde' M1 y3) (by omega) hd).2.2.1
      rw [oM1, nm_s1_some]
      -- dead before the last
      have hdead : ∀ M2, ¬ okW dev ws d c pf → pfX M2 pf → p4F M M2 → wp (K (-1) M2) (fun r => (okW dev ws d c pf → MBq r.1 pf (p3q dev ws d c pf) ∧ pfX r.2 (p3q dev ws d c pf)) ∧ (¬ okW dev ws d c pf → r.1 = -1 ∧ pfX r.2 pf) ∧ p4F M r.2) := by
        intro M2 ho hp hf
        rw [hK, (w_ofDev (hde' M2 hf) (by omega) hd).2.2.2, nm_s1_some, w_bindD, nm_s2_some]
        exact wp_r ⟨fun h => absurd h ho, fun _ => ⟨rfl, hp⟩, hf⟩
      cases hb1 : b1q (ws (c / 2)).1 (dev d).2.1 pf with
      | false =>
        obtain ⟨z1, z2⟩ := y2 hb1
        have z1' : m1 = -1 := z1
        rw [z1', w_bindD, nm_s2_some]
        refine hdead M1 (fun h => ?_) z2 y3
        have := h.2.1
        rw [show (wA ws c).1 = (ws (c / 2)).1 from rfl, hb1] at this
        exact absurd this (by decide)
      | true =>
        obtain ⟨z1, z2⟩ := y1 hb1
        refine wp_s2 _ (w_bind (pf := p1q dev ws d c pf) z1 z2 q1 (w := u) hu (z := (dev d).2.2.1) e2 (by omega)) ?_
        rintro m2 M2 ⟨x1, x2, x3⟩
        have hf2 : p4F M M2 := p4F_tr y3 x3
        cases hb2 : b1q u (dev d).2.2.1 (p1q dev ws d c pf) with
        | false =>
          obtain ⟨z3, z4⟩ := x2 hb2
          have z3' : m2 = -1 := z3
          rw [z3']
          refine hdead M2 (fun h => ?_) z4 hf2
          have := h.2.2.1
          rw [eu, hb2] at this
          exact absurd this (by decide)
        | true =>
          obtain ⟨z3, z4⟩ := x1 hb2
          have ep2 : b2q u (dev d).2.2.1 (p1q dev ws d c pf) = p2q dev ws d c pf := by
            unfold p2q
            rw [eu]
          rw [ep2] at z3 z4
          rw [hK, (w_ofDev (hde' M2 hf2) (by omega) hd).2.2.2, nm_s1_some]
          refine wp_s2 _ (w_bind (pf := p2q dev ws d c pf) z3 z4 q2 (w := v) hv (z := (dev d).2.2.2) e3 (by omega)) ?_
          rintro m3 M3 ⟨v1, v2, v3⟩
          have ep3 : b2q v (dev d).2.2.2 (p2q dev ws d c pf) = p3q dev ws d c pf := by
            unfold p3q
            rw [ev]
          refine wp_r ⟨fun h => ?_, fun h => ?_, p4F_tr hf2 v3⟩
          · have h4 := h.2.2.2
            rw [ev] at h4
            rw [← ep3]
            exact v1 h4
          · cases hb3 : b1q v (dev d).2.2.2 (p2q dev ws d c pf) with
            | false => exact v2 hb3
            | true => exact absurd ⟨hsz, hb1, by rw [eu]; exact hb2, by rw [ev]; exact hb3⟩ h
    unfold f_X10_fit_J87
    by_cases h2 : c % 2 = 1
    · rw [if_neg (by rw [h2]; decide)]
      refine h87 (ws (c / 2)).2.2.1 (ws (c / 2)).2.1 g3 g2 (by simp [wA, h2]) (by simp [wA, h2]) _ (fun m M' => ?_)
      rw [if_neg (by rw [h2]; decide)]
    · have h20 : c % 2 = 0 := by omega
      rw [if_pos (by rw [h20]; rfl)]
      refine h87 (ws (c / 2)).2.1 (ws (c / 2)).2.2.1 g2 g3 (by simp [wA, h2]) (by simp [wA, h2]) _ (fun m M' => ?_)
      rw [if_pos (by rw [h20]; rfl)]
  unfold f_X10_fit
  rw [nm_cz (by omega) (by omega) (by omega), nm_cz (by omega) (by omega) (by omega), zI_cl (by omega) (by omega), Int.toNat_natCast, s2, o0, nm_s1_some, zI_0]
  simp (disch := omega) only [zI_eq]
  refine wp_if (fun h => hrest (Or.inl (by omega))) (fun h => ?_)
  refine wp_if (fun h2 => hrest (Or.inr (by omega))) (fun h2 => ?_)
  refine wp_r ⟨fun ho => ?_, fun _ => ⟨rfl, hP⟩, rfl, fun _ _ _ => rfl⟩
  rcases ho.1 with h3 | h3 <;> omega
/-- the state of a search -/
def scX (N : Nat → Nat) (dev : dvT) (ws : wsT) (n : Nat) (M : cm) (rs : List Nat) (t : Nat) : Prop :=
  stX N M dev ws n ∧ pfX M (pfA dev ws rs) ∧ (∀ i, i < 12 → bi (M.1 400 8) i = tkA rs i) ∧ (∀ j, j < rs.length → M.1 403 j = zI ((chA rs j / 2 : Nat) : Int)) ∧ M.1 400 1 = zI (t : Nat) ∧ M.1 400 2 = 0
theorem prg_A (hw : whA dev n nets) : ∀ rs : List Nat, rs.length ≤ n → prg (pfA dev ws rs) := by
  intro rs
  induction rs with
  | nil => intro _ i _; exact ⟨show (-1 : Int) ≤ -1 by decide, show (-1 : Int) < 65536 by decide⟩
  | cons c rs ih =>
    intro h
    have h' : rs.length + 1 ≤ n := h
    exact (prg_3 hw (by omega) (ih (by omega))).2.2
def seR (N : Nat → Nat) (dev : dvT) (ws : wsT) (n : Nat) (M : cm) (rs : List Nat) (res : rsT) (r : Int32 × cm) : Prop :=
  scF M r.2 ∧ (res.1 = 0 → r.1 = 0 ∧ scX N dev ws n r.2 rs res.2.2) ∧ (res.1 = 1 → r.1 = 1 ∧ scX N dev ws n r.2 res.2.1 res.2.2) ∧ (res.1 = 2 → r.1 = 0 ∧ r.2.1 400 2 = 1 ∧ r.2.1 400 1 = zI (res.2.2 : Nat))
theorem seR_fr {M M1 : cm} {rs : List Nat} {res : rsT} {r : Int32 × cm} (h1 : scF M M1) (h : seR N dev ws n M1 rs res r) : seR N dev ws n M rs res r := ⟨scF_tr h1 h.1, h.2⟩
set_option maxHeartbeats 2000000 in
theorem w_search (K : Nat → Nat) (hwo : wsok ws n) (hw : whA dev n nets) : ∀ (d : Nat) (rs : List Nat) (t : Nat) (M : cm) (fu : Nat), rs.length + d = n → d < fu → t ≤ 5000 → gLs dev ws n rs → scX N dev ws n M rs t → wp (f_X10_search N K fu (zI (rs.length : Nat)) M) (fun r => seR N dev ws n M rs (srT dev ws n d rs t) r) := by
  have hn12 := hwo.1
  intro d
  induction d with
  | zero =>
    intro rs t M fu hn hfu ht hG hS
    obtain ⟨fu', rfl⟩ : ∃ f', fu = f' + 1 := ⟨fu - 1, by omega⟩
    show wp (f_X10_searchB _ N K (zI (rs.length : Nat)) M) _
    unfold f_X10_searchB
    rw [hS.1.1.1, if_neg (by
      rw [zI_lt (by omega) (by omega) (by omega) (by omega)]
      omega)]
    exact wp_r ⟨⟨rfl, fun _ _ _ _ _ => rfl⟩, fun h => absurd h (show ¬ (1 : Nat) = 0 by decide), fun _ => ⟨rfl, hS⟩, fun h => absurd h (show ¬ (1 : Nat) = 2 by decide)⟩
  | succ d ihd =>
    intro rs t M fu hn hfu ht hG hS
    obtain ⟨fu', rfl⟩ : ∃ f', fu = f' + 1 := ⟨fu - 1, by omega⟩
    show wp (f_X10_searchB (f_X10_search N K fu') N K (zI (rs.length : Nat)) M) _
    unfold f_X10_searchB
    rw [hS.1.1.1, if_pos (by
      rw [zI_lt (by omega) (by omega) (by omega) (by omega)]
      omega), nm_l_eq]
    have key : ∀ (f k : Nat) (t : Nat) (Z : cm), k ≤ 2 * n → 2 * n - k < f → t ≤ 5000 → scX N dev ws n Z rs t → wp (f_X10_search_L12 (f_X10_search N K fu') N K (zI (rs.length : Nat)) (fun (M26 : cm) => some ((0 : Int32), M26)) f (zI (k : Nat)) Z) (fun r => seR N dev ws n Z rs (srI (okA dev ws rs) (tkA rs) (fun c t' => srT dev ws n d (c :: rs) t') (2 * n - k) k t) r) := by
      intro f
      induction f with
      | zero => intro k t Z h1 h2; omega
      | succ f ih =>
        intro k t Z hk hf ht hS
        obtain ⟨hst, hP, htk, hth, h1, h2⟩ := hS
        rw [f_X10_search_L12, hst.1.1, show (2 : Int32) = zI 2 from rfl, zI_mul]
        simp (disch := omega) only [zI_le]
        refine wp_if (fun h => ?_) (fun h => ?_)
        · rw [show 2 * n - k = 0 by omega]
          exact wp_r ⟨⟨rfl, fun _ _ _ _ _ => rfl⟩, fun _ => ⟨rfl, hst, hP, htk, hth, h1, h2⟩, fun h => absurd h (show ¬ (0 : Nat) = 1 by decide), fun h => absurd h (show ¬ (0 : Nat) = 2 by decide)⟩
        have hk2 : k < 2 * n := by omega
        rw [show 2 * n - k = (2 * n - (k + 1)) + 1 by omega, srI, zI_div (by omega) (by omega) (by omega) (by omega), nm_l_eq, show ((k : Nat) : Int) / 2 = ((k / 2 : Nat) : Int) by omega]
        have hnext : ∀ (t' : Nat) (Z' : cm), t' ≤ 5000 → scF Z Z' → scX N dev ws n Z' rs t' → wp (f_X10_search_J164 (f_X10_search N K fu') N K (zI (k : Nat)) Z' (f_X10_search_L12 (f_X10_search N K fu') N K (zI (rs.length : Nat)) (fun (M26 : cm) => some ((0 : Int32), M26)) f) (fun (M26 : cm) => some ((0 : Int32), M26))) (fun r => seR N dev ws n Z rs (srI (okA dev ws rs) (tkA rs) (fun c t' => srT dev ws n d (c :: rs) t') (2 * n - (k + 1)) (k + 1) t') r) := by
          intro t' Z' a b c
          unfold f_X10_search_J164
          rw [zI_inc]
          exact wp_m (ih (k + 1) t' Z' (by omega) (by omega) a c) (fun r hr => seR_fr b hr)
        refine wp_if (fun h3 => ?_) (fun h3 => ?_)
        · have htf : tkA rs (k / 2) = false := by
            rw [← htk (k / 2) (by omega)]
            exact (bi_0 _ (by omega)).mp h3
          rw [if_neg (show ¬ tkA rs (k / 2) = true by rw [htf]; decide), h1, show (5000 : Int32) = zI 5000 from rfl]
          simp (disch := omega) only [zI_lt]
          refine wp_if (fun h4 => ?_) (fun h4 => ?_)
          · have ht5 : t < 5000 := by omega
            rw [if_neg (show ¬ 5000 ≤ t by omega), nm_l_eq]
            obtain ⟨Z1, hZ1⟩ : ∃ Z1 : cm, Z1 = (nm_up Z.1 400 1 (zI (t : Nat) + 1), Z.2) := ⟨_, rfl⟩
            rw [← hZ1]
            have z11 : ∀ m j, ¬ (m = 400 ∧ j = 1) → Z1.1 m j = Z.1 m j := fun m j h => by
              rw [hZ1]
              show nm_up Z.1 400 1 _ m j = _
              rw [nm_up_ap, if_neg h]
            have z12 : Z1.1 400 1 = zI ((t + 1 : Nat) : Int) := by
              rw [hZ1]
              show nm_up Z.1 400 1 _ 400 1 = _
              rw [nm_up_ap, if_pos ⟨rfl, rfl⟩, zI_inc]
              rfl
            have z13 : scF Z Z1 := ⟨by rw [hZ1], fun m j _ _ c => z11 m j (by omega)⟩
            clear hZ1
            have hst1 := stX_fr hst z13
            have hP1 : pfX Z1 (pfA dev ws rs) := fun i hi => (z11 _ _ (by omega)).trans (hP i hi)
            have h86 : wp (f_X10_search_J86 (f_X10_search N K fu') N K (zI (rs.length : Nat)) (zI (k : Nat)) (zI ((k / 2 : Nat) : Int)) (zI ((k % 2 : Nat) : Int)) (zI ((k / 2 : Nat) : Int)) (zI (rs.length : Nat)) Z1 (f_X10_search_L12 (f_X10_search N K fu') N K (zI (rs.length : Nat)) (fun (M26 : cm) => some ((0 : Int32), M26)) f) (fun (M26 : cm) => some ((0 : Int32), M26))) (fun r => seR N dev ws n Z rs (if okA dev ws rs k = true then (if (srT dev ws n d (k :: rs) (t + 1)).1 = 0 then srI (okA dev ws rs) (tkA rs) (fun c t' => srT dev ws n d (c :: rs) t') (2 * n - (k + 1)) (k + 1) (srT dev ws n d (k :: rs) (t + 1)).2.2 else srT dev ws n d (k :: rs) (t + 1)) else srI (okA dev ws rs) (tkA rs) (fun c t' => srT dev ws n d (c :: rs) t') (2 * n - (k + 1)) (k + 1) (t + 1)) r) := by
              unfold f_X10_search_J86
              refine wp_s2 _ (w_fit hwo hw hst1 (d := rs.length) (by omega) hk2 hP1 (prg_A hw rs (by omega))) ?_
              rintro m M2 ⟨f1, f2, f3⟩
              have hF2 : scF Z M2 := scF_tr z13 (scF_p4 f3)
              by_cases hok : okW dev ws rs.length k (pfA dev ws rs)
              · obtain ⟨f4, f5⟩ := f1 hok
                have hok' : okA dev ws rs k = true := bP_t.mpr hok
                rw [if_neg (MBq_ne f4), if_pos hok', nm_l_eq, nm_cz (by omega) (by omega) (by omega), zI_cl (by omega) (by omega), Int.toNat_natCast, nm_l_eq]
                obtain ⟨M3, hM3⟩ : ∃ M3 : cm, M3 = (nm_up (nm_up M2.1 400 8 (M2.1 400 8 ||| ((1 : Int32) <<< (zI ((k / 2 : Nat) : Int) &&& 31)))) 403 rs.length (zI ((k / 2 : Nat) : Int)), M2.2) := ⟨_, rfl⟩
                show wp (nm_s2 (f_X10_search N K fu' (zI (rs.length : Nat) + 1) (nm_up (nm_up M2.1 400 8 (M2.1 400 8 ||| ((1 : Int32) <<< (zI ((k / 2 : Nat) : Int) &&& 31)))) 403 rs.length (zI ((k / 2 : Nat) : Int)), M2.2)) _) _
                rw [← hM3]
                have m31 : ∀ q j, ¬ (q = 400 ∧ j = 8) → ¬ (q = 403 ∧ j = rs.length) → M3.1 q j = M2.1 q j := fun q j a b => by
                  rw [hM3]
                  show nm_up (nm_up M2.1 400 8 (M2.1 400 8 ||| ((1 : Int32) <<< (zI ((k / 2 : Nat) : Int) &&& 31)))) 403 rs.length (zI ((k / 2 : Nat) : Int)) q j = _
                  rw [nm_up_ap, if_neg b, nm_up_ap, if_neg a]
                have m32 : M3.1 403 rs.length = zI ((k / 2 : Nat) : Int) := by
                  rw [hM3]
                  show nm_up (nm_up M2.1 400 8 (M2.1 400 8 ||| ((1 : Int32) <<< (zI ((k / 2 : Nat) : Int) &&& 31)))) 403 rs.length (zI ((k / 2 : Nat) : Int)) 403 rs.length = _
                  rw [nm_up_ap, if_pos ⟨rfl, rfl⟩]
                have m33 : M3.1 400 8 = (Z.1 400 8 ||| ((1 : Int32) <<< (zI ((k / 2 : Nat) : Int) &&& 31))) := by
                  rw [hM3]
                  show nm_up (nm_up M2.1 400 8 (M2.1 400 8 ||| ((1 : Int32) <<< (zI ((k / 2 : Nat) : Int) &&& 31)))) 403 rs.length (zI ((k / 2 : Nat) : Int)) 400 8 = _
                  rw [nm_up_ap, if_neg (by omega), nm_up_ap, if_pos ⟨rfl, rfl⟩, f3.2 _ _ (by omega), z11 _ _ (by omega)]
                have m34 : scF Z M3 := scF_tr hF2 ⟨by rw [hM3], fun q j a b c => m31 q j (by omega) (by omega)⟩
                clear hM3
                have hSM3 : scX N dev ws n M3 (k :: rs) (t + 1) := by
                  refine ⟨stX_fr hst m34, fun i hi => (m31 _ _ (by omega) (by omega)).trans (f5 i hi), fun i hi => ?_, fun j hj => ?_, ?_, ?_⟩
                  · rw [m33, bi_or, bi_one (by omega), htk i hi]
                    show _ = (decide (k / 2 = i) || tkA rs i)
                    rw [Bool.or_comm]
                  · have hj' : j < rs.length + 1 := hj
                    show _ = zI (((if j = rs.length then k else chA rs j) / 2 : Nat) : Int)
                    by_cases hjl : j = rs.length
                    · subst hjl
                      rw [if_pos rfl]
                      exact m32
                    · rw [if_neg hjl, m31 _ _ (by omega) (by omega), f3.2 _ _ (by omega), z11 _ _ (by omega)]
                      exact hth j (by omega)
                  · rw [m31 _ _ (by omega) (by omega), f3.2 _ _ (by omega)]
                    exact z12
                  · rw [m31 _ _ (by omega) (by omega), f3.2 _ _ (by omega), z11 _ _ (by omega)]
                    exact h2
                have hG2 : gLs dev ws n (k :: rs) := ⟨hG, hk2, htf, hok'⟩
                have hrec := ihd (k :: rs) (t + 1) M3 fu' (by show rs.length + 1 + d = n; omega) (by omega) (by omega) hG2 hSM3
                obtain ⟨gd1, -, gd2⟩ := srT_good (dev := dev) (ws := ws) (n := n) d (k :: rs) (t + 1) (by show rs.length + 1 + d = n; omega) hG2
                obtain ⟨gd3, gd4⟩ := gd2 (by omega)
                generalize srT dev ws n d (k :: rs) (t + 1) = res at *
                rw [zI_inc]
                refine wp_s2 _ hrec ?_
                rintro b M4 ⟨s1, s2, s3, s4⟩
                have s1' : scF M3 M4 := s1
                have hF4 : scF Z M4 := scF_tr m34 s1'
                -- undone
                have hund : b = 0 → wp (nm_l ((nm_up M4.1 400 8 ((M4.1 400 8) &&& (((1 : Int32) <<< (zI ((k / 2 : Nat) : Int) &&& 31)) ^^^ (-1 : Int32))), M4.2)) fun M20 => nm_s1 (f_X10_part m M20) fun M21 => (if (M21.1 400 2) = 0 then f_X10_search_J164 (f_X10_search N K fu') N K (zI (k : Nat)) M21 (f_X10_search_L12 (f_X10_search N K fu') N K (zI (rs.length : Nat)) (fun (M26 : cm) => some ((0 : Int32), M26)) f) (fun (M26 : cm) => some ((0 : Int32), M26)) else some ((0 : Int32), M21))) (fun r => seR N dev ws n Z rs (if res.1 = 0 then srI (okA dev ws rs) (tkA rs) (fun c t' => srT dev ws n d (c :: rs) t') (2 * n - (k + 1)) (k + 1) res.2.2 else res) r) := by
                  intro hb0
                  rw [nm_l_eq]
                  obtain ⟨M5, hM5⟩ : ∃ M5 : cm, M5 = (nm_up M4.1 400 8 ((M4.1 400 8) &&& (((1 : Int32) <<< (zI ((k / 2 : Nat) : Int) &&& 31)) ^^^ (-1 : Int32))), M4.2) := ⟨_, rfl⟩
                  rw [← hM5]
                  have m51 : ∀ q j, ¬ (q = 400 ∧ j = 8) → M5.1 q j = M4.1 q j := fun q j a => by
                    rw [hM5]
                    show nm_up M4.1 400 8 ((M4.1 400 8) &&& (((1 : Int32) <<< (zI ((k / 2 : Nat) : Int) &&& 31)) ^^^ (-1 : Int32))) q j = _
                    rw [nm_up_ap, if_neg a]
                  have m52 : M5.1 400 8 = ((M4.1 400 8) &&& (((1 : Int32) <<< (zI ((k / 2 : Nat) : Int) &&& 31)) ^^^ (-1 : Int32))) := by
                    rw [hM5]
                    show nm_up M4.1 400 8 ((M4.1 400 8) &&& (((1 : Int32) <<< (zI ((k / 2 : Nat) : Int) &&& 31)) ^^^ (-1 : Int32))) 400 8 = _
                    rw [nm_up_ap, if_pos ⟨rfl, rfl⟩]
                  have m53 : scF Z M5 := scF_tr hF4 ⟨by rw [hM5], fun q j a b c => m51 q j (by omega)⟩
                  clear hM5
                  refine wp_s1 _ (w_part m) ?_
                  rintro M6 ⟨p1, p2⟩
                  have hF6 : scF Z M6 := scF_tr m53 (scF_p4 p2)
                  rw [p2.2 400 2 (by omega), m51 400 2 (by omega)]
                  have hcase : res.1 = 0 ∨ res.1 = 2 := by
                    by_cases hr1 : res.1 = 1
                    · have := (s3 hr1).1
                      have this' : b = 1 := this
                      rw [hb0] at this'
                      exact absurd this' (by decide)
                    · omega
                  rcases hcase with hr0 | hr2
                  · obtain ⟨-, u1, u2, u3, u4, u5, u6⟩ := s2 hr0
                    have u6' : M4.1 400 2 = 0 := u6
                    rw [if_pos u6', if_pos hr0]
                    refine hnext res.2.2 M6 gd3 hF6 ⟨stX_fr hst hF6, fun i hi => ?_, fun i hi => ?_, fun j hj => ?_, ?_, ?_⟩
                    · obtain ⟨x1, x2⟩ := f4.2 i hi
                      rw [p1 i hi, m51 _ _ (by omega)]
                      cases hbi : bi m i with
                      | true =>
                        rw [if_pos rfl, x1 hbi]
                        rfl
                      | false =>
                        rw [if_neg (by decide)]
                        have := u2 i hi
                        rw [show M4.1 404 i = zI (p3q dev ws rs.length k (pfA dev ws rs) i) from this, x2 hbi]
                    · have u3' : ∀ i, i < 12 → bi (M4.1 400 8) i = (decide (k / 2 = i) || tkA rs i) := u3
                      rw [p2.2 _ _ (by omega), m52, bi_and, bi_not _ (by omega), bi_one (by omega), u3' i hi]
                      by_cases hki : k / 2 = i
                      · rw [← hki, htf, decide_eq_true rfl]
                        rfl
                      · rw [decide_eq_false hki, Bool.false_or, Bool.not_false, Bool.and_true]
                    · have := u4 j (by show j < rs.length + 1; omega)
                      have this' : M4.1 403 j = zI (((if j = rs.length then k else chA rs j) / 2 : Nat) : Int) := this
                      rw [if_neg (by omega)] at this'
                      rw [p2.2 _ _ (by omega), m51 _ _ (by omega)]
                      exact this'
                    · rw [p2.2 _ _ (by omega), m51 _ _ (by omega)]
                      exact u5
                    · rw [p2.2 _ _ (by omega), m51 _ _ (by omega)]
                      exact u6
                  · obtain ⟨-, u1, u2⟩ := s4 hr2
                    have u1' : M4.1 400 2 = 1 := u1
                    rw [if_neg (by rw [u1']; decide), if_neg (by omega)]
                    refine wp_r ⟨hF6, fun h => by omega, fun h => by omega, fun _ => ⟨rfl, ?_, ?_⟩⟩
                    · show M6.1 400 2 = 1
                      rw [p2.2 _ _ (by omega), m51 _ _ (by omega)]
                      exact u1
                    · show M6.1 400 1 = _
                      rw [p2.2 _ _ (by omega), m51 _ _ (by omega)]
                      exact u2
                refine wp_if (fun hb0 => hund hb0) (fun hb1 => ?_)
                have hr1 : res.1 = 1 := by
                  by_cases hr0 : res.1 = 0
                  · exact absurd (s2 hr0).1 hb1
                  by_cases hr2 : res.1 = 2
                  · exact absurd (s4 hr2).1 hb1
                  omega
                rw [if_neg (by omega)]
                refine wp_r ⟨hF4, fun h => by omega, fun _ => ⟨rfl, (s3 hr1).2⟩, fun h => by omega⟩
              · obtain ⟨f4, f5⟩ := f2 hok
                have f4' : m = -1 := f4
                have hok' : okA dev ws rs k = false := bP_f.mpr hok
                rw [if_pos f4', if_neg (by rw [hok']; decide)]
                refine hnext (t + 1) M2 (by omega) hF2 ⟨stX_fr hst hF2, f5, fun i hi => ?_, fun j hj => ?_, ?_, ?_⟩
                · rw [f3.2 _ _ (by omega), z11 _ _ (by omega)]
                  exact htk i hi
                · rw [f3.2 _ _ (by omega), z11 _ _ (by omega)]
                  exact hth j hj
                · rw [f3.2 _ _ (by omega)]
                  exact z12
                · rw [f3.2 _ _ (by omega), z11 _ _ (by omega)]
                  exact h2
            rw [show zI ((k : Nat) : Int) - zI ((k / 2 : Nat) : Int) * zI 2 = zI ((k % 2 : Nat) : Int) by rw [zI_mul, zI_sub]; exact congrArg zI (by omega)]
            refine wp_if (fun h5 => ?_) (fun h5 => ?_)
            · rw [h5] at h86
              exact h86
            · have h50 : k % 2 = 0 := by
                by_cases hh : k % 2 = 1
                · rw [hh] at h5
                  exact absurd rfl h5
                · omega
              rw [h50] at h86
              exact h86
          · have ht5 : t = 5000 := by omega
            rw [if_pos (show 5000 ≤ t by omega), nm_l_eq]
            refine wp_r ⟨⟨rfl, fun m j _ _ c => ?_⟩, fun h => absurd h (show ¬ (2 : Nat) = 0 by decide), fun h => absurd h (show ¬ (2 : Nat) = 1 by decide), fun _ => ⟨rfl, ?_, ?_⟩⟩
            · show nm_up Z.1 400 2 1 m j = _
              rw [nm_up_ap, if_neg (by omega)]
            · show nm_up Z.1 400 2 1 400 2 = _
              rw [nm_up_ap, if_pos ⟨rfl, rfl⟩]
            · show nm_up Z.1 400 2 1 400 1 = _
              rw [nm_up_ap, if_neg (by omega)]
              exact h1
        · have htt : tkA rs (k / 2) = true := by
            rw [← htk (k / 2) (by omega)]
            cases hbb : bi (Z.1 400 8) (k / 2) with
            | true => rfl
            | false => exact absurd ((bi_0 _ (by omega)).mpr hbb) h3
          rw [if_pos htt]
          exact hnext t Z ht ⟨rfl, fun _ _ _ _ _ => rfl⟩ ⟨hst, hP, htk, hth, h1, h2⟩
    rw [zI_0]
    have := key nm_F 0 t M (by omega) (by rw [nm_F_eq]; omega) ht hS
    exact this
end
