/-! ends of devices, by the program -/
def nbr (s u : Nat) : Prop := u < 4096 ∧ (u = s ∨ (u + 1 = s ∧ s % 64 ≠ 0) ∨ (u = s + 1 ∧ u % 64 ≠ 0) ∨ u + 64 = s ∨ u = s + 64)
theorem pI_run {r : Nat → Bool} {y x s : Nat} (hx : x < 64) (hh : hdp r (64 * y + x) = true) (h1 : x + s ≤ 64) (h2 : ∀ j, x ≤ j → j < x + s → r (64 * y + j) = true) (h3 : x + s < 64 → r (64 * y + (x + s)) = false) (q : Nat) : prc r (64 * y + x + 1) q = true ↔ prc r (64 * y + x) q = true ∨ (64 * y + x ≤ q ∧ q < 64 * y + x + s) := by
  have hpcP : pc (hdp r) (64 * y + x + 1) = pc (hdp r) (64 * y + x) + 1 := by
    rw [pc_s, hh]
    rfl
  unfold prc
  rw [Bool.and_eq_true, Bool.and_eq_true, decide_eq_true_eq, decide_eq_true_eq, hpcP]
  constructor
  · rintro ⟨a, b⟩
    have e := run_stp hx hh h1 h2 h3 a
    by_cases hs : stp r q = pc (hdp r) (64 * y + x)
    · exact Or.inr (e.mp hs)
    · exact Or.inl ⟨a, by omega⟩
  · rintro (⟨a, b⟩ | ⟨a, b⟩)
    · exact ⟨a, by omega⟩
    · have rq := h2 (q - 64 * y) (by omega) (by omega)
      rw [show 64 * y + (q - 64 * y) = q by omega] at rq
      have e := (run_stp hx hh h1 h2 h3 rq).mpr ⟨a, b⟩
      exact ⟨rq, by omega⟩
theorem pI_skip {r : Nat → Bool} {Q : Nat} (hh : hdp r Q = false) (q : Nat) : prc r (Q + 1) q = prc r Q q := by
  unfold prc
  rw [pc_s, hh]
  rfl
theorem nbr_run {L : Nat → Prop} {y x sz : Nat} (hy : y < 64) (hs : x + sz ≤ 64) :
    ((∃ x' : Nat, x' < 64 ∧ 0 ≤ ((y : Nat) : Int) - 1 ∧ ((y : Nat) : Int) - 1 < 64 ∧ (x ≤ x' ∧ x' < x + sz) ∧ L (64 * (((y : Nat) : Int) - 1).toNat + x')) ∨ (∃ x' : Nat, x' < 64 ∧ 0 ≤ ((y : Nat) : Int) ∧ ((y : Nat) : Int) < 64 ∧ ((x ≤ x' ∧ x' < x + sz) ∨ (1 ≤ x' ∧ x ≤ x' - 1 ∧ x' - 1 < x + sz) ∨ (x ≤ x' + 1 ∧ x' + 1 < x + sz)) ∧ L (64 * ((y : Nat) : Int).toNat + x')) ∨ ∃ x' : Nat, x' < 64 ∧ 0 ≤ ((y : Nat) : Int) + 1 ∧ ((y : Nat) : Int) + 1 < 64 ∧ (x ≤ x' ∧ x' < x + sz) ∧ L (64 * (((y : Nat) : Int) + 1).toNat + x')) ↔ ∃ s u, (64 * y + x ≤ s ∧ s < 64 * y + x + sz) ∧ nbr s u ∧ L u := by
  constructor
  · rintro (⟨x', a, b, c, ⟨d, e⟩, f⟩ | ⟨x', a, b, c, d, f⟩ | ⟨x', a, b, c, ⟨d, e⟩, f⟩)
    · exact ⟨64 * y + x', _, ⟨by omega, by omega⟩, ⟨by omega, Or.inr (Or.inr (Or.inr (Or.inl (by omega))))⟩, f⟩
    · rcases d with ⟨d, e⟩ | ⟨d, e, g⟩ | ⟨d, e⟩
      · exact ⟨64 * y + x', _, ⟨by omega, by omega⟩, ⟨by omega, Or.inl (by omega)⟩, f⟩
      · exact ⟨64 * y + (x' - 1), _, ⟨by omega, by omega⟩, ⟨by omega, Or.inr (Or.inr (Or.inl (by omega)))⟩, f⟩
      · exact ⟨64 * y + (x' + 1), _, ⟨by omega, by omega⟩, ⟨by omega, Or.inr (Or.inl (by omega))⟩, f⟩
    · exact ⟨64 * y + x', _, ⟨by omega, by omega⟩, ⟨by omega, Or.inr (Or.inr (Or.inr (Or.inr (by omega))))⟩, f⟩
  · rintro ⟨s, u, ⟨a, b⟩, ⟨c, d⟩, f⟩
    rcases d with d | ⟨d, e⟩ | ⟨d, e⟩ | d | d
    · refine Or.inr (Or.inl ⟨s - 64 * y, by omega, by omega, by omega, Or.inl (by omega), ?_⟩)
      rw [show 64 * ((y : Nat) : Int).toNat + (s - 64 * y) = u by omega]
      exact f
    · refine Or.inr (Or.inl ⟨u - 64 * y, by omega, by omega, by omega, Or.inr (Or.inr (by omega)), ?_⟩)
      rw [show 64 * ((y : Nat) : Int).toNat + (u - 64 * y) = u by omega]
      exact f
    · refine Or.inr (Or.inl ⟨u - 64 * y, by omega, by omega, by omega, Or.inr (Or.inl (by omega)), ?_⟩)
      rw [show 64 * ((y : Nat) : Int).toNat + (u - 64 * y) = u by omega]
      exact f
    · refine Or.inl ⟨s - 64 * y, by omega, by omega, by omega, by omega, ?_⟩
      rw [show 64 * (((y : Nat) : Int) - 1).toNat + (s - 64 * y) = u by omega]
      exact f
    · refine Or.inr (Or.inr ⟨s - 64 * y, by omega, by omega, by omega, by omega, ?_⟩)
      rw [show 64 * (((y : Nat) : Int) + 1).toNat + (s - 64 * y) = u by omega]
      exact f
section
variable {D cd : Nat → Bool} {jl : jo} {jn : Nat}
theorem run_CN : ∀ n a, (a + n) / 64 = a / 64 → (∀ q, a ≤ q → q ≤ a + n → nR D cd q = true) → CQn D cd jl jn a (a + n) := by
  intro n
  induction n with
  | zero => intro a _ _; exact CN_rf a
  | succ n ih =>
    intro a h1 h2
    exact CN_tr _ _ _ (ih a (by omega) (fun q x y => h2 q x (by omega))) (Cn_of (Or.inl ⟨by omega, by omega, h2 _ (by omega) (by omega), h2 _ (by omega) (by omega)⟩))
theorem gD_ends {S : ca} {M' : cm} {o Y : Nat} {r : Nat → Bool} {C : Nat → Nat → Prop} {lab : Nat → Int} {cnt : Nat} (ho : o = 310 ∨ o = 320) (h : gD S o Y r C lab cnt) (hf : eXF S.1 M') : gD (M', S.2) o Y r C lab cnt :=
  gD_fr h hf.1 rfl (fun m k hm => hf.2 m k (by omega) (by omega))
set_option maxHeartbeats 1000000 in
theorem w_meet {S : ca} (hc : cO S.2) {lab : Nat → Int} {cnt : Nat} (hg : gD S 310 1024 (nR D cd) (CQn D cd jl jn) lab cnt) {c : Nat} (hcl : c < 16) (h8 : S.1.1 300 8 = zI (c : Nat)) {dn : Nat} (hdn : dn ≤ 4096) (h3 : dn ≤ S.2 303) (h4 : dn ≤ S.2 304) {P : Nat → Nat → Prop} (hP : eX S.1 P dn) {d : Nat} (hd : d < dn) {y : Int} (y1 : -1 ≤ y) (y2 : y ≤ 64) (w : Int64) :
    wp (f_X2_meet S.2 (zI (d : Nat)) (zI y) w S.1) (fun M' => eX M' (fun d' k => P d' k ∨ (d' = d ∧ ∃ x : Nat, x < 64 ∧ 0 ≤ y ∧ y < 64 ∧ bx w x = true ∧ lab (4096 * c + (64 * y.toNat + x)) = (k : Int))) dn ∧ eXF S.1 M') := by
  have hL := hg.2.2.2.2.2.2
  unfold f_X2_meet
  rw [show (64 : Int32) = zI 64 from rfl, w_outside (by omega) (by omega) (by omega) (by omega)]
  by_cases hin : 0 ≤ y ∧ y < 64
  · obtain ⟨yn, rfl⟩ := Int.eq_ofNat_of_zero_le hin.1
    rw [if_pos hin, if_pos rfl, h8, zI_mul, zI_add, nm_l_eq, nm_cz (by omega) (by omega) (by omega), zI_cl (by omega) (by omega), show (64 * ((c : Nat) : Int) + ((yn : Nat) : Int)).toNat = 64 * c + yn by omega, show (64 * ((c : Nat) : Int) + ((yn : Nat) : Int)) = ((64 * c + yn : Nat) : Int) by omega]
    obtain ⟨ms, hms⟩ : ∃ ms, ms = S.1.2 311 (64 * c + yn) &&& w := ⟨_, rfl⟩
    have hmb : ∀ x, x < 64 → (bx ms x = true ↔ nR D cd (4096 * c + (64 * yn + x)) = true ∧ bx w x = true) := fun x hx => by
      rw [hms, bx_and, hg.1 _ _ (by omega) hx, Bool.and_eq_true, show 64 * (64 * c + yn) + x = 4096 * c + (64 * yn + x) by omega]
    rw [← hms]
    obtain ⟨hm, hhm⟩ : ∃ hm, hm = f_X0_heads ms := ⟨_, rfl⟩
    have hhb : ∀ x, x < 64 → bx hm x = hdp (bx ms) x := fun x hx => by
      rw [hhm, bx_heads _ hx]
      unfold hdp
      rw [show x % 64 = x by omega]
    rw [← hhm, nm_l_eq, nm_l_eq, bc_eq]
    clear hhm hms
    have hmono : ∀ x, x < 64 → bx hm x = true → bx ms x = true := fun x hx h => by
      rw [hhb x hx] at h
      exact hdp_r h
    have e0 : (0 : Int32) = zI ((pc (bx hm) 0 : Nat) : Int) := rfl
    rw [e0]
    refine wp_s1 (fun M1 => eX M1 (fun d' k => P d' k ∨ (d' = d ∧ ∃ x : Nat, x < 64 ∧ bx hm x = true ∧ lab (4096 * c + (64 * yn + x)) = (k : Int))) dn ∧ eXF S.1 M1) ?_ ?_
    · refine lpb (fun f => f_X2_meet_L48 S.2 (zI (d : Nat)) (zI ((64 * c + yn : Nat) : Int)) (zI ((pc (bx hm) 64 : Nat) : Int)) f) _ hm (fun p M1 => eX M1 (fun d' k => P d' k ∨ (d' = d ∧ ∃ x : Nat, x < p ∧ bx hm x = true ∧ lab (4096 * c + (64 * yn + x)) = (k : Int))) dn ∧ eXF S.1 M1) ?_ ?_ ?_ nm_F 0 S.1 hm (by omega) (fun x hx => by simp) (by rw [nm_F_eq]; omega) ⟨eX_congr hP (fun d' n _ => ⟨Or.inl, fun q => q.resolve_right (fun ⟨_, x, hx, _⟩ => absurd hx (Nat.not_lt_zero _))⟩), rfl, fun _ _ _ _ => rfl⟩
      · rintro p M1 hp hb ⟨q1, q2⟩
        refine ⟨eX_congr q1 (fun d' n _ => ⟨fun q => q.imp id (fun ⟨a, x, b, e⟩ => ⟨a, x, by omega, e⟩), fun q => q.imp id (fun ⟨a, x, b, e, g⟩ => ⟨a, x, ?_, e, g⟩)⟩), q2⟩
        by_cases hxp : x = p
        · subst hxp
          rw [hb] at e
          exact absurd e (by decide)
        · omega
      · rintro f v i M1 p hp hb ⟨q1, q2⟩ hlow hi hlt hk9
        have hb1 := (hmb p hp).mp (hmono p hp hb)
        have hrng := Lab_rng hL (q := 4096 * c + (64 * yn + p)) (by omega)
        have hge := hrng.2.2.mpr hb1.1
        obtain ⟨n, hn⟩ := Int.eq_ofNat_of_zero_le hge
        have hcnt : cnt ≤ 65536 := by
          rw [hL.2.2]
          exact pc_le2 (by omega)
        have hg1 := gD_ends (M' := M1) (Or.inl rfl) hg q2
        have hpc64 := pc_le (bx hm) 64
        subst hi
        show wp (f_X2_meet_L48 S.2 (zI (d : Nat)) (zI ((64 * c + yn : Nat) : Int)) (zI ((pc (bx hm) 64 : Nat) : Int)) (f + 1) v _ M1) _
        have hga := w_groupAt gN_310 (S := (M1, S.2)) hc hg1 (y := 64 * c + yn) (x := p) (by omega) hp
        rw [show 64 * (64 * c + yn) + p = 4096 * c + (64 * yn + p) by omega, hn] at hga
        rw [f_X2_meet_L48, hlow, show f_X4_groupAt 310 S.2 (zI ((64 * c + yn : Nat) : Int)) (zI (p : Nat)) M1 = _ from hga]
        simp (disch := omega) only [zI_le]
        rw [if_neg (by omega), nm_s1_some]
        refine wp_s1 _ (w_addEnd h3 h4 hdn q1 hd (n := n) (by omega)) ?_
        rintro M2 ⟨z1, z2⟩
        rw [nm_l_eq]
        refine hk9 _ ⟨eX_congr z1 (fun d' k _ => ?_), z2.1.trans q2.1, fun m j a b => (z2.2 m j a b).trans (q2.2 m j a b)⟩
        constructor
        · rintro ((h | ⟨h, x, a, b, e⟩) | ⟨h, e⟩)
          · exact Or.inl h
          · exact Or.inr ⟨h, x, by omega, b, e⟩
          · exact Or.inr ⟨h, p, by omega, hb, by rw [hn, e]⟩
        · rintro (h | ⟨h, x, a, b, e⟩)
          · exact Or.inl (Or.inl h)
          · by_cases hxp : x = p
            · subst hxp
              exact Or.inr ⟨h, by omega⟩
            · exact Or.inl (Or.inr ⟨h, x, by omega, b, e⟩)
      · rintro f v i M1 hi ⟨q1, q2⟩
        have hpc64 := pc_le (bx hm) 64
        subst hi
        show wp (f_X2_meet_L48 S.2 (zI (d : Nat)) (zI ((64 * c + yn : Nat) : Int)) (zI ((pc (bx hm) 64 : Nat) : Int)) (f + 1) v _ M1) _
        rw [f_X2_meet_L48, if_pos (by simp (disch := omega) only [zI_le]; omega)]
        exact wp_r ⟨q1, q2⟩
    · rintro M1 ⟨q1, q2⟩
      refine wp_r ⟨eX_congr q1 (fun d' k _ => ?_), q2⟩
      constructor
      · rintro (h | ⟨h, x, a, b, e⟩)
        · exact Or.inl h
        · exact Or.inr ⟨h, x, a, by omega, by omega, ((hmb x a).mp (hmono x a b)).2, e⟩
      · rintro (h | ⟨h, x, a, b, b2, e, g⟩)
        · exact Or.inl h
        · have g' : lab (4096 * c + (64 * yn + x)) = (k : Int) := g
          have hrx := (Lab_rng hL (q := 4096 * c + (64 * yn + x)) (by omega)).2.2.mp (by omega)
          have hmx := (hmb x a).mpr ⟨hrx, e⟩
          obtain ⟨h0, w1, w2, w3, w4, w5⟩ := hdp_ex (r := bx ms) x x (by omega) hmx
          refine Or.inr ⟨h, h0, by omega, by rw [hhb h0 (by omega)]; exact w2, ?_⟩
          rw [← g']
          refine (Lab_eq CN_sy CN_tr hL (by omega) (by omega) ((hmb h0 (by omega)).mp (w4 h0 (by omega) w1)).1 hrx).mpr ?_
          have := run_CN (D := D) (cd := cd) (jl := jl) (jn := jn) (x - h0) (4096 * c + (64 * yn + h0)) (by omega) (fun q a1 a2 => by
            have := ((hmb (q - (4096 * c + 64 * yn)) (by omega)).mp (w4 _ (by omega) (by omega))).1
            rw [show 4096 * c + (64 * yn + (q - (4096 * c + 64 * yn))) = q by omega] at this
            exact this)
          rw [show 4096 * c + (64 * yn + h0) + (x - h0) = 4096 * c + (64 * yn + x) by omega] at this
          exact this
  · rw [if_neg hin, if_neg (by decide)]
    refine wp_r ⟨eX_congr hP (fun d' n _ => ⟨Or.inl, fun q => q.resolve_right (fun ⟨_, x, _, a, b, _⟩ => hin ⟨a, b⟩)⟩), rfl, fun _ _ _ _ => rfl⟩
/-- the ends that runs before place Q have -/
def PE (r : Nat → Bool) (lab2 lab : Nat → Int) (c Q d k : Nat) : Prop := ∃ s u, s < 4096 ∧ prc r Q s = true ∧ lab2 s = (d : Int) ∧ nbr s u ∧ lab (4096 * c + u) = (k : Int)
set_option maxHeartbeats 2000000 in
theorem w_findEnds {S : ca} (hc : cO S.2) {lab : Nat → Int} {cnt : Nat} (hg : gD S 310 1024 (nR D cd) (CQn D cd jl jn) lab cnt) {r2 : Nat → Bool} {lab2 : Nat → Int} {dn : Nat} (hg2 : gD S 320 64 r2 (CP r2) lab2 dn) {c : Nat} (hcl : c < 16) (h8 : S.1.1 300 8 = zI (c : Nat)) (h3 : dn ≤ S.2 303) (h4 : dn ≤ S.2 304) {y : Nat} (hy : y < 64) (hP : eX S.1 (PE r2 lab2 lab c (64 * y)) dn) :
    wp (f_X2_findEnds S.2 (zI (y : Nat)) S.1) (fun M' => eX M' (PE r2 lab2 lab c (64 * (y + 1))) dn ∧ eXF S.1 M') := by
  have hL2 := hg2.2.2.2.2.2.2
  have hdn : dn ≤ 4096 := by
    rw [hL2.2.2]
    exact pc_le2 (by omega)
  unfold f_X2_findEnds
  rw [nm_cz (by omega) (by omega) (by omega), zI_cl (by omega) (by omega), Int.toNat_natCast, nm_l_eq]
  obtain ⟨hm, hhm⟩ : ∃ hm, hm = f_X0_heads (S.1.2 321 y) := ⟨_, rfl⟩
  have hhd : ∀ x, x < 64 → bx hm x = hdp r2 (64 * y + x) := fun x hx => by
    rw [hhm]
    exact gR_hd hg2.1 hy hx
  rw [← hhm, nm_l_eq, nm_l_eq, bc_eq]
  clear hhm
  have e0 : (0 : Int32) = zI ((pc (bx hm) 0 : Nat) : Int) := rfl
  rw [e0]
  refine wp_s1 (fun M1 => eX M1 (PE r2 lab2 lab c (64 * y + 64)) dn ∧ eXF S.1 M1) ?_ (fun M1 q => wp_r (by rw [show 64 * (y + 1) = 64 * y + 64 by omega]; exact q))
  refine lpb (fun f => f_X2_findEnds_L26 S.2 (zI (y : Nat)) (S.1.2 321 y) (zI ((pc (bx hm) 64 : Nat) : Int)) f) _ hm (fun p M1 => eX M1 (PE r2 lab2 lab c (64 * y + p)) dn ∧ eXF S.1 M1) ?_ ?_ ?_ nm_F 0 S.1 hm (by omega) (fun x hx => by simp) (by rw [nm_F_eq]; omega) ⟨hP, rfl, fun _ _ _ _ => rfl⟩
  · rintro p M1 hp hb ⟨q1, q2⟩
    rw [hhd p hp] at hb
    refine ⟨eX_congr q1 (fun d n _ => ?_), q2⟩
    unfold PE
    rw [show 64 * y + (p + 1) = 64 * y + p + 1 by omega]
    simp only [pI_skip hb]
  · rintro f v i M1 x hx hb ⟨q1, q2⟩ hlow hi hlt hk9
    have hb' := hb
    rw [hhd x hx] at hb'
    have hrP := hdp_r hb'
    have hpc64 := pc_le (bx hm) 64
    subst hi
    show wp (f_X2_findEnds_L26 S.2 (zI (y : Nat)) (S.1.2 321 y) (zI ((pc (bx hm) 64 : Nat) : Int)) (f + 1) v _ M1) _
    have hg1 := gD_ends (M' := M1) (Or.inr rfl) hg2 q2
    have hga := w_groupAt gM_320.1 (S := (M1, S.2)) hc hg1 (y := y) (x := x) hy hx
    have hrng := Lab_rng hL2 (q := 64 * y + x) (by omega)
    obtain ⟨d, hd⟩ := Int.eq_ofNat_of_zero_le (hrng.2.2.mpr hrP)
    rw [hd] at hga
    obtain ⟨sz, ⟨s1, s2, s3⟩, hst⟩ := bx_stretch (w := S.1.2 321 y) hx
    have s2' : ∀ j, x ≤ j → j < x + sz → r2 (64 * y + j) = true := fun j j1 j2 => by rw [← hg2.1 y j hy (by omega)]; exact s2 j j1 j2
    have s3' : x + sz < 64 → r2 (64 * y + (x + sz)) = false := fun h => by rw [← hg2.1 y (x + sz) hy h]; exact s3 h
    rw [f_X2_findEnds_L26, hlow, nm_l_eq, show f_X4_groupAt 320 S.2 (zI (y : Nat)) (zI (x : Nat)) M1 = _ from hga, nm_s1_some, hst]
    obtain ⟨sp9, hsp⟩ : ∃ sp9, sp9 = f_X0_span (zI (x : Nat)) (zI (sz : Nat)) := ⟨_, rfl⟩
    have hspb : ∀ j, j < 64 → (bx sp9 j = true ↔ x ≤ j ∧ j < x + sz) := fun j hj => by
      rw [hsp, bx_span hx s1 hj, Bool.and_eq_true, decide_eq_true_eq, decide_eq_true_eq]
    rw [← hsp, nm_l_eq]
    clear hsp
    rw [show (1 : Int32) = zI 1 from rfl, zI_sub, zI_add]
    simp (disch := omega) only [zI_le]
    rw [if_neg (by omega)]
    have k8 : ∀ M' : cm, eXF S.1 M' → (M', S.2).1.1 300 8 = zI (c : Nat) := fun M' h => (h.2 300 8 (by omega) (by omega)).trans h8
    refine wp_s1 _ (w_meet (S := (M1, S.2)) hc (gD_ends (Or.inl rfl) hg q2) hcl (k8 M1 q2) hdn h3 h4 q1 (d := d) (by omega) (y := ((y : Nat) : Int) - 1) (by omega) (by omega) sp9) ?_
    rintro M2 ⟨z1, z2'⟩
    have z2 : eXF S.1 M2 := ⟨z2'.1.trans q2.1, fun m j a b => (z2'.2 m j a b).trans (q2.2 m j a b)⟩
    refine wp_s1 _ (w_meet (S := (M2, S.2)) hc (gD_ends (Or.inl rfl) hg z2) hcl (k8 M2 z2) hdn h3 h4 z1 (d := d) (by omega) (y := ((y : Nat) : Int)) (by omega) (by omega) _) ?_
    rintro M3 ⟨v1, v2'⟩
    have v2 : eXF S.1 M3 := ⟨v2'.1.trans z2.1, fun m j a b => (v2'.2 m j a b).trans (z2.2 m j a b)⟩
    refine wp_s1 _ (w_meet (S := (M3, S.2)) hc (gD_ends (Or.inl rfl) hg v2) hcl (k8 M3 v2) hdn h3 h4 v1 (d := d) (by omega) (y := ((y : Nat) : Int) + 1) (by omega) (by omega) sp9) ?_
    rintro M4 ⟨u1, u2'⟩
    have u2 : eXF S.1 M4 := ⟨u2'.1.trans v2.1, fun m j a b => (u2'.2 m j a b).trans (v2.2 m j a b)⟩
    rw [nm_l_eq]
    refine hk9 _ ⟨eX_congr u1 (fun d' k _ => ?_), u2⟩
    have hmid : ∀ j, j < 64 → (bx ((sp9 ||| nm_shl sp9 (zI 1)) ||| nm_shr sp9 (zI 1)) j = true ↔ (x ≤ j ∧ j < x + sz) ∨ (1 ≤ j ∧ x ≤ j - 1 ∧ j - 1 < x + sz) ∨ (x ≤ j + 1 ∧ j + 1 < x + sz)) := fun j hj => by
      have a1 := bx_shl sp9 (k := 1) (by omega) hj
      have a2 := bx_shr sp9 (k := 1) (by omega) j
      simp only [Int.natCast_one] at a1 a2
      rw [bx_or, bx_or, a1, a2, Bool.or_eq_true, Bool.or_eq_true, Bool.and_eq_true, decide_eq_true_eq, hspb j hj]
      constructor
      · rintro ((h | ⟨h, h2⟩) | h)
        · exact Or.inl h
        · exact Or.inr (Or.inl ⟨h, (hspb _ (by omega)).mp h2⟩)
        · by_cases h6 : j + 1 < 64
          · exact Or.inr (Or.inr ((hspb _ h6).mp h))
          · rw [bx_big (by omega)] at h
            exact absurd h (by decide)
      · rintro (h | ⟨h, h2⟩ | h)
        · exact Or.inl (Or.inl h)
        · exact Or.inl (Or.inr ⟨h, (hspb _ (by omega)).mpr h2⟩)
        · exact Or.inr ((hspb _ (by omega)).mpr h)
    have hnr := nbr_run (L := fun u => lab (4096 * c + u) = (k : Int)) (y := y) (x := x) (sz := sz) hy s1
    have hnew : PE r2 lab2 lab c (64 * y + (x + 1)) d' k ↔ PE r2 lab2 lab c (64 * y + x) d' k ∨ (d' = d ∧ ∃ s u, (64 * y + x ≤ s ∧ s < 64 * y + x + sz) ∧ nbr s u ∧ lab (4096 * c + u) = (k : Int)) := by
      unfold PE
      rw [show 64 * y + (x + 1) = 64 * y + x + 1 by omega]
      have hls : ∀ s, 64 * y + x ≤ s → s < 64 * y + x + sz → lab2 s = (d : Int) := fun s a b => by
        have rq := s2' (s - 64 * y) (by omega) (by omega)
        rw [show 64 * y + (s - 64 * y) = s by omega] at rq
        have e := (run_stp hx hb' s1 s2' s3' rq).mpr ⟨a, b⟩
        rw [gD_lab hg2 (p := s) (q := 64 * y + x) (by omega) (by omega) rq hrP (by rw [e, stp_hd hb']), hd]
      constructor
      · rintro ⟨s, u, a1, a2, a3, a4, a5⟩
        rcases (pI_run hx hb' s1 s2' s3' s).mp a2 with h | h
        · exact Or.inl ⟨s, u, a1, h, a3, a4, a5⟩
        · have := hls s h.1 h.2
          exact Or.inr ⟨by omega, s, u, h, a4, a5⟩
      · rintro (⟨s, u, a1, a2, a3, a4, a5⟩ | ⟨e, s, u, h, a4, a5⟩)
        · exact ⟨s, u, a1, (pI_run hx hb' s1 s2' s3' s).mpr (Or.inl a2), a3, a4, a5⟩
        · exact ⟨s, u, by omega, (pI_run hx hb' s1 s2' s3' s).mpr (Or.inr h), by rw [hls s h.1 h.2, e], a4, a5⟩
    rw [hnew, ← hnr]
    constructor
    · rintro (((h | ⟨e, j, a, b, b2, g, l⟩) | ⟨e, j, a, b, b2, g, l⟩) | ⟨e, j, a, b, b2, g, l⟩)
      · exact Or.inl h
      · exact Or.inr ⟨e, Or.inl ⟨j, a, b, b2, (hspb j a).mp g, l⟩⟩
      · exact Or.inr ⟨e, Or.inr (Or.inl ⟨j, a, b, b2, (hmid j a).mp g, l⟩)⟩
      · exact Or.inr ⟨e, Or.inr (Or.inr ⟨j, a, b, b2, (hspb j a).mp g, l⟩)⟩
    · rintro (h | ⟨e, ⟨j, a, b, b2, g, l⟩ | ⟨j, a, b, b2, g, l⟩ | ⟨j, a, b, b2, g, l⟩⟩)
      · exact Or.inl (Or.inl (Or.inl h))
      · exact Or.inl (Or.inl (Or.inr ⟨e, j, a, b, b2, (hspb j a).mpr g, l⟩))
      · exact Or.inl (Or.inr ⟨e, j, a, b, b2, (hmid j a).mpr g, l⟩)
      · exact Or.inr ⟨e, j, a, b, b2, (hspb j a).mpr g, l⟩
  · rintro f v i M1 hi ⟨q1, q2⟩
    have hpc64 := pc_le (bx hm) 64
    subst hi
    show wp (f_X2_findEnds_L26 S.2 (zI (y : Nat)) (S.1.2 321 y) (zI ((pc (bx hm) 64 : Nat) : Int)) (f + 1) v _ M1) _
    rw [f_X2_findEnds_L26, if_pos (by simp (disch := omega) only [zI_le]; omega)]
    exact wp_r ⟨q1, q2⟩
end
