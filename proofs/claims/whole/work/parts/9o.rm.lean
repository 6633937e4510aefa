/-! devices, by the reference -/
section
variable {D cd : Nat → Bool} {jl : jo} {jn : Nat}
def dvO (I : nm_I) (n : Nat) (f : dvT) : Prop := I 0 65 = zI (n : Nat) ∧ ∀ d, d < n → I 62 d = zI (((f d).1 : Nat) : Int) ∧ I 63 d = zI (f d).2.1 ∧ I 64 d = zI (f d).2.2.1 ∧ I 65 d = zI (f d).2.2.2
def gtO (I : nm_I) (gt : gt3) : Prop := match gt with
  | none => I 0 54 = zI (-1)
  | some t => I 0 54 = zI (t.1 : Nat) ∧ I 0 55 = zI (t.2.1 : Nat) ∧ I 0 56 = zI (t.2.2 : Nat)
theorem w_estage {I0 I : nm_I} {P : Nat → Nat → Prop} {Q : Nat → Prop} {dn d c s u0 : Nat} (hcl : c < 16) (hdn : dn ≤ 4096) (hd : d < dn) (hs : s < 4096) (h28 : I0 28 s = zI (d : Nat)) (h59 : ∀ q, q < 65536 → I0 59 q = zI (nlb D cd jl jn q)) (hE : eO I (fun d' n => P d' n ∨ (d' = d ∧ ∃ u, Q u ∧ nlb D cd jl jn (4096 * c + u) = (n : Int))) dn) (hF : eOF I0 I) {cnd : Prop} [Decidable cnd] {xu : Int32} (hu : ¬ cnd → u0 < 4096 ∧ xu = zI ((4096 * c + u0 : Nat) : Int)) {Kf : nm_I → Option nm_I} {R : nm_I → Prop}
    (hk : ∀ I', eO I' (fun d' n => P d' n ∨ (d' = d ∧ ∃ u, (Q u ∨ (¬ cnd ∧ u = u0)) ∧ nlb D cd jl jn (4096 * c + u) = (n : Int))) dn → eOF I0 I' → wp (Kf I') R) :
    wp (if cnd then Kf I else nm_c (zI (s : Nat)) 4096 (nm_s1 (f_X12_ends (I 28 (zI (s : Nat)).toNatClampNeg) xu I) Kf)) R := by
  refine wp_if (fun h => hk I (eO_congr hE (fun d' n _ => ?_)) hF) (fun h => ?_)
  · constructor
    · rintro (q | ⟨q, u, a, b⟩)
      · exact Or.inl q
      · exact Or.inr ⟨q, u, Or.inl a, b⟩
    · rintro (q | ⟨q, u, a | ⟨a, a2⟩, b⟩)
      · exact Or.inl q
      · exact Or.inr ⟨q, u, a, b⟩
      · exact absurd h a
  obtain ⟨u1, u2⟩ := hu h
  have hr := nlb_rng (D := D) (cd := cd) (jl := jl) (jn := jn) (q := 4096 * c + u0) (by omega)
  rw [nm_cz (by omega) (by omega) (by omega), zI_cl (by omega) (by omega), Int.toNat_natCast, hF _ _ (by omega) (by omega), h28, u2]
  refine wp_s1 _ (w_ends hdn hE hd (t := 4096 * c + u0) (by omega) ((hF _ _ (by omega) (by omega)).trans (h59 _ (by omega))) hr.1 hr.2) ?_
  rintro I' ⟨z1, z2⟩
  refine hk I' (eO_congr z1 (fun d' n _ => ?_)) (fun m j a b => (z2 m j a b).trans (hF m j a b))
  constructor
  · rintro ((q | ⟨q, u, a, b⟩) | ⟨q, b⟩)
    · exact Or.inl q
    · exact Or.inr ⟨q, u, Or.inl a, b⟩
    · exact Or.inr ⟨q, u0, Or.inr ⟨h, rfl⟩, b⟩
  · rintro (q | ⟨q, u, a | ⟨a, a2⟩, b⟩)
    · exact Or.inl (Or.inl q)
    · exact Or.inl (Or.inr ⟨q, u, a, b⟩)
    · subst a2
      exact Or.inr ⟨q, b⟩
theorem w_devEndsO {I0 : nm_I} {r : Nat → Bool} {dn c : Nat} (hcl : c < 16) (hdn : dn = nP r) (h28 : ∀ s, s < 4096 → I0 28 s = zI (lc r s)) (h59 : ∀ q, q < 65536 → I0 59 q = zI (nlb D cd jl jn q)) (h56 : I0 0 56 = zI (c : Nat)) (hz : ∀ d, d < dn → I0 64 d = zI (-1) ∧ I0 65 d = zI (-1)) :
    wp (f_X12_findDevices_L123 nm_F (zI 0) I0) (fun I' => eO I' (fun d n => ∃ s u, s < 4096 ∧ r s = true ∧ lc r s = (d : Int) ∧ nbr s u ∧ nlb D cd jl jn (4096 * c + u) = (n : Int)) dn ∧ eOF I0 I') := by
  have hdn4 : dn ≤ 4096 := by
    rw [hdn]
    exact pc_le _ _
  have key : ∀ (f s0 : Nat) (S : nm_I), s0 ≤ 4096 → 4096 - s0 < f → eO S (fun d n => ∃ s u, s < s0 ∧ r s = true ∧ lc r s = (d : Int) ∧ nbr s u ∧ nlb D cd jl jn (4096 * c + u) = (n : Int)) dn → eOF I0 S → wp (f_X12_findDevices_L123 f (zI (s0 : Nat)) S) (fun I' => eO I' (fun d n => ∃ s u, s < 4096 ∧ r s = true ∧ lc r s = (d : Int) ∧ nbr s u ∧ nlb D cd jl jn (4096 * c + u) = (n : Int)) dn ∧ eOF I0 I') := by
    intro f
    induction f with
    | zero => intro i S h1 h2; omega
    | succ f ih =>
      intro s S hs hf hI hF
      rw [f_X12_findDevices_L123, show (4096 : Int32) = zI 4096 from rfl]
      simp (disch := omega) only [zI_le]
      refine wp_if (fun h => ?_) (fun h => ?_)
      · have : s = 4096 := by omega
        subst this
        exact wp_r ⟨hI, hF⟩
      have hs4 : s < 4096 := by omega
      have hrng := Lab_rng (Lab_lc r 4096) hs4
      have e28 : S 28 (zI (s : Nat)).toNatClampNeg = zI (lc r s) := by
        rw [zI_cl (by omega) (by omega), Int.toNat_natCast, hF _ _ (by omega) (by omega)]
        exact h28 s hs4
      have hpc : pc (ldr r (CP r)) 4096 ≤ 4096 := pc_le _ _
      rw [nm_cz (by omega) (by omega) (by omega), e28, show (0 : Int32) = zI 0 from rfl]
      simp (disch := omega) only [zI_le]
      have hnext : ∀ S' : nm_I, eO S' (fun d n => ∃ s' u, s' < s + 1 ∧ r s' = true ∧ lc r s' = (d : Int) ∧ nbr s' u ∧ nlb D cd jl jn (4096 * c + u) = (n : Int)) dn → eOF I0 S' → wp (f_X12_findDevices_J247 (zI (s : Nat)) S' (f_X12_findDevices_L123 f)) (fun I' => eO I' (fun d n => ∃ s u, s < 4096 ∧ r s = true ∧ lc r s = (d : Int) ∧ nbr s u ∧ nlb D cd jl jn (4096 * c + u) = (n : Int)) dn ∧ eOF I0 I') := by
        intro S' a b
        unfold f_X12_findDevices_J247
        rw [zI_inc]
        exact ih (s + 1) S' (by omega) (by omega) a b
      refine wp_if (fun h0 => ?_) (fun h0 => ?_)
      · have hr := hrng.2.2.mp h0
        obtain ⟨d, hd⟩ := Int.eq_ofNat_of_zero_le h0
        have hdd : d < dn := by
          rw [hdn]
          show d < pc (ldr r (CP r)) 4096
          omega
        have hd28 : I0 28 s = zI (d : Nat) := by rw [h28 s hs4, hd]
        have e56 : S 0 56 = zI (c : Nat) := (hF 0 56 (by omega) (by omega)).trans h56
        rw [e56, zI_mul, zI_add, nm_l_eq, nm_cz (by omega) (by omega) (by omega), hd, show 4096 * ((c : Nat) : Int) + ((s : Nat) : Int) = ((4096 * c + s : Nat) : Int) by omega]
        have hr0 := nlb_rng (D := D) (cd := cd) (jl := jl) (jn := jn) (q := 4096 * c + s) (by omega)
        refine wp_s1 _ (w_ends hdn4 hI hdd (t := 4096 * c + s) (by omega) ((hF _ _ (by omega) (by omega)).trans (h59 _ (by omega))) hr0.1 hr0.2) ?_
        rintro S1 ⟨z1, z2⟩
        have hF1 : eOF I0 S1 := fun m j a b => (z2 m j a b).trans (hF m j a b)
        have hE1 : eO S1 (fun d' n => (∃ s' u, s' < s ∧ r s' = true ∧ lc r s' = (d' : Int) ∧ nbr s' u ∧ nlb D cd jl jn (4096 * c + u) = (n : Int)) ∨ (d' = d ∧ ∃ u, u = s ∧ nlb D cd jl jn (4096 * c + u) = (n : Int))) dn := eO_congr z1 (fun d' n _ => ⟨fun q => q.imp id (fun ⟨a, b⟩ => ⟨a, s, rfl, b⟩), fun q => q.imp id (fun ⟨a, u, b, e⟩ => ⟨a, by rw [b] at e; exact e⟩)⟩)
        have e64 : zI (s : Nat) - zI (s : Nat) / (64 : Int32) * (64 : Int32) = zI ((s % 64 : Nat) : Int) := by
          rw [show (64 : Int32) = zI 64 from rfl, md (by omega) (by omega) (by omega) (by omega)]
          rfl
        rw [e64, show (1 : Int32) = zI 1 from rfl, zI_sub]
        simp (disch := omega) only [zI_le]
        refine w_estage (u0 := s - 1) hcl hdn4 hdd hs4 hd28 h59 hE1 hF1 (fun hc => ⟨by omega, congrArg zI (by omega)⟩) ?_
        intro S2 hE2 hF2
        unfold f_X12_findDevices_J184
        rw [e64, show (63 : Int32) = zI 63 from rfl, show (1 : Int32) = zI 1 from rfl, zI_add]
        simp (disch := omega) only [zI_le]
        refine w_estage (u0 := s + 1) hcl hdn4 hdd hs4 hd28 h59 hE2 hF2 (fun hc => ⟨by omega, congrArg zI (by omega)⟩) ?_
        intro S3 hE3 hF3
        unfold f_X12_findDevices_J206
        rw [show (64 : Int32) = zI 64 from rfl, zI_sub]
        simp (disch := omega) only [zI_lt]
        refine w_estage (u0 := s - 64) hcl hdn4 hdd hs4 hd28 h59 hE3 hF3 (fun hc => ⟨by omega, congrArg zI (by omega)⟩) ?_
        intro S4 hE4 hF4
        unfold f_X12_findDevices_J226
        rw [show (4032 : Int32) = zI 4032 from rfl, show (64 : Int32) = zI 64 from rfl, zI_add]
        simp (disch := omega) only [zI_le]
        refine w_estage (u0 := s + 64) (Kf := fun I => f_X12_findDevices_J247 (zI (s : Nat)) I (f_X12_findDevices_L123 f)) hcl hdn4 hdd hs4 hd28 h59 hE4 hF4 (fun hc => ⟨by omega, congrArg zI (by omega)⟩) ?_
        intro S5 hE5 hF5
        refine hnext S5 (eO_congr hE5 (fun d' n _ => ?_)) hF5
        constructor
        · rintro (⟨s', u, a, b⟩ | ⟨q, u, a, b⟩)
          · exact ⟨s', u, by omega, b⟩
          · subst q
            refine ⟨s, u, by omega, hr, hd, ?_, b⟩
            unfold nbr
            rcases a with (((a | ⟨a, a2⟩) | ⟨a, a2⟩) | ⟨a, a2⟩) | ⟨a, a2⟩
            · omega
            · omega
            · omega
            · omega
            · omega
        · rintro ⟨s', u, a, b, e, g, i⟩
          by_cases hss : s' = s
          · subst hss
            refine Or.inr ⟨by omega, u, ?_, i⟩
            obtain ⟨g1, g2⟩ := g
            rcases g2 with g2 | ⟨g2, g3⟩ | ⟨g2, g3⟩ | g2 | g2
            · exact Or.inl (Or.inl (Or.inl (Or.inl g2)))
            · exact Or.inl (Or.inl (Or.inl (Or.inr ⟨by omega, by omega⟩)))
            · exact Or.inl (Or.inl (Or.inr ⟨by omega, by omega⟩))
            · exact Or.inl (Or.inr ⟨by omega, by omega⟩)
            · exact Or.inr ⟨by omega, by omega⟩
          · exact Or.inl ⟨s', u, by omega, b, e, g, i⟩
      · refine hnext S (eO_congr hI (fun d' n _ => ?_)) hF
        constructor
        · rintro ⟨s', u, a, b⟩
          exact ⟨s', u, by omega, b⟩
        · rintro ⟨s', u, a, b, e, g⟩
          by_cases hss : s' = s
          · subst hss
            exact absurd (hrng.2.2.mpr b) h0
          · exact ⟨s', u, by omega, b, e, g⟩
  refine key nm_F 0 I0 (by omega) (by rw [nm_F_eq]; omega) (fun d hd => ?_) (fun _ _ _ _ => rfl)
  have hno : ∀ n : Nat, ¬ ∃ s u, s < 0 ∧ r s = true ∧ lc r s = (d : Int) ∧ nbr s u ∧ nlb D cd jl jn (4096 * c + u) = (n : Int) := fun n ⟨s, u, h, _⟩ => absurd h (Nat.not_lt_zero _)
  exact ⟨fun n hn => absurd hn (hno n), (-1, -1), (hz d hd).1, (hz d hd).2, Or.inl ⟨rfl, hno⟩⟩
/-- what finding devices leaves as it was, in the reference -/
abbrev fdO (I I' : nm_I) : Prop := ∀ n k, ¬ (28 ≤ n ∧ n ≤ 32) → ¬ (62 ≤ n ∧ n ≤ 65) → ¬ (n = 0 ∧ (k = 33 ∨ k = 34 ∨ k = 65)) → I' n k = I n k
set_option maxHeartbeats 1000000 in
theorem w_findDevicesO {gt : gt3} (hgk : gok gt) {I : nm_I} (hO : oR I D) (hcd : cR I cd) (hT : tNv I D cd jl jn) (hX : gtO I gt) :
    wp (f_X12_findDevices I) (fun I' => dvO I' (dvN D gt) (dvF D cd jl jn gt) ∧ fdO I I') := by
  unfold f_X12_findDevices
  rw [nm_l_eq]
  obtain ⟨B, hB⟩ : ∃ B, B = nm_up I 0 65 (0 : Int32) := ⟨_, rfl⟩
  rw [← hB]
  have b1 : ∀ m k, ¬ (m = 0 ∧ k = 65) → B m k = I m k := fun m k h => by rw [hB, nm_up_ap, if_neg h]
  have b2 : B 0 65 = 0 := by rw [hB, nm_up_ap, if_pos ⟨rfl, rfl⟩]
  clear hB
  rw [b1 0 54 (by omega)]
  cases gt with
  | none =>
    have x1 : I 0 54 = zI (-1) := hX
    rw [x1, if_neg (by decide)]
    exact wp_r ⟨⟨b2, fun d hd => absurd hd (Nat.not_lt_zero _)⟩, fun m k _ _ c => b1 m k (by omega)⟩
  | some t =>
    obtain ⟨t1, t2, t3⟩ := hgk t rfl
    obtain ⟨x1, x2, x3⟩ := hX
    obtain ⟨r, hr⟩ : ∃ r, r = rcm D t.1 t.2.1 := ⟨_, rfl⟩
    rw [x1, zI_0]
    simp (disch := omega) only [zI_le]
    rw [if_pos (by omega), b1 0 55 (by omega), x2, show (4096 : Int32) * zI (t.1 : Nat) = zI ((4096 * t.1 : Nat) : Int) by rw [show (4096 : Int32) = zI 4096 from rfl, zI_mul]; rfl]
    refine wp_s1 _ (w_findPieces t1 t2 (oR_fr hO (fun k => b1 20 k (by omega)))) ?_
    rintro I1 ⟨⟨p1, p2, p3⟩, p4, p5⟩
    rw [← hr] at p1 p2 p3
    have p6 : ∀ n k, ¬ (28 ≤ n ∧ n ≤ 32) → ¬ (n = 0 ∧ (k = 33 ∨ k = 34 ∨ k = 65)) → I1 n k = I n k := fun n k a b => (p5 n k a (by omega)).trans (b1 n k (by omega))
    obtain ⟨dn, hdn⟩ : ∃ dn, dn = nP r := ⟨_, rfl⟩
    have hdn4 : dn ≤ 4096 := by
      rw [hdn]
      exact pc_le _ _
    have p2' : I1 0 33 = zI (dn : Nat) := by
      rw [hdn]
      exact p2
    rw [nm_l_eq, p2']
    obtain ⟨B1, hB1⟩ : ∃ B1, B1 = nm_up I1 0 65 (zI (dn : Nat)) := ⟨_, rfl⟩
    rw [← hB1]
    have c1 : ∀ m k, ¬ (m = 0 ∧ k = 65) → B1 m k = I1 m k := fun m k h => by rw [hB1, nm_up_ap, if_neg h]
    have c2 : B1 0 65 = zI (dn : Nat) := by rw [hB1, nm_up_ap, if_pos ⟨rfl, rfl⟩]
    clear hB1
    have hsz : ∀ d, d < dn → mPp r d (mP r d) ∧ B1 29 d = zI (((mP r d).1 : Nat) : Int) ∧ B1 31 d = zI (((mP r d).2.1 : Nat) : Int) := fun d hd => by
      obtain ⟨a, b, c, hm, u1, u2, u3⟩ := p3 d (by rw [hdn] at hd; exact hd)
      obtain ⟨v1, v2, v3, v4⟩ := mP_sp (fun _ _ => rfl) hm
      exact ⟨v1, by rw [← v2, c1 _ _ (by omega)]; exact u1, by rw [← v3, c1 _ _ (by omega)]; exact u2⟩
    have h54 : B1 0 54 = zI (t.1 : Nat) := by
      rw [c1 _ _ (by omega), p6 _ _ (by omega) (by omega)]
      exact x1
    have h59 : ∀ q, q < 65536 → B1 59 q = zI (nlb D cd jl jn q) := fun q hq => by
      rw [c1 _ _ (by omega), p6 _ _ (by omega) (by omega)]
      exact hT.1 q hq
    have h50 : B1 50 t.1 = if cd t.1 = true then 1 else 0 := by
      rw [c1 _ _ (by omega), p6 _ _ (by omega) (by omega)]
      exact hcd _ t1
    -- sizes, gates
    have key : ∀ (f i : Nat) (Z : nm_I), i ≤ dn → dn - i < f → (∀ d, d < i → Z 62 d = zI (((mP r d).1 : Nat) : Int) ∧ Z 63 d = zI (nlb D cd jl jn (4096 * t.1 + (mP r d).2.1)) ∧ Z 64 d = zI (-1) ∧ Z 65 d = zI (-1)) → (∀ m k, ¬ (62 ≤ m ∧ m ≤ 65) → Z m k = B1 m k) → wp (f_X12_findDevices_L39 f (zI (i : Nat)) Z) (fun Z => (∀ d, d < dn → Z 62 d = zI (((mP r d).1 : Nat) : Int) ∧ Z 63 d = zI (nlb D cd jl jn (4096 * t.1 + (mP r d).2.1)) ∧ Z 64 d = zI (-1) ∧ Z 65 d = zI (-1)) ∧ ∀ m k, ¬ (62 ≤ m ∧ m ≤ 65) → Z m k = B1 m k) := by
      intro f
      induction f with
      | zero => intro i Z h1 h2; omega
      | succ f ih =>
        intro i Z hi hf hI hF
        rw [f_X12_findDevices_L39, hF 0 65 (by omega), c2]
        simp (disch := omega) only [zI_le]
        refine wp_if (fun h => ?_) (fun h => ?_)
        · have : i = dn := by omega
          subst this
          exact wp_r ⟨hI, hF⟩
        obtain ⟨v1, v2, v3⟩ := hsz i (by omega)
        have hl4 := v1.2.1
        rw [nm_cz (by omega) (by omega) (by omega), nm_cz (by omega) (by omega) (by omega), zI_cl (by omega) (by omega), Int.toNat_natCast, hF 29 i (by omega), v2, nm_l_eq]
        obtain ⟨Z1, hZ1⟩ : ∃ Z1, Z1 = nm_up Z 62 i (zI (((mP r i).1 : Nat) : Int)) := ⟨_, rfl⟩
        rw [← hZ1]
        have d1 : ∀ m k, ¬ (m = 62 ∧ k = i) → Z1 m k = Z m k := fun m k h => by rw [hZ1, nm_up_ap, if_neg h]
        have d2 : Z1 62 i = zI (((mP r i).1 : Nat) : Int) := by rw [hZ1, nm_up_ap, if_pos ⟨rfl, rfl⟩]
        clear hZ1
        have hgo : ∀ z : Int32, z = zI (nlb D cd jl jn (4096 * t.1 + (mP r i).2.1)) → wp (f_X12_findDevices_J100 (zI (i : Nat)) z (zI (i : Nat)) Z1 (f_X12_findDevices_L39 f)) (fun Z => (∀ d, d < dn → Z 62 d = zI (((mP r d).1 : Nat) : Int) ∧ Z 63 d = zI (nlb D cd jl jn (4096 * t.1 + (mP r d).2.1)) ∧ Z 64 d = zI (-1) ∧ Z 65 d = zI (-1)) ∧ ∀ m k, ¬ (62 ≤ m ∧ m ≤ 65) → Z m k = B1 m k) := by
          intro z hz
          unfold f_X12_findDevices_J100
          rw [nm_cz (by omega) (by omega) (by omega), zI_cl (by omega) (by omega), Int.toNat_natCast, nm_l_eq, nm_cz (by omega) (by omega) (by omega), nm_l_eq, nm_cz (by omega) (by omega) (by omega), nm_l_eq, zI_inc]
          refine ih (i + 1) _ (by omega) (by omega) (fun d hd => ?_) (fun m k hm => ?_)
          · by_cases hdi : d = i
            · subst hdi
              refine ⟨?_, ?_, ?_, ?_⟩
              · rw [nm_up_ap, if_neg (by omega), nm_up_ap, if_neg (by omega), nm_up_ap, if_neg (by omega)]
                exact d2
              · rw [nm_up_ap, if_neg (by omega), nm_up_ap, if_neg (by omega), nm_up_ap, if_pos ⟨rfl, rfl⟩]
                exact hz
              · rw [nm_up_ap, if_neg (by omega), nm_up_ap, if_pos ⟨rfl, rfl⟩]
                rfl
              · rw [nm_up_ap, if_pos ⟨rfl, rfl⟩]
                rfl
            · obtain ⟨a, b, c, e⟩ := hI d (by omega)
              refine ⟨?_, ?_, ?_, ?_⟩
              · rw [nm_up_ap, if_neg (by omega), nm_up_ap, if_neg (by omega), nm_up_ap, if_neg (by omega), d1 _ _ (by omega)]
                exact a
              · rw [nm_up_ap, if_neg (by omega), nm_up_ap, if_neg (by omega), nm_up_ap, if_neg (by omega), d1 _ _ (by omega)]
                exact b
              · rw [nm_up_ap, if_neg (by omega), nm_up_ap, if_neg (by omega), nm_up_ap, if_neg (by omega), d1 _ _ (by omega)]
                exact c
              · rw [nm_up_ap, if_neg (by omega), nm_up_ap, if_neg (by omega), nm_up_ap, if_neg (by omega), d1 _ _ (by omega)]
                exact e
          · rw [nm_up_ap, if_neg (by omega), nm_up_ap, if_neg (by omega), nm_up_ap, if_neg (by omega), d1 _ _ (by omega)]
            exact hF m k hm
        have e54 : Z1 0 54 = zI (t.1 : Nat) := by
          rw [d1 _ _ (by omega), hF _ _ (by omega)]
          exact h54
        have e50 : Z1 50 t.1 = if cd t.1 = true then 1 else 0 := by
          rw [d1 _ _ (by omega), hF _ _ (by omega)]
          exact h50
        have e31 : Z1 31 i = zI (((mP r i).2.1 : Nat) : Int) := by
          rw [d1 _ _ (by omega), hF _ _ (by omega)]
          exact v3
        rw [e54, nm_cz (by omega) (by omega) (by omega), zI_cl (by omega) (by omega), Int.toNat_natCast, e50]
        cases hct : cd t.1 with
        | false =>
          rw [if_pos (show (if false = true then (1 : Int32) else 0) = 0 from rfl)]
          refine hgo _ ?_
          have : nR D cd (4096 * t.1 + (mP r i).2.1) = false := by
            unfold nR
            rw [show (4096 * t.1 + (mP r i).2.1) / 4096 = t.1 by omega, hct, Bool.false_and, Bool.and_false]
          unfold nlb
          rw [this, if_neg (by decide)]
          rfl
        | true =>
          rw [if_neg (show ¬ (if true = true then (1 : Int32) else 0) = 0 by decide), nm_cz (by omega) (by omega) (by omega), e31, show (4096 : Int32) * zI (t.1 : Nat) + zI (((mP r i).2.1 : Nat) : Int) = zI ((4096 * t.1 + (mP r i).2.1 : Nat) : Int) by rw [show (4096 : Int32) = zI 4096 from rfl, zI_mul, zI_add]; rfl, nm_cz (by omega) (by omega) (by omega), zI_cl (by omega) (by omega), Int.toNat_natCast]
          refine hgo _ ?_
          rw [d1 _ _ (by omega), hF _ _ (by omega)]
          exact h59 _ (by omega)
    refine wp_s1 _ (key nm_F 0 B1 (by omega) (by rw [nm_F_eq]; omega) (fun d hd => absurd hd (Nat.not_lt_zero _)) (fun _ _ _ => rfl)) ?_
    rintro I2 ⟨k1, k2⟩
    refine wp_s1 _ (w_devEndsO (D := D) (cd := cd) (jl := jl) (jn := jn) (r := r) (dn := dn) (c := t.2.2) t3 hdn (fun s hs => ?_) (fun q hq => ?_) ?_ (fun d hd => (k1 d hd).2.2)) ?_
    · rw [k2 _ _ (by omega), c1 _ _ (by omega)]
      exact p1 s hs
    · rw [k2 _ _ (by omega)]
      exact h59 q hq
    · rw [k2 _ _ (by omega), c1 _ _ (by omega), p6 _ _ (by omega) (by omega)]
      exact x3
    rintro I3 ⟨l1, l2⟩
    have hdvN : dvN D (some t) = dn := by
      rw [hdn, hr]
      rfl
    have hdv : ∀ d, dvF D cd jl jn (some t) d = ((mP r d).1, nlb D cd jl jn (4096 * t.1 + (mP r d).2.1), (twoP (dEnd D cd jl jn t d)).1, (twoP (dEnd D cd jl jn t d)).2) := fun d => by
      rw [hr]
      rfl
    refine wp_r ⟨⟨?_, fun d hd => ?_⟩, fun m k a b c => ?_⟩
    · rw [hdvN, l2 _ _ (by omega) (by omega), k2 _ _ (by omega)]
      exact c2
    · rw [hdvN] at hd
      rw [hdv]
      obtain ⟨q1, q2, q3, q4⟩ := k1 d hd
      obtain ⟨m1, e, m2, m3, m4⟩ := l1 d hd
      have e9 := twoP_eq (two_congr m4 (fun n => show _ ↔ dEnd D cd jl jn t d n by
        unfold dEnd
        rw [← hr]))
      rw [e9]
      exact ⟨(l2 _ _ (by omega) (by omega)).trans q1, (l2 _ _ (by omega) (by omega)).trans q2, m2, m3⟩
    · rw [l2 m k (by omega) (by omega), k2 m k b, c1 m k (by omega)]
      exact p6 m k a c
end
