/-! devices, by the program -/
noncomputable def twoP (P : Nat → Prop) : Int × Int := @dite _ (∃ e, two2 P e) (Classical.propDecidable _) (fun h => Classical.choose h) (fun _ => (-1, -1))
theorem twoP_eq {P : Nat → Prop} {e : Int × Int} (h : two2 P e) : twoP P = e := by
  have hex : ∃ e, two2 P e := ⟨e, h⟩
  unfold twoP
  rw [dif_pos hex]
  exact two_un (Classical.choose_spec hex) h
abbrev gt3 : Type := Option (Nat × Nat × Nat)
abbrev dvT : Type := Nat → Nat × Int × Int × Int
section
variable {D cd : Nat → Bool} {jl : jo} {jn : Nat}
def dEnd (D cd : Nat → Bool) (jl : jo) (jn : Nat) (t : Nat × Nat × Nat) (d n : Nat) : Prop := ∃ s u, s < 4096 ∧ rcm D t.1 t.2.1 s = true ∧ lc (rcm D t.1 t.2.1) s = (d : Int) ∧ nbr s u ∧ nlb D cd jl jn (4096 * t.2.2 + u) = (n : Int)
noncomputable def dvF (D cd : Nat → Bool) (jl : jo) (jn : Nat) (gt : gt3) (d : Nat) : Nat × Int × Int × Int := match gt with
  | none => (0, 0, 0, 0)
  | some t => ((mP (rcm D t.1 t.2.1) d).1, nlb D cd jl jn (4096 * t.1 + (mP (rcm D t.1 t.2.1) d).2.1), (twoP (dEnd D cd jl jn t d)).1, (twoP (dEnd D cd jl jn t d)).2)
noncomputable def dvN (D : Nat → Bool) (gt : gt3) : Nat := match gt with
  | none => 0
  | some t => nP (rcm D t.1 t.2.1)
def dvR (n : Nat) (f : dvT) : Prop := n ≤ 4096 ∧ ∀ d, d < n → (f d).1 ≤ 4096 ∧ (-1 ≤ (f d).2.1 ∧ (f d).2.1 < 65536) ∧ (-1 ≤ (f d).2.2.1 ∧ (f d).2.2.1 < 65536) ∧ -1 ≤ (f d).2.2.2 ∧ (f d).2.2.2 < 65536
def dvX (S : ca) (n : Nat) (f : dvT) : Prop := S.1.1 300 3 = zI (n : Nat) ∧ (n ≤ S.2 322 ∧ n ≤ S.2 302 ∧ n ≤ S.2 303 ∧ n ≤ S.2 304) ∧ ∀ d, d < n → S.1.1 322 d = zI (((f d).1 : Nat) : Int) ∧ S.1.1 302 d = zI (f d).2.1 ∧ S.1.1 303 d = zI (f d).2.2.1 ∧ S.1.1 304 d = zI (f d).2.2.2
def gok (gt : gt3) : Prop := ∀ t, gt = some t → t.1 < 16 ∧ t.2.1 < 16 ∧ t.2.2 < 16
def gtX (M : cm) (gt : gt3) : Prop := match gt with
  | none => M.1 300 6 = zI (-1) ∧ M.1 300 8 = zI (-1)
  | some t => M.1 300 6 = zI (t.1 : Nat) ∧ M.1 300 7 = zI (t.2.1 : Nat) ∧ M.1 300 8 = zI (t.2.2 : Nat)
theorem w_netAt {S : ca} (hc : cO S.2) {lab : Nat → Int} {cnt : Nat} (hg : gD S 310 1024 (nR D cd) (CQn D cd jl jn) lab cnt) {l q : Nat} (hl : l < 16) (hq : q < 4096) : f_X2_netAt S.2 (zI (l : Nat)) (zI (q : Nat)) S.1 = some (zI (lab (4096 * l + q))) := by
  unfold f_X2_netAt
  rw [show (64 : Int32) = zI 64 from rfl, md (by omega) (by omega) (by omega) (by omega), zI_div (by omega) (by omega) (by omega) (by omega), zI_mul, zI_add]
  have h := w_groupAt gN_310 hc hg (y := 64 * l + q / 64) (x := q % 64) (by omega) (by omega)
  rw [show 64 * ((l : Nat) : Int) + ((q : Nat) : Int) / 64 = ((64 * l + q / 64 : Nat) : Int) by omega, show ((q : Nat) : Int) % 64 = ((q % 64 : Nat) : Int) by omega, h, nm_s1_some, show 64 * (64 * l + q / 64) + q % 64 = 4096 * l + q by omega]
theorem prc_0 {r : Nat → Bool} (q : Nat) : prc r 0 q = false := by
  unfold prc
  rw [show pc (hdp r) 0 = 0 from rfl]
  simp
/-- what finding devices leaves as it was -/
def fdF (S S' : ca) : Prop := (∀ m, m ≠ 321 → S'.1.2 m = S.1.2 m) ∧ (∀ x, ¬ (302 ≤ x ∧ x ≤ 304) → ¬ (322 ≤ x ∧ x ≤ 326) → S'.2 x = S.2 x) ∧ ∀ m k, ¬ (m = 300 ∧ k = 3) → ¬ (302 ≤ m ∧ m ≤ 304) → ¬ (320 ≤ m ∧ m ≤ 326) → S'.1.1 m k = S.1.1 m k
theorem fdF_tr {S S1 S2 : ca} (h1 : fdF S S1) (h2 : fdF S1 S2) : fdF S S2 :=
  ⟨fun m a => (h2.1 m a).trans (h1.1 m a), fun x a b => (h2.2.1 x a b).trans (h1.2.1 x a b), fun m k a b c => (h2.2.2 m k a b c).trans (h1.2.2 m k a b c)⟩
theorem gD_fd {S S' : ca} {lab : Nat → Int} {cnt : Nat} (h : gD S 310 1024 (nR D cd) (CQn D cd jl jn) lab cnt) (hf : fdF S S') : gD S' 310 1024 (nR D cd) (CQn D cd jl jn) lab cnt := by
  obtain ⟨h1, h2, h3, h4, h5, h6, h7⟩ := h
  refine ⟨fun y x hy hx => by rw [hf.1 _ (by omega)]; exact h1 y x hy hx, fun y hy => (hf.2.2 _ _ (by omega) (by omega) (by omega)).trans (h2 y hy), fun p hp hr => (hf.2.2 _ _ (by omega) (by omega) (by omega)).trans (h3 p hp hr), (hf.2.2 _ _ (by omega) (by omega) (by omega)).trans h4, by rw [hf.2.1 _ (by omega) (by omega)]; exact h5, (hf.2.2 _ _ (by omega) (by omega) (by omega)).trans h6, h7⟩
/-- the devices' gates; no ends yet -/
theorem w_devGates {S : ca} (hc : cO S.2) {lab : Nat → Int} {cnt : Nat} (hg : gD S 310 1024 (nR D cd) (CQn D cd jl jn) lab cnt) {g dn : Nat} {ls : Nat → Nat} (hgl : g < 16) (hdn : dn ≤ 4096) (h6 : S.1.1 300 6 = zI (g : Nat)) (h3 : S.1.1 300 3 = zI (dn : Nat)) (hls : ∀ d, d < dn → ls d < 4096 ∧ S.1.1 323 d = zI (ls d : Nat)) (n1 : dn ≤ S.2 323) (n2 : dn ≤ S.2 302) (n3 : dn ≤ S.2 303) (n4 : dn ≤ S.2 304) :
    wp (f_X2_findDevices_L97 nm_F (zI 0) S) (fun S' => (∀ d, d < dn → S'.1.1 302 d = zI (lab (4096 * g + ls d)) ∧ S'.1.1 303 d = zI (-1) ∧ S'.1.1 304 d = zI (-1)) ∧ S'.1.2 = S.1.2 ∧ S'.2 = S.2 ∧ ∀ m k, ¬ (302 ≤ m ∧ m ≤ 304) → S'.1.1 m k = S.1.1 m k) := by
  have key : ∀ (f i : Nat) (Z : ca), i ≤ dn → dn - i < f → (∀ d, d < i → Z.1.1 302 d = zI (lab (4096 * g + ls d)) ∧ Z.1.1 303 d = zI (-1) ∧ Z.1.1 304 d = zI (-1)) → Z.1.2 = S.1.2 → Z.2 = S.2 → (∀ m k, ¬ (302 ≤ m ∧ m ≤ 304) → Z.1.1 m k = S.1.1 m k) → wp (f_X2_findDevices_L97 f (zI (i : Nat)) Z) (fun S' => (∀ d, d < dn → S'.1.1 302 d = zI (lab (4096 * g + ls d)) ∧ S'.1.1 303 d = zI (-1) ∧ S'.1.1 304 d = zI (-1)) ∧ S'.1.2 = S.1.2 ∧ S'.2 = S.2 ∧ ∀ m k, ¬ (302 ≤ m ∧ m ≤ 304) → S'.1.1 m k = S.1.1 m k) := by
    intro f
    induction f with
    | zero => intro i Z h1 h2; omega
    | succ f ih =>
      intro i Z hi hf hI e1 e2 hF
      rw [f_X2_findDevices_L97, hF 300 3 (by omega), h3]
      simp (disch := omega) only [zI_le]
      refine wp_if (fun h => ?_) (fun h => ?_)
      · have : i = dn := by omega
        subst this
        exact wp_r ⟨hI, e1, e2, hF⟩
      obtain ⟨l1, l2⟩ := hls i (by omega)
      have hgZ : gD Z 310 1024 (nR D cd) (CQn D cd jl jn) lab cnt := gD_fr hg e1 (by rw [e2]) (fun m k hm => hF m k (by omega))
      have hcZ : cO Z.2 := by rw [e2]; exact hc
      rw [e2, nm_cz (by omega) (by omega) (by omega), zI_cl (by omega) (by omega), Int.toNat_natCast, hF 300 6 (by omega), h6, hF 323 i (by omega), l2, ← e2, w_netAt hcZ hgZ hgl l1, nm_s1_some, e2, nm_cz (by omega) (by omega) (by omega), nm_l_eq, nm_cz (by omega) (by show ((i : Nat) : Int) < ((S.2 303 : Nat) : Int); omega) (by omega), nm_l_eq, nm_cz (by omega) (by show ((i : Nat) : Int) < ((S.2 304 : Nat) : Int); omega) (by omega), nm_l_eq, zI_inc]
      obtain ⟨B, hB⟩ : ∃ B, B = nm_up (nm_up (nm_up Z.1.1 302 i (zI (lab (4096 * g + ls i)))) 303 i (-1)) 304 i (-1) := ⟨_, rfl⟩
      show wp (f_X2_findDevices_L97 f _ ((nm_up (nm_up (nm_up Z.1.1 302 i (zI (lab (4096 * g + ls i)))) 303 i (-1)) 304 i (-1), Z.1.2), S.2)) _
      rw [← hB]
      have b1 : ∀ m k, ¬ ((302 ≤ m ∧ m ≤ 304) ∧ k = i) → B m k = Z.1.1 m k := fun m k h => by
        rw [hB, nm_up_ap, if_neg (by omega), nm_up_ap, if_neg (by omega), nm_up_ap, if_neg (by omega)]
      have b2 : B 302 i = zI (lab (4096 * g + ls i)) := by
        rw [hB, nm_up_ap, if_neg (by omega), nm_up_ap, if_neg (by omega), nm_up_ap, if_pos ⟨rfl, rfl⟩]
      have b3 : B 303 i = -1 := by
        rw [hB, nm_up_ap, if_neg (by omega), nm_up_ap, if_pos ⟨rfl, rfl⟩]
      have b4 : B 304 i = -1 := by
        rw [hB, nm_up_ap, if_pos ⟨rfl, rfl⟩]
      clear hB
      refine ih (i + 1) _ (by omega) (by omega) (fun d hd => ?_) e1 rfl (fun m k hm => (b1 m k (by omega)).trans (hF m k hm))
      by_cases hdi : d = i
      · subst hdi
        exact ⟨b2, b3, b4⟩
      · obtain ⟨a, b, c⟩ := hI d (by omega)
        exact ⟨(b1 _ _ (by omega)).trans a, (b1 _ _ (by omega)).trans b, (b1 _ _ (by omega)).trans c⟩
  exact key nm_F 0 S (by omega) (by rw [nm_F_eq]; omega) (fun d hd => absurd hd (Nat.not_lt_zero _)) rfl rfl (fun _ _ _ => rfl)
theorem w_devEnds {S : ca} (hc : cO S.2) {lab : Nat → Int} {cnt : Nat} (hg : gD S 310 1024 (nR D cd) (CQn D cd jl jn) lab cnt) {r2 : Nat → Bool} {lab2 : Nat → Int} {dn : Nat} (hg2 : gD S 320 64 r2 (CP r2) lab2 dn) {c : Nat} (hcl : c < 16) (h8 : S.1.1 300 8 = zI (c : Nat)) (h3 : dn ≤ S.2 303) (h4 : dn ≤ S.2 304) (hz : ∀ d, d < dn → S.1.1 303 d = zI (-1) ∧ S.1.1 304 d = zI (-1)) :
    wp (f_X2_findDevices_L150 nm_F (zI 0) S) (fun S' => eX S'.1 (PE r2 lab2 lab c 4096) dn ∧ eXF S.1 S'.1 ∧ S'.2 = S.2) := by
  have key : ∀ (f y : Nat) (Z : ca), y ≤ 64 → 64 - y < f → eX Z.1 (PE r2 lab2 lab c (64 * y)) dn → eXF S.1 Z.1 → Z.2 = S.2 → wp (f_X2_findDevices_L150 f (zI (y : Nat)) Z) (fun S' => eX S'.1 (PE r2 lab2 lab c 4096) dn ∧ eXF S.1 S'.1 ∧ S'.2 = S.2) := by
    intro f
    induction f with
    | zero => intro i Z h1 h2; omega
    | succ f ih =>
      intro y Z hy hf hI hF e2
      rw [f_X2_findDevices_L150, show (64 : Int32) = zI 64 from rfl]
      simp (disch := omega) only [zI_le]
      refine wp_if (fun h => ?_) (fun h => ?_)
      · have : y = 64 := by omega
        subst this
        exact wp_r ⟨hI, hF, e2⟩
      have hZ : Z = (Z.1, S.2) := by rw [← e2]
      have g1 : gD Z 310 1024 (nR D cd) (CQn D cd jl jn) lab cnt := by rw [hZ]; exact gD_ends (Or.inl rfl) hg hF
      have g2 : gD Z 320 64 r2 (CP r2) lab2 dn := by rw [hZ]; exact gD_ends (Or.inr rfl) hg2 hF
      refine wp_s1 _ (w_findEnds (S := Z) (by rw [e2]; exact hc) g1 g2 hcl ((hF.2 300 8 (by omega) (by omega)).trans h8) (by rw [e2]; exact h3) (by rw [e2]; exact h4) (y := y) (by omega) hI) ?_
      rintro M' ⟨z1, z2⟩
      rw [nm_l_eq, zI_inc]
      exact ih (y + 1) (M', Z.2) (by omega) (by omega) z1 ⟨z2.1.trans hF.1, fun m j a b => (z2.2 m j a b).trans (hF.2 m j a b)⟩ e2
  refine key nm_F 0 S (by omega) (by rw [nm_F_eq]; omega) (fun d hd => ?_) ⟨rfl, fun _ _ _ _ => rfl⟩ rfl
  have hno : ∀ n, ¬ PE r2 lab2 lab c (64 * 0) d n := fun n ⟨s, u, _, h, _⟩ => by
    rw [prc_0] at h
    exact absurd h (by decide)
  exact ⟨fun n hn => absurd hn (hno n), (-1, -1), (hz d hd).1, (hz d hd).2, Or.inl ⟨rfl, hno⟩⟩
end
