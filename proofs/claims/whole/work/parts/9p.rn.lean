/-! THE CIRCUIT, found, on both sides -/
section
variable {D cd : Nat → Bool} {jl : jo} {jn : Nat}
noncomputable def nnC (D cd : Nat → Bool) (jl : jo) (jn : Nat) : Nat := pc (nls D cd jl jn) 65536
theorem nnC_le : nnC D cd jl jn ≤ 65536 := pc_le _ _
/-- the circuit as it was found, as the program holds it; as the reference holds it -/
def ckX (S : ca) (D cd : Nat → Bool) (jl : jo) (jn : Nat) (gt : gt3) : Prop := (∃ lab, gD S 310 1024 (nR D cd) (CQn D cd jl jn) lab (nnC D cd jl jn) ∧ ∀ q, q < 65536 → lab q = nlb D cd jl jn q) ∧ dvX S (dvN D gt) (dvF D cd jl jn gt) ∧ ∀ l, l < 16 → bi (S.1.1 300 9) l = cd l
def ckO (I : nm_I) (D cd : Nat → Bool) (jl : jo) (jn : Nat) (gt : gt3) : Prop := tNv I D cd jl jn ∧ dvO I (dvN D gt) (dvF D cd jl jn gt) ∧ cR I cd
def ciF (S S' : ca) : Prop := (∀ m, m ≠ 311 → m ≠ 321 → S'.1.2 m = S.1.2 m) ∧ (∀ x, x ≠ 316 → ¬ (302 ≤ x ∧ x ≤ 304) → ¬ (322 ≤ x ∧ x ≤ 326) → S'.2 x = S.2 x) ∧ ∀ m k, ¬ (m = 300 ∧ (k = 2 ∨ k = 3 ∨ k = 9)) → ¬ (m = 400 ∧ k = 3) → ¬ (m = 310 ∧ (k = 1 ∨ k = 7)) → m ≠ 315 → m ≠ 316 → ¬ (302 ≤ m ∧ m ≤ 304) → ¬ (320 ≤ m ∧ m ≤ 326) → S'.1.1 m k = S.1.1 m k
theorem w_circuitX {gt : gt3} (hgk : gok gt) (hj : jok jl jn) {S : ca} (hc : cO S.2) (hD : dR S D) (hm : ∀ l, l < 16 → bi (S.1.1 300 0) l = cd l) (hX : jX S.1 jl jn) (hg : gtX S.1 gt) (hk : S.1.1 100 0 ≠ 0) (hcc : ∀ t, gt = some t → cd t.2.2 = true) :
    wc iN (f_X11_circuit S) S.2 (fun r => r.1 = zI ((nnC D cd jl jn : Nat) : Int) ∧ ckX r.2 D cd jl jn gt ∧ dvR (dvN D gt) (dvF D cd jl jn gt) ∧ cO r.2.2 ∧ r.2.1.1 300 2 = 1 ∧ r.2.1.1 400 3 = 0 ∧ ciF S r.2) := by
  have hlk : f_X2_lacksConductor S.1 = 0 := by
    unfold f_X2_lacksConductor
    cases gt with
    | none =>
      rw [hg.2, if_pos (show zI (-1) = -1 from rfl)]
    | some t =>
      obtain ⟨t1, t2, t3⟩ := hgk t rfl
      rw [hg.2.2, if_neg (by
        rw [show (-1 : Int32) = zI (-1) from rfl, zI_eq (by omega) (by omega) (by omega) (by omega)]
        omega), if_neg]
      intro h
      have := (bi_0 _ (by omega)).mp h
      rw [hm _ t3, hcc t rfl] at this
      exact absurd this (by decide)
  unfold f_X11_circuit
  rw [if_neg hk, if_pos hlk]
  refine wc_a1 _ (w_findNets hj hc hD hm hX) ?_
  rintro S1 ⟨⟨lab, cnt, g⟩, a1, a2, a3, a4, a5⟩
  have a6 : ∀ m k, ¬ (m = 300 ∧ k = 9) → ¬ (m = 310 ∧ (k = 1 ∨ k = 7)) → m ≠ 315 → m ≠ 316 → S1.1.1 m k = S.1.1 m k := fun m k b c d e => a5 m k (by omega)
  have hg1 : gtX S1.1 gt := by
    cases gt with
    | none => exact ⟨(a6 _ _ (by omega) (by omega) (by omega) (by omega)).trans hg.1, (a6 _ _ (by omega) (by omega) (by omega) (by omega)).trans hg.2⟩
    | some t => exact ⟨(a6 _ _ (by omega) (by omega) (by omega) (by omega)).trans hg.1, (a6 _ _ (by omega) (by omega) (by omega) (by omega)).trans hg.2.1, (a6 _ _ (by omega) (by omega) (by omega) (by omega)).trans hg.2.2⟩
  have hD1 : dR S1 D := fun y x hy hx => by
    rw [a2 101 (by omega)]
    exact hD y x hy hx
  refine wc_a1 _ (w_findDevices hgk a1 hD1 g hg1) ?_
  rintro S2 ⟨d1, d2, d3, d4⟩
  have g2 := gD_fd g d4
  obtain ⟨hcn, hlb⟩ := Lab_un CN_sy CN_tr g2.2.2.2.2.2.2 (nLab (64 * 1024))
  have hcn' : cnt = nnC D cd jl jn := hcn
  subst hcn'
  simp only [nm_l_eq]
  obtain ⟨B, hB⟩ : ∃ B, B = nm_up (nm_up S2.1.1 300 2 1) 400 3 0 := ⟨_, rfl⟩
  rw [← hB]
  have b1 : ∀ m k, ¬ (m = 300 ∧ k = 2) → ¬ (m = 400 ∧ k = 3) → B m k = S2.1.1 m k := fun m k h h2 => by rw [hB, nm_up_ap, if_neg h2, nm_up_ap, if_neg h]
  have b2 : B 300 2 = 1 := by rw [hB, nm_up_ap, if_neg (by omega), nm_up_ap, if_pos ⟨rfl, rfl⟩]
  have b3 : B 400 3 = 0 := by rw [hB, nm_up_ap, if_pos ⟨rfl, rfl⟩]
  clear hB
  have gB : gD ((B, S2.1.2), S2.2) 310 1024 (nR D cd) (CQn D cd jl jn) lab (nnC D cd jl jn) := gD_fr g2 rfl rfl (fun m k h => b1 m k (by omega) (by omega))
  refine wc_ri ⟨gB.2.2.2.2.2.1, ⟨⟨lab, gB, hlb⟩, ⟨?_, d1.2.1, fun d hd => ?_⟩, fun l hl => ?_⟩, d2, d3, b2, b3, fun m a b => ?_, fun x a b c => ?_, fun m k a b c d e f h => ?_⟩
  · show B 300 3 = _
    rw [b1 _ _ (by omega) (by omega)]
    exact d1.1
  · show B 322 d = _ ∧ B 302 d = _ ∧ B 303 d = _ ∧ B 304 d = _
    rw [b1 _ _ (by omega) (by omega), b1 _ _ (by omega) (by omega), b1 _ _ (by omega) (by omega), b1 _ _ (by omega) (by omega)]
    exact d1.2.2 d hd
  · show bi (B 300 9) l = _
    rw [b1 _ _ (by omega) (by omega), d4.2.2 _ _ (by omega) (by omega) (by omega), a4]
    exact hm l hl
  · show S2.1.2 m = _
    rw [d4.1 m b, a2 m a]
  · show S2.2 x = _
    rw [d4.2.1 x b c, a3 x a]
  · show B m k = _
    rw [b1 m k (by omega) (by omega), d4.2.2 m k (by omega) f h, a6 m k (by omega) c d e]
def kR (I : nm_I) (cd : Nat → Bool) : Prop := ∀ l, l < 16 → I 49 l = if cd l = true then 1 else 0
def coF (I I' : nm_I) : Prop := ∀ n k, n ≠ 50 → n ≠ 59 → n ≠ 60 → ¬ (28 ≤ n ∧ n ≤ 32) → ¬ (62 ≤ n ∧ n ≤ 65) → ¬ (n = 0 ∧ (k = 22 ∨ k = 33 ∨ k = 34 ∨ k = 57 ∨ k = 60 ∨ k = 65 ∨ k = 72)) → I' n k = I n k
theorem w_circuitO {gt : gt3} (hgk : gok gt) (hj : jok jl jn) {I : nm_I} (hO : oR I D) (hk : kR I cd) (hjO : jO I jl jn) (hg : gtO I gt) :
    wp (f_X12_circuit_J40 I) (fun r => r.1 = zI ((nnC D cd jl jn : Nat) : Int) ∧ ckO r.2 D cd jl jn gt ∧ r.2 0 22 = 1 ∧ r.2 0 72 = 0 ∧ coF I r.2) := by
  have key : ∀ (f l : Nat) (S : nm_I), l ≤ 16 → 16 - l < f → (∀ i, i < l → S 50 i = if cd i = true then 1 else 0) → (∀ n k, n ≠ 50 → S n k = I n k) → wp (f_X12_circuit_L42 f (zI (l : Nat)) S) (fun I' => cR I' cd ∧ ∀ n k, n ≠ 50 → I' n k = I n k) := by
    intro f
    induction f with
    | zero => intro l S h1 h2; omega
    | succ f ih =>
      intro l S hl hf hI hF
      rw [f_X12_circuit_L42, show (16 : Int32) = zI 16 from rfl]
      simp (disch := omega) only [zI_le]
      refine wp_if (fun h => ?_) (fun h => ?_)
      · have : l = 16 := by omega
        subst this
        exact wp_r ⟨hI, hF⟩
      rw [nm_cz (by omega) (by omega) (by omega), nm_cz (by omega) (by omega) (by omega), zI_cl (by omega) (by omega), Int.toNat_natCast, hF 49 l (by omega), hk l (by omega), vp_narZ (hv01 (cd l)), nm_l_eq, zI_inc]
      refine ih (l + 1) _ (by omega) (by omega) (fun i hi => ?_) (fun n k hn => ?_)
      · rw [nm_up_ap]
        by_cases hil : i = l
        · subst hil
          rw [if_pos ⟨rfl, rfl⟩]
        · rw [if_neg (fun h => hil h.2)]
          exact hI i (by omega)
      · rw [nm_up_ap, if_neg (fun h => hn h.1)]
        exact hF n k hn
  unfold f_X12_circuit_J40
  rw [zI_0]
  refine wp_s1 _ (key nm_F 0 I (by omega) (by rw [nm_F_eq]; omega) (fun i hi => absurd hi (Nat.not_lt_zero _)) (fun _ _ _ => rfl)) ?_
  rintro I1 ⟨a1, a2⟩
  have hj1 : jO I1 jl jn := ⟨(a2 _ _ (by omega)).trans hjO.1, fun i hi => by
    obtain ⟨a, b, c⟩ := hjO.2 i hi
    exact ⟨(a2 _ _ (by omega)).trans a, (a2 _ _ (by omega)).trans b, (a2 _ _ (by omega)).trans c⟩⟩
  refine wp_s1 _ (w_findNetsO (oR_fr hO (fun k => a2 20 k (by omega))) a1 hj hj1) ?_
  rintro I2 ⟨b1, b2⟩
  have b3 : ∀ n k, n ≠ 50 → n ≠ 59 → n ≠ 60 → ¬ (n = 0 ∧ (k = 57 ∨ k = 60)) → I2 n k = I n k := fun n k x y z w => (b2 n k y z w).trans (a2 n k x)
  have hg2 : gtO I2 gt := by
    cases gt with
    | none => exact (b3 _ _ (by omega) (by omega) (by omega) (by omega)).trans hg
    | some t => exact ⟨(b3 _ _ (by omega) (by omega) (by omega) (by omega)).trans hg.1, (b3 _ _ (by omega) (by omega) (by omega) (by omega)).trans hg.2.1, (b3 _ _ (by omega) (by omega) (by omega) (by omega)).trans hg.2.2⟩
  have hc2 : cR I2 cd := fun l hl => (b2 _ _ (by omega) (by omega) (by omega)).trans (a1 l hl)
  refine wp_s1 _ (w_findDevicesO hgk (oR_fr hO (fun k => b3 20 k (by omega) (by omega) (by omega) (by omega))) hc2 b1 hg2) ?_
  rintro I3 ⟨d1, d2⟩
  simp only [nm_l_eq]
  obtain ⟨B, hB⟩ : ∃ B, B = nm_up (nm_up I3 0 22 1) 0 72 (zI 0) := ⟨_, rfl⟩
  rw [← hB]
  have e1 : ∀ m k, ¬ (m = 0 ∧ (k = 22 ∨ k = 72)) → B m k = I3 m k := fun m k h => by rw [hB, nm_up_ap, if_neg (by omega), nm_up_ap, if_neg (by omega)]
  have e2 : B 0 22 = 1 := by rw [hB, nm_up_ap, if_neg (by omega), nm_up_ap, if_pos ⟨rfl, rfl⟩]
  have e3 : B 0 72 = zI 0 := by rw [hB, nm_up_ap, if_pos ⟨rfl, rfl⟩]
  clear hB
  have h57 : B 0 57 = zI ((nnC D cd jl jn : Nat) : Int) := by
    rw [e1 _ _ (by omega), d2 _ _ (by omega) (by omega) (by omega)]
    exact b1.2
  refine wp_r ⟨h57, ⟨⟨fun q hq => ?_, h57⟩, ⟨?_, fun d hd => ?_⟩, fun l hl => ?_⟩, e2, e3, fun n k x y z w v u => ?_⟩
  · show B 59 q = _
    rw [e1 _ _ (by omega), d2 _ _ (by omega) (by omega) (by omega)]
    exact b1.1 q hq
  · show B 0 65 = _
    rw [e1 _ _ (by omega)]
    exact d1.1
  · show B 62 d = _ ∧ B 63 d = _ ∧ B 64 d = _ ∧ B 65 d = _
    rw [e1 _ _ (by omega), e1 _ _ (by omega), e1 _ _ (by omega), e1 _ _ (by omega)]
    exact d1.2 d hd
  · show B 50 l = _
    rw [e1 _ _ (by omega), d2 _ _ (by omega) (by omega) (by omega)]
    exact hc2 l hl
  · show B n k = _
    rw [e1 n k (by omega), d2 n k w v (by omega), b3 n k x y z (by omega)]
end
