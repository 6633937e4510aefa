/-! nets, by the reference -/
section
variable {D cd : Nat → Bool} {jl : jo} {jn : Nat}
noncomputable def nls (D cd : Nat → Bool) (jl : jo) (jn : Nat) : Nat → Bool := ldr (nR D cd) (CQn D cd jl jn)
noncomputable def nld (D cd : Nat → Bool) (jl : jo) (jn : Nat) (q : Nat) : Nat := lead (nR D cd) (CQn D cd jl jn) q
noncomputable def nlb (D cd : Nat → Bool) (jl : jo) (jn : Nat) (q : Nat) : Int := if nR D cd q = true then ((pc (nls D cd jl jn) (nld D cd jl jn q) : Nat) : Int) else -1
theorem nldP {q : Nat} (h : nR D cd q = true) : nld D cd jl jn q ≤ q ∧ nls D cd jl jn (nld D cd jl jn q) = true ∧ CQn D cd jl jn q (nld D cd jl jn q) := lead_sp (ldr_ex CN_sy CN_tr CN_rf q h)
theorem nLab (M : Nat) : Lab (nR D cd) (CQn D cd jl jn) M (nlb D cd jl jn) (pc (nls D cd jl jn) M) := by
  refine ⟨fun q _ h => by simp [nlb, h], fun q _ h => ?_, rfl⟩
  obtain ⟨h1, h2, h3⟩ := nldP (jl := jl) (jn := jn) h
  exact ⟨_, h1, h2, h3, by rw [nlb, if_pos h]; rfl⟩
theorem nld_eq {q d : Nat} (h : nR D cd q = true) (hd : nls D cd jl jn d = true) : nld D cd jl jn q = d ↔ CQn D cd jl jn d q := by
  obtain ⟨h1, h2, h3⟩ := nldP (jl := jl) (jn := jn) h
  constructor
  · intro e
    rw [e] at h3
    exact CN_sy _ _ h3
  · intro e
    exact ldr_un CN_sy h2 hd (CN_sy _ _ (CN_tr _ _ _ e h3))
theorem nls_ld {s : Nat} (h : nR D cd s = true) : nls D cd jl jn s = true ↔ nld D cd jl jn s = s := by
  constructor
  · intro hs
    exact (nld_eq h hs).mpr (CN_rf s)
  · intro e
    have := (nldP (jl := jl) (jn := jn) h).2.1
    rw [e] at this
    exact this
theorem nlb_eq {s q : Nat} (hs : nls D cd jl jn s = true) : nlb D cd jl jn q = ((pc (nls D cd jl jn) s : Nat) : Int) ↔ nR D cd q = true ∧ nld D cd jl jn q = s := by
  unfold nlb
  constructor
  · intro h
    cases hr : nR D cd q with
    | false =>
      rw [hr, if_neg (by decide)] at h
      omega
    | true =>
      rw [hr, if_pos rfl] at h
      exact ⟨rfl, pc_inj (nldP hr).2.1 hs (by omega)⟩
  · rintro ⟨h1, h2⟩
    rw [if_pos h1, h2]
/-- the search of one net -/
def nIv (I : nm_I) (D cd : Nat → Bool) (jl : jo) (jn s p : Nat) (v : Nat → Bool) (cnt : Nat) (qu : Nat → Nat) : Prop :=
  (∀ q, q < 65536 → I 59 q = zI (if v q = true then (p : Int) else if nR D cd q = true ∧ nld D cd jl jn q < s then nlb D cd jl jn q else -1)) ∧ (∀ q, v q = true → q < 65536 ∧ nR D cd q = true ∧ CQn D cd jl jn s q) ∧ pc v 65536 = cnt ∧ I 0 60 = zI (cnt : Nat) ∧ (∀ j, j < cnt → qu j < 65536 ∧ v (qu j) = true ∧ I 60 j = zI (qu j : Nat)) ∧ ∀ q, v q = true → ∃ j, j < cnt ∧ qu j = q
def nmF (I I' : nm_I) : Prop := ∀ n k, n ≠ 59 → n ≠ 60 → ¬ (n = 0 ∧ k = 60) → I' n k = I n k
def cR (I : nm_I) (cd : Nat → Bool) : Prop := ∀ l, l < 16 → I 50 l = if cd l = true then 1 else 0
def jO (I : nm_I) (jl : jo) (jn : Nat) : Prop := I 0 53 = zI (jn : Nat) ∧ ∀ i, i < jn → I 51 i = zI (((jl i).1 : Nat) : Int) ∧ I 52 i = zI (((jl i).2.1 : Nat) : Int) ∧ I 53 i = zI (((jl i).2.2 : Nat) : Int)
/-- what the search goes by -/
def nBv (I : nm_I) (D cd : Nat → Bool) (jl : jo) (jn p : Nat) : Prop := oR I D ∧ cR I cd ∧ jO I jl jn ∧ I 0 57 = zI (p : Nat)
theorem nB_m {I I' : nm_I} {p : Nat} (h : nBv I D cd jl jn p) (hf : nmF I I') : nBv I' D cd jl jn p := by
  obtain ⟨h1, h2, ⟨h3, h4⟩, h5⟩ := h
  refine ⟨oR_fr h1 (fun k => hf 20 k (by omega) (by omega) (by omega)), fun l hl => (hf _ _ (by omega) (by omega) (by omega)).trans (h2 l hl), ⟨(hf _ _ (by omega) (by omega) (by omega)).trans h3, fun i hi => ?_⟩, (hf _ _ (by omega) (by omega) (by omega)).trans h5⟩
  obtain ⟨a, b, c⟩ := h4 i hi
  exact ⟨(hf _ _ (by omega) (by omega) (by omega)).trans a, (hf _ _ (by omega) (by omega) (by omega)).trans b, (hf _ _ (by omega) (by omega) (by omega)).trans c⟩
theorem nmF_tr {I I1 I2 : nm_I} (h1 : nmF I I1) (h2 : nmF I1 I2) : nmF I I2 := fun n k a b c => (h2 n k a b c).trans (h1 n k a b c)
theorem cR_0 {I : nm_I} (h : cR I cd) {l : Nat} (hl : l < 16) : I 50 l = 0 ↔ cd l = false := by
  rw [h l hl]
  exact ite_z _
def nX (D cd : Nat → Bool) (jl : jo) (jn s p : Nat) (I : nm_I) (v : Nat → Bool) (cnt : Nat) (qu : Nat → Nat) (I' : nm_I) (v' : Nat → Bool) (cnt' : Nat) (qu' : Nat → Nat) : Prop :=
  nIv I' D cd jl jn s p v' cnt' qu' ∧ (∀ q, v q = true → v' q = true) ∧ cnt ≤ cnt' ∧ (∀ j, j < cnt → qu' j = qu j) ∧ nmF I I'
theorem nX_rf {s p : Nat} {I : nm_I} {v : Nat → Bool} {cnt : Nat} {qu : Nat → Nat} (h : nIv I D cd jl jn s p v cnt qu) : nX D cd jl jn s p I v cnt qu I v cnt qu := ⟨h, fun _ h => h, Nat.le_refl _, fun _ _ => rfl, fun _ _ _ _ _ => rfl⟩
theorem nX_tr {s p : Nat} {I I1 I2 : nm_I} {v v1 v2 : Nat → Bool} {cnt c1 c2 : Nat} {qu q1 q2 : Nat → Nat} (h : nX D cd jl jn s p I v cnt qu I1 v1 c1 q1) (h2 : nX D cd jl jn s p I1 v1 c1 q1 I2 v2 c2 q2) : nX D cd jl jn s p I v cnt qu I2 v2 c2 q2 :=
  ⟨h2.1, fun q hq => h2.2.1 q (h.2.1 q hq), Nat.le_trans h.2.2.1 h2.2.2.1, fun j hj => (h2.2.2.2.1 j (Nat.lt_of_lt_of_le hj h.2.2.1)).trans (h.2.2.2.1 j hj), nmF_tr h.2.2.2.2 h2.2.2.2.2⟩
theorem w_reaches {I : nm_I} {s p : Nat} (hp : p < 65536) (hb : nBv I D cd jl jn p) (hs : nls D cd jl jn s = true) {v : Nat → Bool} {cnt : Nat} {qu : Nat → Nat} (hB : nIv I D cd jl jn s p v cnt qu) {t : Nat} (ht : t < 65536) (hc : nR D cd t = true → CQn D cd jl jn s t) :
    wp (f_X12_reaches (zI (t : Nat)) I) (fun I' => ∃ v' cnt' qu', nX D cd jl jn s p I v cnt qu I' v' cnt' qu' ∧ (nR D cd t = true → v' t = true)) := by
  obtain ⟨hO, hcd, hj, h57⟩ := hb
  obtain ⟨h1, h2, h3, h4, h5, h6⟩ := hB
  have hcnt : cnt ≤ 65536 := by
    rw [← h3]
    exact pc_le _ _
  have hskip : nR D cd t = false ∨ v t = true → wp (some I) (fun I' => ∃ v' cnt' qu', nX D cd jl jn s p I v cnt qu I' v' cnt' qu' ∧ (nR D cd t = true → v' t = true)) := by
    intro h
    refine wp_r ⟨v, cnt, qu, nX_rf ⟨h1, h2, h3, h4, h5, h6⟩, fun hr => ?_⟩
    rcases h with h | h
    · rw [h] at hr
      exact absurd hr (by decide)
    · exact h
  unfold f_X12_reaches
  rw [show (4096 : Int32) = zI 4096 from rfl, zI_div (by omega) (by omega) (by omega) (by omega), nm_cz (by omega) (by omega) (by omega), zI_cl (by omega) (by omega), Int.toNat_natCast, zI_cl (by omega) (by omega), nm_cz (by omega) (by omega) (by omega), nm_cz (by omega) (by omega) (by omega), nm_cz (by omega) (by omega) (by omega), show (((t : Nat) : Int) / 4096).toNat = t / 4096 by omega]
  have oa := oR_0 hO ht
  have oc := cR_0 hcd (l := t / 4096) (by omega)
  refine wp_if (fun h => hskip (Or.inl ?_)) (fun h => ?_)
  · unfold nR
    rw [oa.mp h, Bool.and_false, Bool.and_false]
  refine wp_if (fun h2 => hskip (Or.inl ?_)) (fun hh => ?_)
  · unfold nR
    rw [oc.mp h2, Bool.false_and, Bool.and_false]
  have hr : nR D cd t = true := by
    unfold nR
    have x1 : D t = true := by
      cases hd : D t with
      | true => rfl
      | false => exact absurd (oa.mpr hd) h
    have x2 : cd (t / 4096) = true := by
      cases hd : cd (t / 4096) with
      | true => rfl
      | false => exact absurd (oc.mpr hd) hh
    rw [x1, x2, decide_eq_true ht]
    rfl
  have hct := hc hr
  have hlead : nld D cd jl jn t = s := (nld_eq hr hs).mpr hct
  rw [h1 t ht, if_neg (show ¬ (nR D cd t = true ∧ nld D cd jl jn t < s) by rw [hlead]; omega)]
  cases hv : v t with
  | true =>
    rw [if_pos rfl, zI_0]
    simp (disch := omega) only [zI_lt]
    rw [if_neg (by omega)]
    exact hskip (Or.inr hv)
  | false =>
    rw [if_neg (show ¬ (false = true) by decide), if_pos (show zI (-1) < 0 by decide), h57, nm_l_eq]
    have hpc := pc_lt (f := fun q => if q = t then true else v q) (k := t) (n := 65536) ht (by simp)
    have hone := pc_one (f := v) (g := fun q => if q = t then true else v q) (k := t) (n := 65536) ht (fun i hi => by simp [hi]) hv (by simp)
    have hle := pc_le (fun q => if q = t then true else v q) 65536
    have e60 : nm_up I 59 t (zI (p : Nat)) 0 60 = zI (cnt : Nat) := by rw [nm_up_ap, if_neg (by omega)]; exact h4
    rw [e60, nm_cz (by omega) (by omega) (by omega), zI_cl (by omega) (by omega), Int.toNat_natCast, nm_l_eq, nm_l_eq]
    refine wp_r ⟨fun q => if q = t then true else v q, cnt + 1, fun j => if j = cnt then t else qu j, ⟨⟨?_, ?_, by rw [hone, h3], ?_, ?_, ?_⟩, ?_, by omega, ?_, ?_⟩, ?_⟩
    · intro q hq
      rw [nm_up_ap, if_neg (by omega), nm_up_ap, if_neg (by omega), nm_up_ap]
      by_cases hqt : q = t
      · subst hqt
        simp
      · simp only [hqt, and_false, if_false]
        exact h1 q hq
    · intro q hq
      by_cases hqt : q = t
      · subst hqt
        exact ⟨ht, hr, hct⟩
      · simp only [hqt, if_false] at hq
        exact h2 q hq
    · rw [nm_up_ap, if_pos ⟨rfl, rfl⟩, nm_up_ap, if_neg (by omega), e60]
      show zI _ + zI 1 = _
      rw [zI_add]
      rfl
    · intro j hj
      by_cases hjc : j = cnt
      · subst hjc
        refine ⟨by simp [ht], by simp, ?_⟩
        rw [nm_up_ap, if_neg (by omega), nm_up_ap]
        simp
      · obtain ⟨x1, x2, x3⟩ := h5 j (by omega)
        simp only [hjc, if_false]
        refine ⟨x1, ?_, ?_⟩
        · by_cases hqt : qu j = t
          · simp [hqt]
          · simp [hqt, x2]
        · rw [nm_up_ap, if_neg (by omega), nm_up_ap, if_neg (by omega), nm_up_ap, if_neg (by omega)]
          exact x3
    · intro q hq
      by_cases hqt : q = t
      · exact ⟨cnt, by omega, by simp [hqt]⟩
      · simp only [hqt, if_false] at hq
        obtain ⟨j, j1, j2⟩ := h6 q hq
        refine ⟨j, by omega, ?_⟩
        have : j ≠ cnt := by omega
        simp [this, j2]
    · intro q hq
      by_cases hqt : q = t <;> simp [hqt, hq]
    · intro j hj
      have : j ≠ cnt := by omega
      simp [this]
    · intro n k n1 n2 n3
      rw [nm_up_ap, if_neg n3, nm_up_ap, if_neg (by omega), nm_up_ap, if_neg (by omega)]
    · intro _
      simp
theorem w_nstage {I : nm_I} {s p : Nat} (hp : p < 65536) (hb : nBv I D cd jl jn p) (hs : nls D cd jl jn s = true) {v : Nat → Bool} {cnt : Nat} {qu : Nat → Nat} (hB : nIv I D cd jl jn s p v cnt qu) {c : Prop} [Decidable c] {u : Nat} {xu : Int32} {Kf : nm_I → Option nm_I} {P : nm_I → Prop} (hu : ¬ c → u < 65536 ∧ xu = zI (u : Nat) ∧ (nR D cd u = true → CQn D cd jl jn s u))
    (hk : ∀ I' v' cnt' qu', nX D cd jl jn s p I v cnt qu I' v' cnt' qu' → (¬ c → nR D cd u = true → v' u = true) → wp (Kf I') P) : wp (if c then Kf I else nm_s1 (f_X12_reaches xu I) Kf) P := by
  refine wp_if (fun h => hk I v cnt qu (nX_rf hB) (fun h2 => absurd h h2)) (fun h => ?_)
  obtain ⟨u1, u2, u3⟩ := hu h
  subst u2
  refine wp_s1 _ (w_reaches hp hb hs hB u1 u3) ?_
  rintro I' ⟨v', cnt', qu', k1, k2⟩
  exact hk I' v' cnt' qu' k1 (fun _ => k2)
end
