/-! devices, whole, by the program -/
section
variable {D cd : Nat → Bool} {jl : jo} {jn : Nat}
theorem rcm_CP {D : Nat → Bool} {a b : Nat} {q : Nat} (hq : rcm D a b q = true) : q < 4096 := by
  unfold rcm rl at hq
  simp only [Bool.and_eq_true, decide_eq_true_eq] at hq
  exact hq.1.1
theorem nlb_rng {q : Nat} (hq : q < 65536) : -1 ≤ nlb D cd jl jn q ∧ nlb D cd jl jn q < 65536 := by
  have h := Lab_rng (nLab (D := D) (cd := cd) (jl := jl) (jn := jn) 65536) hq
  have := pc_le (nls D cd jl jn) 65536
  exact ⟨h.1, by omega⟩
set_option maxHeartbeats 1000000 in
theorem w_findDevices {gt : gt3} (hgk : gok gt) {S : ca} (hc : cO S.2) (hD : dR S D) {lab : Nat → Int} {cnt : Nat} (hg : gD S 310 1024 (nR D cd) (CQn D cd jl jn) lab cnt) (hX : gtX S.1 gt) :
    wc sN (f_X2_findDevices S) S.2 (fun S' => dvX S' (dvN D gt) (dvF D cd jl jn gt) ∧ dvR (dvN D gt) (dvF D cd jl jn gt) ∧ cO S'.2 ∧ fdF S S') := by
  have hL := hg.2.2.2.2.2.2
  obtain ⟨hcn, hlb⟩ := Lab_un CN_sy CN_tr hL (nLab (64 * 1024))
  unfold f_X2_findDevices
  rw [nm_l_eq]
  obtain ⟨B, hB⟩ : ∃ B, B = nm_up S.1.1 300 3 (0 : Int32) := ⟨_, rfl⟩
  rw [← hB]
  have b1 : ∀ m k, ¬ (m = 300 ∧ k = 3) → B m k = S.1.1 m k := fun m k h => by rw [hB, nm_up_ap, if_neg h]
  have b2 : B 300 3 = 0 := by rw [hB, nm_up_ap, if_pos ⟨rfl, rfl⟩]
  clear hB
  show wc sN (if B 300 6 = -1 then some (((B, S.1.2), S.2), 0, 0) else _) _ _
  rw [b1 300 6 (by omega)]
  cases gt with
  | none =>
    obtain ⟨x1, x2⟩ := hX
    rw [x1, if_pos (show zI (-1) = -1 from rfl)]
    refine wc_r (S := ((B, S.1.2), S.2)) ⟨⟨b2, ⟨Nat.zero_le _, Nat.zero_le _, Nat.zero_le _, Nat.zero_le _⟩, fun d hd => absurd hd (Nat.not_lt_zero _)⟩, ⟨Nat.zero_le _, fun d hd => absurd hd (Nat.not_lt_zero _)⟩, hc, fun _ _ => rfl, fun _ _ _ => rfl, fun m k a _ _ => b1 m k a⟩
  | some t =>
    obtain ⟨t1, t2, t3⟩ := hgk t rfl
    obtain ⟨x1, x2, x3⟩ := hX
    obtain ⟨r, hr⟩ : ∃ r, r = rcm D t.1 t.2.1 := ⟨_, rfl⟩
    have hmul : ∀ k : Nat, (64 : Int32) * zI (k : Nat) = zI ((64 * k : Nat) : Int) := fun k => by rw [show (64 : Int32) = zI 64 from rfl, zI_mul]; rfl
    rw [x1, if_neg (by
      rw [show (-1 : Int32) = zI (-1) from rfl, zI_eq (by omega) (by omega) (by omega) (by omega)]
      omega)]
    show wc sN (nm_a1 (f_X4_findCommon 320 ((64 : Int32) * B 300 6) ((64 : Int32) * B 300 7) ((B, S.1.2), S.2)) _) _ _
    rw [b1 300 6 (by omega), b1 300 7 (by omega), x1, x2, hmul, hmul]
    refine wc_a1 _ (w_findCommon gM_320 (by omega) t1 t2 (S := ((B, S.1.2), S.2)) hc hD) ?_
    rintro S1 ⟨lab2, dn, g1, g2, g3', g4', g5'⟩
    have g3 : ∀ m, m ≠ 321 → S1.1.2 m = S.1.2 m := g3'
    have g4 : ∀ x, x < 322 ∨ 326 < x → S1.2 x = S.2 x := g4'
    have g5 : ∀ m k, ¬ (m = 300 ∧ k = 3) → ¬ (m = 320 ∧ (k = 1 ∨ k = 7)) → ¬ (322 ≤ m ∧ m ≤ 326) → S1.1.1 m k = S.1.1 m k := fun m k a b c => (g5' m k (by unfold frG; omega)).trans (b1 m k a)
    rw [← hr] at g1
    obtain ⟨y1, y2, y3, y4, y5⟩ := g1
    have hcn2 : S1.1.1 320 1 = zI (dn : Nat) := y1.2.2.2.2.2.1
    obtain ⟨hdn0, hlb2⟩ := Lab_un CP_sy CP_tr y1.2.2.2.2.2.2 (Lab_lc r (64 * 64))
    have hdnP : dn = nP r := hdn0
    have hdn : dn ≤ 4096 := by
      rw [hdnP]
      exact pc_le _ _
    rw [nm_l_eq]
    obtain ⟨B1, hB1⟩ : ∃ B1, B1 = nm_up S1.1.1 300 3 (S1.1.1 320 1) := ⟨_, rfl⟩
    rw [← hB1]
    have c1 : ∀ m k, ¬ (m = 300 ∧ k = 3) → B1 m k = S1.1.1 m k := fun m k h => by rw [hB1, nm_up_ap, if_neg h]
    have c2 : B1 300 3 = zI (dn : Nat) := by rw [hB1, nm_up_ap, if_pos ⟨rfl, rfl⟩, hcn2]
    clear hB1
    show wc sN (nm_a1 (cl_grow 302 (B1 300 3) ((B1, S1.1.2), S1.2)) _) S1.2 _
    rw [c2]
    refine wc_a1 _ (w_grow (n := 302) (by decide) (m := dn) (by show 2 * dn ≤ 8192; omega) (S := ((B1, S1.1.2), S1.2)) g2) ?_
    rintro S2 ⟨d1, d2, d3', d4', d5'⟩
    have d3 : ∀ x, x ≠ 302 → S2.2 x = S1.2 x := d3'
    have d4 : S2.1.2 = S1.1.2 := d4'
    have d5 : ∀ m k, m ≠ 302 → S2.1.1 m k = B1 m k := fun m k h => congrFun (d5' m h) k
    rw [show S2.1.1 300 3 = zI (dn : Nat) from (d5 300 3 (by omega)).trans c2]
    refine wc_a1 _ (w_grow (n := 303) (by decide) (m := dn) (by show 2 * dn ≤ 8192; omega) d2) ?_
    rintro S3 ⟨e1, e2, e3, e4, e5'⟩
    have e5 : ∀ m k, m ≠ 303 → S3.1.1 m k = S2.1.1 m k := fun m k h => congrFun (e5' m h) k
    rw [show S3.1.1 300 3 = zI (dn : Nat) from (e5 300 3 (by omega)).trans ((d5 300 3 (by omega)).trans c2)]
    refine wc_a1 _ (w_grow (n := 304) (by decide) (m := dn) (by show 2 * dn ≤ 8192; omega) e2) ?_
    rintro S4 ⟨f1, f2, f3, f4, f5'⟩
    have f5 : ∀ m k, m ≠ 304 → S4.1.1 m k = S3.1.1 m k := fun m k h => congrFun (f5' m h) k
    have z1 : ∀ m k, ¬ (302 ≤ m ∧ m ≤ 304) → S4.1.1 m k = B1 m k := fun m k h => (f5 m k (by omega)).trans ((e5 m k (by omega)).trans (d5 m k (by omega)))
    have z2 : S4.1.2 = S1.1.2 := by rw [f4, e4, d4]
    have z3 : ∀ x, ¬ (302 ≤ x ∧ x ≤ 304) → S4.2 x = S1.2 x := fun x h => by rw [f3 x (by omega), e3 x (by omega), d3 x (by omega)]
    have n2 : dn ≤ S4.2 302 := by rw [f3 302 (by omega), e3 302 (by omega)]; exact d1
    have n3 : dn ≤ S4.2 303 := by rw [f3 303 (by omega)]; exact e1
    have n22 : dn ≤ S4.2 322 := by rw [z3 322 (by omega)]; exact y2
    have n23 : dn ≤ S4.2 323 := by rw [z3 323 (by omega)]; exact y3
    have hgS4 : gD S4 310 1024 (nR D cd) (CQn D cd jl jn) lab cnt := by
      refine gD_fd hg ⟨fun m a => by rw [z2]; exact g3 m a, fun x a b => by rw [z3 x a]; exact g4 x (by omega), fun m k a b c => ?_⟩
      rw [z1 m k b, c1 m k a]
      exact g5 m k a (by omega) (by omega)
    have hg2S4 : gD S4 320 64 r (CP r) lab2 dn := gD_fr y1 z2 (z3 _ (by omega)) (fun m k h => by
      rw [z1 m k (by omega), c1 m k (by omega)])
    have hsz : ∀ d, d < dn → mPp r d (mP r d) ∧ S1.1.1 322 d = zI (((mP r d).1 : Nat) : Int) ∧ S1.1.1 323 d = zI (((mP r d).2.1 : Nat) : Int) := fun d hd => by
      obtain ⟨a, b, c, hm, u1, u2, u3⟩ := y5 d hd
      obtain ⟨v1, v2, v3, v4⟩ := mP_sp hlb2 hm
      exact ⟨v1, by rw [← v2]; exact u1, by rw [← v3]; exact u2⟩
    rw [zI_0]
    refine wc_s1 _ (w_devGates (S := S4) f2 hgS4 (g := t.1) (dn := dn) (ls := fun d => (mP r d).2.1) t1 hdn ?_ ?_ (fun d hd => ⟨(hsz d hd).1.2.1, ?_⟩) n23 n2 n3 f1) ?_
    · rw [z1 _ _ (by omega), c1 _ _ (by omega), g5 _ _ (by omega) (by omega) (by omega)]
      exact x1
    · rw [z1 _ _ (by omega)]
      exact c2
    · rw [z1 _ _ (by omega), c1 _ _ (by omega)]
      exact (hsz d hd).2.2
    rintro S5 ⟨k1, k2, k3, k4⟩
    have hgS5 : gD S5 310 1024 (nR D cd) (CQn D cd jl jn) lab cnt := gD_fr hgS4 k2 (by rw [k3]) (fun m k h => k4 m k (by omega))
    have hg2S5 : gD S5 320 64 r (CP r) lab2 dn := gD_fr hg2S4 k2 (by rw [k3]) (fun m k h => k4 m k (by omega))
    have h8 : S5.1.1 300 8 = zI (t.2.2 : Nat) := by
      rw [k4 _ _ (by omega), z1 _ _ (by omega), c1 _ _ (by omega), g5 _ _ (by omega) (by omega) (by omega)]
      exact x3
    refine wc_s1 _ (w_devEnds (S := S5) (by rw [k3]; exact f2) hgS5 hg2S5 t3 h8 (by rw [k3]; exact n3) (by rw [k3]; exact f1) (fun d hd => (k1 d hd).2)) ?_
    rintro S6 ⟨l1, l2, l3⟩
    have hN6 : S4.2 = S6.2 := by rw [l3, k3]
    show wc sN (some (S6, 0, 0)) S4.2 _
    rw [hN6]
    -- what the ends are
    have hends : ∀ d, d < dn → S6.1.1 303 d = zI (twoP (dEnd D cd jl jn t d)).1 ∧ S6.1.1 304 d = zI (twoP (dEnd D cd jl jn t d)).2 ∧ (-1 ≤ (twoP (dEnd D cd jl jn t d)).1 ∧ (twoP (dEnd D cd jl jn t d)).1 < 65536) ∧ -1 ≤ (twoP (dEnd D cd jl jn t d)).2 ∧ (twoP (dEnd D cd jl jn t d)).2 < 65536 := fun d hd => by
      obtain ⟨q1, e, q2, q3, q4⟩ := l1 d hd
      have hP : ∀ n, PE r lab2 lab t.2.2 4096 d n ↔ dEnd D cd jl jn t d n := fun n => by
        unfold PE dEnd
        rw [← hr]
        constructor
        · rintro ⟨s, u, a1, a2, a3, a4, a5⟩
          have hrs : r s = true := by
            unfold prc at a2
            simp only [Bool.and_eq_true, decide_eq_true_eq] at a2
            exact a2.1
          exact ⟨s, u, a1, hrs, by rw [← hlb2 s a1]; exact a3, a4, by rw [← hlb _ (by have := a4.1; omega)]; exact a5⟩
        · rintro ⟨s, u, a1, a2, a3, a4, a5⟩
          refine ⟨s, u, a1, ?_, by rw [hlb2 s a1]; exact a3, a4, by rw [hlb _ (by have := a4.1; omega)]; exact a5⟩
          unfold prc
          rw [a2, decide_eq_true (stp_lt a1 a2)]
          rfl
      have e9 := twoP_eq (two_congr q4 hP)
      have hrg := two_rng q4 q1
      rw [e9]
      exact ⟨q2, q3, hrg⟩
    have hdvN : dvN D (some t) = dn := by
      rw [hdnP, hr]
      rfl
    have hdv : ∀ d, dvF D cd jl jn (some t) d = ((mP r d).1, nlb D cd jl jn (4096 * t.1 + (mP r d).2.1), (twoP (dEnd D cd jl jn t d)).1, (twoP (dEnd D cd jl jn t d)).2) := fun d => by
      rw [hr]
      rfl
    have w1 : ∀ m k, ¬ (302 ≤ m ∧ m ≤ 304) → S6.1.1 m k = B1 m k := fun m k h => (l2.2 m k (by omega) (by omega)).trans ((k4 m k h).trans (z1 m k h))
    refine wc_r ⟨⟨?_, ⟨?_, ?_, ?_, ?_⟩, fun d hd => ?_⟩, ⟨?_, fun d hd => ?_⟩, by rw [← hN6]; exact f2, fun m a => ?_, fun x a b => ?_, fun m k a b c => ?_⟩
    · rw [hdvN, w1 _ _ (by omega)]
      exact c2
    · rw [hdvN, ← hN6]
      exact n22
    · rw [hdvN, ← hN6]
      exact n2
    · rw [hdvN, ← hN6]
      exact n3
    · rw [hdvN, ← hN6]
      exact f1
    · rw [hdvN] at hd
      rw [hdv]
      obtain ⟨q1, q2, -⟩ := hends d hd
      refine ⟨?_, ?_, q1, q2⟩
      · rw [w1 _ _ (by omega), c1 _ _ (by omega)]
        exact (hsz d hd).2.1
      · rw [l2.2 _ _ (by omega) (by omega), (k1 d hd).1, hlb _ (by have := (hsz d hd).1.2.1; omega)]
    · rw [hdvN]
      exact hdn
    · rw [hdvN] at hd
      rw [hdv]
      obtain ⟨-, -, q1, q2⟩ := hends d hd
      exact ⟨(hsz d hd).1.1, nlb_rng (by have := (hsz d hd).1.2.1; omega), q1, q2⟩
    · rw [l2.1, k2, z2]
      exact g3 m a
    · rw [← hN6, z3 x a]
      exact g4 x (by omega)
    · rw [w1 m k b, c1 m k a]
      exact g5 m k a (by omega) (by omega)
end
