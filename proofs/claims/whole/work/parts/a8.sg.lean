/-! calls, told of both sides: those that ask room of the plate -/
theorem nat_least {P : Nat → Prop} : ∀ n, P n → ∃ m, P m ∧ ∀ k, P k → m ≤ k := by
  intro n
  induction n using Nat.strongRecOn with
  | ind n ih =>
    intro h
    by_cases hk : ∃ k, k < n ∧ P k
    · obtain ⟨k, k1, k2⟩ := hk
      exact ih k k1 k2
    · exact ⟨n, h, fun k hk2 => Nat.le_of_not_lt (fun h3 => hk ⟨k, h3, hk2⟩)⟩
theorem two_ex (P : Nat → Prop) : ∃ e, two2 P e := by
  by_cases h : ∃ n, P n
  · obtain ⟨n, hn⟩ := h
    obtain ⟨m, m1, m2⟩ := nat_least n hn
    by_cases h2 : ∃ n, P n ∧ n ≠ m
    · obtain ⟨n2, hn2⟩ := h2
      obtain ⟨k, k1, k2⟩ := nat_least (P := fun n => P n ∧ n ≠ m) n2 hn2
      have := m2 k k1.1
      refine ⟨((m : Int), (k : Int)), Or.inr (Or.inr ⟨m, k, rfl, by have := k1.2; omega, m1, k1.1, fun n hn3 => ?_⟩)⟩
      by_cases h9 : n = m
      · exact Or.inl h9
      · exact Or.inr (k2 n ⟨hn3, h9⟩)
    · refine ⟨((m : Int), -1), Or.inr (Or.inl ⟨m, rfl, fun n => ⟨fun hn3 => ?_, fun e => by rw [e]; exact m1⟩⟩)⟩
      apply Classical.byContradiction
      intro h9
      exact h2 ⟨n, hn3, h9⟩
  · exact ⟨(-1, -1), Or.inl ⟨rfl, fun n hn => h ⟨n, hn⟩⟩⟩
theorem two_lt {P : Nat → Prop} {N : Nat} {e : Int × Int} (h : two2 P e) (hb : ∀ n, P n → n < N) : (-1 ≤ e.1 ∧ e.1 < (N : Int)) ∧ (-1 ≤ e.2 ∧ e.2 < (N : Int)) ∧ (0 ≤ e.2 → 0 ≤ e.1) := by
  rcases h with ⟨rfl, -⟩ | ⟨m, rfl, h⟩ | ⟨m, k, rfl, -, h1, h2, -⟩
  · exact ⟨⟨by show (-1 : Int) ≤ -1; omega, by show (-1 : Int) < N; omega⟩, ⟨by show (-1 : Int) ≤ -1; omega, by show (-1 : Int) < N; omega⟩, fun h => absurd h (by show ¬ (0 : Int) ≤ -1; omega)⟩
  · have := hb m ((h m).mpr rfl)
    exact ⟨⟨by show (-1 : Int) ≤ m; omega, by show (m : Int) < N; omega⟩, ⟨by show (-1 : Int) ≤ -1; omega, by show (-1 : Int) < N; omega⟩, fun h => absurd h (by show ¬ (0 : Int) ≤ -1; omega)⟩
  · have := hb m h1
    have := hb k h2
    exact ⟨⟨by show (-1 : Int) ≤ m; omega, by show (m : Int) < N; omega⟩, ⟨by show (-1 : Int) ≤ k; omega, by show (k : Int) < N; omega⟩, fun _ => by show (0 : Int) ≤ m; omega⟩
theorem nlb_lt {D cd : Nat → Bool} {jl : jo} {jn : Nat} (q : Nat) : -1 ≤ nlb D cd jl jn q ∧ nlb D cd jl jn q < ((nnC D cd jl jn : Nat) : Int) := by
  unfold nlb
  cases hr : nR D cd q with
  | false =>
    rw [if_neg (by decide)]
    omega
  | true =>
    rw [if_pos rfl]
    obtain ⟨h1, h2, -⟩ := nldP (jl := jl) (jn := jn) hr
    have hq : q < 65536 := by
      unfold nR at hr
      simp only [Bool.and_eq_true, decide_eq_true_eq] at hr
      exact hr.1
    have := pc_lt (n := 65536) (show nld D cd jl jn q < 65536 by omega) h2
    unfold nnC
    omega
theorem dvB_ok {D cd : Nat → Bool} {jl : jo} {jn : Nat} {gt : gt3} (hr : dvR (dvN D gt) (dvF D cd jl jn gt)) : dvB (dvF D cd jl jn gt) (dvN D gt) (nnC D cd jl jn) := by
  refine ⟨nnC_le, fun d hd => ⟨(hr.2 d hd).1, ?_⟩⟩
  cases gt with
  | none => exact absurd hd (Nat.not_lt_zero _)
  | some t =>
    obtain ⟨e, he⟩ := two_ex (dEnd D cd jl jn t d)
    have hP : ∀ n, dEnd D cd jl jn t d n → n < nnC D cd jl jn := by
      rintro n ⟨s, u, -, -, -, -, h⟩
      have := (nlb_lt (D := D) (cd := cd) (jl := jl) (jn := jn) (4096 * t.2.2 + u)).2
      omega
    obtain ⟨a, b, c⟩ := two_lt he hP
    have hT := twoP_eq he
    show (_ ∧ _) ∧ (-1 ≤ (twoP (dEnd D cd jl jn t d)).1 ∧ (twoP (dEnd D cd jl jn t d)).1 < _) ∧ (-1 ≤ (twoP (dEnd D cd jl jn t d)).2 ∧ (twoP (dEnd D cd jl jn t d)).2 < _) ∧ (0 ≤ (twoP (dEnd D cd jl jn t d)).2 → 0 ≤ (twoP (dEnd D cd jl jn t d)).1)
    rw [hT]
    exact ⟨nlb_lt _, a, b, c⟩
section
variable {S : ca} {K : Nat → Nat} {I : nm_I}
theorem simA_wc {x : Option ((Int32 × ca) × Nat × Nat)} {y : Option (Int32 × nm_I)} (h : wc iN x S.2 (fun a => ∃ I', y = some (a.1, I') ∧ RR a.2 K I')) : simA K S.2 x y := by
  obtain ⟨a, dc, ds, e, h1, h2, I', e2, hR⟩ := h
  exact ⟨a.1, a.2, dc, ds, I', e, h1, h2, e2, hR⟩
theorem wc_no (h : RR S K I) {x : Int32} {b : Int} (hx : x = zI b) (b1 : -9 ≤ b) (b2 : b ≤ -2) : wc iN (nm_s2 (f_X11_refuse x S.1) fun r M => nm_l (M, S.2) fun S5 => some ((r, S5), 0, 0)) S.2 (fun a => ∃ I', (nm_s2 (f_X12_no x I) fun r I' => some (r, I')) = some (a.1, I') ∧ RR a.2 K I') := by
  subst hx
  obtain ⟨M', I', e1, e2, e3⟩ := w_refuse h b1 b2
  rw [e1, e2, nm_s2_some, nm_s2_some, nm_l_eq]
  exact wc_ri ⟨I', rfl, e3⟩
theorem s_pieces (h : RR S K I) (x y : Int32) : simA K S.2 (f_X11_pieces x y S) (f_X12_pieces x y I) := by
  obtain ⟨z, z1, z2, rfl⟩ := zI_ex x
  obtain ⟨w, w1, w2, rfl⟩ := zI_ex y
  obtain ⟨hc, ⟨hA, hB, hU, hE, hJ, hG, hL, hZ⟩, D, T, fo, nets, dn, dev, hC, hF, hW⟩ := id h
  obtain ⟨⟨kn, k1, k2⟩, hD, hO, hT, hTO⟩ := id hC
  refine simA_wc ?_
  have hno3 := wc_no h (x := -3) (b := -3) rfl (by decide) (by decide)
  unfold f_X11_pieces f_X12_pieces
  rw [show (16 : Int32) = zI ((16 : Nat) : Int) from rfl, out_z z1 z2 (by omega), isLayer_z z1 z2, oif, iif, k1, k2]
  by_cases hz : ¬ (0 ≤ z ∧ z < 16)
  · rw [if_neg (by omega), if_neg hz]
    exact hno3
  replace hz := Classical.not_not.mp hz
  rw [if_pos (show 0 ≤ z ∧ z < ((16 : Nat) : Int) by omega), if_pos hz]
  cases kn with
  | false => exact wc_no h (b := -2) rfl (by decide) (by decide)
  | true =>
    obtain ⟨l, rfl⟩ := Int.eq_ofNat_of_zero_le hz.1
    obtain ⟨I3, e3, t1, t2, t3⟩ := w_findPieces (D := D) (a := l) (b := l) (by omega) (by omega) hO
    rw [rcm_self] at t1
    have e3' : f_X12_findPieces ((4096 : Int32) * zI ((l : Nat) : Int)) (zI ((l : Nat) : Int)) I = some I3 := by
      rw [show (4096 : Int32) * zI ((l : Nat) : Int) = zI ((4096 * l : Nat) : Int) by rw [show (4096 : Int32) = zI 4096 from rfl, zI_mul]; rfl]
      exact e3
    rw [if_neg (show ¬ bq true = 0 by decide), if_neg (show ¬ bq true = 0 by decide), e3', nm_s1_some]
    unfold f_X3_piecesOf
    rw [show (64 : Int32) * zI ((l : Nat) : Int) = zI ((64 * l : Nat) : Int) by rw [show (64 : Int32) = zI 64 from rfl, zI_mul]; rfl]
    refine wc_a1 (f := sN) (fun S' : ca => ∃ lab cnt, gT S' 110 (rl D l) lab cnt ∧ cO S'.2 ∧ (∀ m, m ≠ 111 → S'.1.2 m = S.1.2 m) ∧ (∀ x, x < 112 ∨ 116 < x → S'.2 x = S.2 x) ∧ ∀ m j, ¬ (110 ≤ m ∧ m ≤ 116) → S'.1.1 m j = S.1.1 m j) ?_ ?_
    · refine wc_a1 _ (w_find gM_110 (by omega) (by omega) hc hD) ?_
      rintro S1 ⟨lab, cnt, g1, g2, g3, g4, g5⟩
      exact wc_r ⟨lab, cnt, g1, g2, g3, g4, fun m j d => g5 m j (by unfold frG; omega)⟩
    rintro S1 ⟨lab, cnt, g1, hc1, b1, n1', a1'⟩
    have a1 : ∀ m j, ¬ (110 ≤ m ∧ m ≤ 116) → S1.1.1 m j = S.1.1 m j := a1'
    have n1 : ∀ x, ¬ (112 ≤ x ∧ x ≤ 116) → S1.2 x = S.2 x := fun x hx => n1' x (by omega)
    have j1 : ∀ m j, ¬ (28 ≤ m ∧ m ≤ 32) ∧ ¬ (m = 0 ∧ (j = 33 ∨ j = 34)) → I3 m j = I m j := fun m j p => t3 m j p.1 p.2
    have hRR : RR S1 K I3 := ⟨hc1, ⟨RA_fr hA ⟨fun m j h => a1 m j (by omega), fun m h => b1 m (by omega), fun x h => n1 x (by omega)⟩ (fun m j _ _ => j1 m j (by omega)), RB_fr hB (fun m j _ _ => a1 m j (by omega)) (fun m j _ _ => j1 m j (by omega)), RU_fr hU (fun m j _ _ => a1 m j (by omega)) (n1 201 (by omega)) (fun m j _ => j1 m j (by omega)), RE_fr hE (a1 _ _ (by omega)) (fun j => j1 _ _ (by omega)), RJ_fr hJ (fun m j _ => a1 m j (by omega)) (fun m j _ => j1 m j (by omega)), RG_fr hG (fun j _ _ => a1 _ _ (by omega)) (fun j _ _ => j1 _ _ (by omega)), RLn_fr hL (a1 _ _ (by omega)) (b1 0 (by omega)) (fun m j _ => j1 m j (by omega)), RZ_fr hZ (fun k => a1 _ _ (by omega)) (fun k => j1 _ _ (by omega))⟩, D, T, fo, nets, dn, dev, RC_fr hC (fun m j _ => a1 m j (by omega)) (b1 101 (by omega)) (fun m j _ => j1 m j (by omega)), RF_fr hF (fun m j _ => a1 m j (by omega)) (fun m _ => b1 m (by omega)) (fun x _ _ => n1 x (by omega)) (fun m j _ => j1 m j (by omega)), RW_fr hW (fun m j _ _ => a1 m j (by omega)) (fun m j _ => j1 m j (by omega))⟩
    obtain ⟨⟨-, -, -, -, -, gc, gl⟩, g2, -, -, g5⟩ := g1
    obtain ⟨u1, u2⟩ := Lab_un CP_sy CP_tr gl (Lab_lc (rl D l) (64 * 64))
    obtain ⟨q1, q2, q3⟩ := t1
    have hcn : cnt = nP (rl D l) := u1
    subst hcn
    have hcle : nP (rl D l) ≤ 4096 := pc_le _ _
    have gc' : S1.1.1 110 1 = zI ((nP (rl D l) : Nat) : Int) := gc
    have q2' : I3 0 33 = zI ((nP (rl D l) : Nat) : Int) := q2
    rw [gc', q2', isInN w1 w2 (by omega), iif]
    by_cases hm : zI w = (-1 : Int32)
    · rw [if_pos hm, if_pos hm]
      exact wc_ri ⟨I3, rfl, hRR⟩
    rw [if_neg hm, if_neg hm, out_z w1 w2 (by omega), oif]
    by_cases hw : ¬ (0 ≤ w ∧ w < ((nP (rl D l) : Nat) : Int))
    · rw [if_neg hw, if_neg hw]
      exact wc_no hRR (b := -3) rfl (by decide) (by decide)
    replace hw := Classical.not_not.mp hw
    obtain ⟨g, rfl⟩ := Int.eq_ofNat_of_zero_le hw.1
    have w2' : ((g : Nat) : Int) < ((S1.2 112 : Nat) : Int) := by
      have : nP (rl D l) ≤ S1.2 112 := g2
      omega
    obtain ⟨a, b, c, hM, y1, y2, y3⟩ := g5 g (by omega)
    obtain ⟨a', b', c', hM', y4, y5, y6⟩ := q3 g (by
      show g < nP (rl D l)
      omega)
    obtain ⟨ea, -, -⟩ := Meas_un u2 hM hM'
    rw [if_pos hw, if_pos hw, nm_cz (by omega) w2' (by omega), nm_cz (by omega) (by omega) (by omega), zI_cl (by omega) (by omega), Int.toNat_natCast, y4, show S1.1.1 112 g = zI a from y1, ea]
    exact wc_ri ⟨I3, rfl, hRR⟩
theorem s_run (h : RR S K I) : simA K S.2 (f_X11_run S) (f_X12_run I) := by
  obtain ⟨hc, ⟨hA, hB, hU, hE, hJ, hG, hL, hZ⟩, D, T, fo, nets, dn, dev, hC, hF, hW⟩ := id h
  obtain ⟨⟨kn, k1, k2⟩, hD, hO, hT, hTO⟩ := id hC
  obtain ⟨q, n, hq, hrX, hrO, ran, r1, r2, r3⟩ := id hU
  refine simA_wc ?_
  unfold f_X11_run
  rw [k1]
  cases kn with
  | false =>
    unfold f_X12_run
    rw [k2]
    exact wc_no h (b := -2) rfl (by decide) (by decide)
  | true =>
    obtain ⟨r, e, o1, o2, o3, o4, o5⟩ := w_runO hq hO hrO (by rw [k2]; decide)
    rw [if_neg (show ¬ bq true = 0 by decide), e]
    refine wc_a2 _ (w_hold hq hc hD hrX) ?_
    rintro r' S1 ⟨hc1, x1, x2, x3, x4, x5⟩
    obtain ⟨b1', n1', a1'⟩ := x5
    have a1 : ∀ m j, ¬ ((110 ≤ m ∧ m ≤ 117) ∨ (m = 200 ∧ (j = 1 ∨ j = 2)) ∨ (201 ≤ m ∧ m ≤ 203)) → S1.1.1 m j = S.1.1 m j := fun m j p => a1' m j (by omega) (by omega) (by omega)
    have b1 : ∀ m, ¬ (m = 208 ∨ m = 111) → S1.1.2 m = S.1.2 m := fun m p => b1' m (by omega) (by omega)
    have n1 : ∀ x, ¬ (x = 201 ∨ (112 ≤ x ∧ x ≤ 117)) → S1.2 x = S.2 x := fun x hx => n1' x (by omega) (by omega)
    have j1 : ∀ m j, ¬ ((28 ≤ m ∧ m ≤ 32) ∨ (m = 0 ∧ (j = 21 ∨ j = 33 ∨ j = 34 ∨ j = 46)) ∨ (41 ≤ m ∧ m ≤ 46)) → r.2 m j = I m j := fun m j p => o5 m j (by omega) (by omega) (by omega)
    have hlen := ruA_len D q n
    have hU' : RU S1 r.2 := by
      refine ⟨q, n, hq, ⟨(a1 _ _ (by omega)).trans hrX.1, fun i hi => ?_⟩, ⟨(j1 _ _ (by omega)).trans hrO.1, fun i hi => ?_⟩, true, x3, o3, fun _ => ⟨x4, ruA D q n, ?_, x2, o2⟩⟩
      · obtain ⟨y1, y2, y3, y4⟩ := hrX.2 i hi
        exact ⟨(a1 _ _ (by omega)).trans y1, (a1 _ _ (by omega)).trans y2, fun z => (a1 _ _ (by omega)).trans (y3 z), (a1 _ _ (by omega)).trans y4⟩
      · obtain ⟨y1, y2, y3, y4⟩ := hrO.2 i hi
        exact ⟨(j1 _ _ (by omega)).trans y1, (j1 _ _ (by omega)).trans y2, fun z => (j1 _ _ (by omega)).trans (y3 z), (j1 _ _ (by omega)).trans y4⟩
      · have := hq.1
        omega
    have hRR : RR S1 K r.2 := ⟨hc1, ⟨RA_fr hA ⟨fun m j h => a1 m j (by omega), fun m h => b1 m (by omega), fun x h => n1 x (by omega)⟩ (fun m j _ _ => j1 m j (by omega)), RB_fr hB (fun m j _ _ => a1 m j (by omega)) (fun m j _ _ => j1 m j (by omega)), hU', RE_fr hE (a1 _ _ (by omega)) (fun j => j1 _ _ (by omega)), RJ_fr hJ (fun m j _ => a1 m j (by omega)) (fun m j _ => j1 m j (by omega)), RG_fr hG (fun j _ _ => a1 _ _ (by omega)) (fun j _ _ => j1 _ _ (by omega)), RLn_fr hL (a1 _ _ (by omega)) (b1 0 (by omega)) (fun m j _ => j1 m j (by omega)), RZ_fr hZ (fun k => a1 _ _ (by omega)) (fun k => j1 _ _ (by omega))⟩, D, T, fo, nets, dn, dev, RC_fr hC (fun m j _ => a1 m j (by omega)) (b1 101 (by omega)) (fun m j _ => j1 m j (by omega)), RF_fr hF (fun m j _ => a1 m j (by omega)) (fun m _ => b1 m (by omega)) (fun x _ _ => n1 x (by omega)) (fun m j _ => j1 m j (by omega)), RW_fr hW (fun m j _ _ => a1 m j (by omega)) (fun m j _ => j1 m j (by omega))⟩
    exact wc_ri ⟨r.2, by rw [show r'= r.1 from x1.trans o1.symm], hRR⟩
end
