/-! what the program and the reference hold of one another, between calls -/
abbrev bq (b : Bool) : Int32 := if b = true then 1 else 0
def RA (S : ca) (K : Nat → Nat) (I : nm_I) : Prop := ∃ sd cnt, cls S K sd cnt ∧ clO I sd cnt
def RB (S : ca) (I : nm_I) : Prop := ∃ m, mok m ∧ mR S m ∧ mO I m
def RC (S : ca) (I : nm_I) (D : Nat → Bool) (T : List tx) : Prop := (∃ kn, S.1.1 100 0 = bq kn ∧ I 0 20 = bq kn) ∧ dR S D ∧ oR I D ∧ dT S T ∧ dO I T
def RU (S : ca) (I : nm_I) : Prop := ∃ q n, rok q n ∧ rX S.1 q n ∧ rO I q n ∧ ∃ ran, S.1.1 200 1 = bq ran ∧ I 0 21 = bq ran ∧ (ran = true → 2400 ≤ S.2 201 ∧ ∃ L : List ft, L.length ≤ 131072 ∧ faX S.1 L ∧ faO I L)
def RE (S : ca) (I : nm_I) : Prop := ∃ cd : Nat → Bool, (∀ l, l < 16 → bi (S.1.1 300 0) l = cd l) ∧ kR I cd
def RJ (S : ca) (I : nm_I) : Prop := ∃ jl jn, jok jl jn ∧ jX S.1 jl jn ∧ jO I jl jn
def RG (S : ca) (I : nm_I) : Prop := ∃ gt, gok gt ∧ gtX S.1 gt ∧ gtO I gt
def RF (S : ca) (I : nm_I) (D : Nat → Bool) (fo : Bool) (nets dn : Nat) (dev : dvT) : Prop := S.1.1 300 2 = bq fo ∧ I 0 22 = bq fo ∧ (fo = true → ∃ cd jl jn gt, ckX S D cd jl jn gt ∧ ckO I D cd jl jn gt ∧ dvR (dvN D gt) (dvF D cd jl jn gt) ∧ nets = nnC D cd jl jn ∧ dn = dvN D gt ∧ dev = dvF D cd jl jn gt ∧ dvB dev dn nets)
def RW (S : ca) (I : nm_I) (fo : Bool) (nets dn : Nat) (dev : dvT) : Prop := ∃ ws n, wsok ws n ∧ wsX S.1 ws n ∧ wsO I ws n ∧ (∃ tv : Nat, S.1.1 400 1 = zI (tv : Nat) ∧ I 0 71 = zI (tv : Nat)) ∧ ∃ pv, S.1.1 400 3 = bq pv ∧ I 0 72 = bq pv ∧ (pv = true → fo = true ∧ (smR dn dev ws n).1 = 1 ∧ (pfX S.1 (pfA dev ws (smR dn dev ws n).2.1) ∧ ∀ j, j < n → S.1.1 403 j = zI ((chA (smR dn dev ws n).2.1 j / 2 : Nat) : Int)) ∧ pR I (pfA dev ws (smR dn dev ws n).2.1) nets ∧ ∀ j, j < n → I 77 j = zI ((chA (smR dn dev ws n).2.1 j / 2 : Nat) : Int))
def RLn (S : ca) (I : nm_I) : Prop := ∃ hr, S.1.1 0 8 = bq hr ∧ I 0 79 = bq hr ∧ (hr = true → ∃ ln : Nat → Bool, ∀ x, x < 64 → bx (S.1.2 0 7) x = ln x ∧ I 78 x = bq (ln x))
def RZ (S : ca) (I : nm_I) : Prop := ∀ k, k < 8 → S.1.1 2 k = I 12 (k + 2)
def RR (S : ca) (K : Nat → Nat) (I : nm_I) : Prop := cO S.2 ∧ (RA S K I ∧ RB S I ∧ RU S I ∧ RE S I ∧ RJ S I ∧ RG S I ∧ RLn S I ∧ RZ S I) ∧ ∃ D T fo nets dn dev, RC S I D T ∧ RF S I D fo nets dn dev ∧ RW S I fo nets dn dev
section
variable {S S' : ca} {I I' : nm_I}
theorem RA_fr {K : Nat → Nat} (h : RA S K I) (hx : hiX S S') (ho : ∀ m k, 1 ≤ m → m ≤ 8 → I' m k = I m k) : RA S' K I' := by
  obtain ⟨sd, cnt, a, b⟩ := h
  exact ⟨sd, cnt, cls_hi a hx, fun c hc => shR_fr (b c hc) ho⟩
theorem RB_fr (h : RB S I) (hx : ∀ m k, 103 ≤ m → m ≤ 105 → S'.1.1 m k = S.1.1 m k) (ho : ∀ m k, 9 ≤ m → m ≤ 11 → I' m k = I m k) : RB S' I' := by
  obtain ⟨m, a, b, c⟩ := h
  refine ⟨m, a, fun i hi => ?_, fun i hi => ?_⟩
  · rw [hx _ _ (by omega) (by omega), hx _ _ (by omega) (by omega), hx _ _ (by omega) (by omega)]
    exact b i hi
  · rw [ho _ _ (by omega) (by omega), ho _ _ (by omega) (by omega), ho _ _ (by omega) (by omega)]
    exact c i hi
theorem RC_fr {D : Nat → Bool} {T : List tx} (h : RC S I D T) (hx : ∀ m k, (m = 100 ∧ (k = 0 ∨ k = 3)) ∨ m = 102 → S'.1.1 m k = S.1.1 m k) (hj : S'.1.2 101 = S.1.2 101) (ho : ∀ m k, m = 20 ∨ (24 ≤ m ∧ m ≤ 26) ∨ (m = 0 ∧ (k = 20 ∨ k = 26)) → I' m k = I m k) : RC S' I' D T := by
  obtain ⟨⟨kn, a1, a2⟩, b, c, ⟨d1, d2, d3⟩, e1, e2, e3⟩ := h
  refine ⟨⟨kn, (hx _ _ (by omega)).trans a1, (ho _ _ (by omega)).trans a2⟩, fun y x hy hx' => by rw [hj]; exact b y x hy hx', oR_fr c (fun k => ho _ _ (by omega)), ⟨(hx _ _ (by omega)).trans d1, d2, fun i hi => ⟨(d3 i hi).1, (hx _ _ (by omega)).trans (d3 i hi).2⟩⟩, (ho _ _ (by omega)).trans e1, e2, fun i hi => ?_⟩
  obtain ⟨x1, x2, x3, x4⟩ := e3 i hi
  exact ⟨x1, (ho _ _ (by omega)).trans x2, (ho _ _ (by omega)).trans x3, (ho _ _ (by omega)).trans x4⟩
theorem RU_fr (h : RU S I) (hx : ∀ m k, 200 ≤ m → m ≤ 207 → S'.1.1 m k = S.1.1 m k) (hn : S'.2 201 = S.2 201) (ho : ∀ m k, (36 ≤ m ∧ m ≤ 39) ∨ (41 ≤ m ∧ m ≤ 46) ∨ (m = 0 ∧ (k = 21 ∨ k = 39 ∨ k = 46)) → I' m k = I m k) : RU S' I' := by
  obtain ⟨q, n, a, ⟨b1, b2⟩, ⟨c1, c2⟩, ran, d1, d2, d3⟩ := h
  refine ⟨q, n, a, ⟨(hx _ _ (by omega) (by omega)).trans b1, fun i hi => ?_⟩, ⟨(ho _ _ (by omega)).trans c1, fun i hi => ?_⟩, ran, (hx _ _ (by omega) (by omega)).trans d1, (ho _ _ (by omega)).trans d2, fun hr => ?_⟩
  · obtain ⟨x1, x2, x3, x4⟩ := b2 i hi
    exact ⟨(hx _ _ (by omega) (by omega)).trans x1, (hx _ _ (by omega) (by omega)).trans x2, fun z => (hx _ _ (by omega) (by omega)).trans (x3 z), (hx _ _ (by omega) (by omega)).trans x4⟩
  · obtain ⟨x1, x2, x3, x4⟩ := c2 i hi
    exact ⟨(ho _ _ (by omega)).trans x1, (ho _ _ (by omega)).trans x2, fun z => (ho _ _ (by omega)).trans (x3 z), (ho _ _ (by omega)).trans x4⟩
  · obtain ⟨e1, L, e2, e3, ⟨f1, f2, f3, f4⟩⟩ := d3 hr
    refine ⟨by rw [hn]; exact e1, L, e2, faX_fr e3 (fun m j x y => hx m j x (by omega)), f1, (ho _ _ (by omega)).trans f2, fun i x y => ?_, fun r hr => ?_⟩
    · obtain ⟨x1, x2, x3, x4⟩ := f3 i x y
      exact ⟨(ho _ _ (by omega)).trans x1, (ho _ _ (by omega)).trans x2, (ho _ _ (by omega)).trans x3, (ho _ _ (by omega)).trans x4⟩
    · obtain ⟨x1, x2⟩ := f4 r hr
      exact ⟨(ho _ _ (by omega)).trans x1, (ho _ _ (by omega)).trans x2⟩
theorem RE_fr (h : RE S I) (hx : S'.1.1 300 0 = S.1.1 300 0) (ho : ∀ k, I' 49 k = I 49 k) : RE S' I' := by
  obtain ⟨cd, a, b⟩ := h
  exact ⟨cd, fun l hl => by rw [hx]; exact a l hl, fun l hl => (ho l).trans (b l hl)⟩
theorem RJ_fr (h : RJ S I) (hx : ∀ m k, (m = 300 ∧ k = 1) ∨ m = 301 → S'.1.1 m k = S.1.1 m k) (ho : ∀ m k, (51 ≤ m ∧ m ≤ 53) ∨ (m = 0 ∧ k = 53) → I' m k = I m k) : RJ S' I' := by
  obtain ⟨jl, jn, a, ⟨b1, b2⟩, c1, c2⟩ := h
  refine ⟨jl, jn, a, ⟨(hx _ _ (by omega)).trans b1, fun i hi => ?_⟩, (ho _ _ (by omega)).trans c1, fun i hi => ?_⟩
  · obtain ⟨x1, x2, x3⟩ := b2 i hi
    exact ⟨(hx _ _ (by omega)).trans x1, (hx _ _ (by omega)).trans x2, (hx _ _ (by omega)).trans x3⟩
  · obtain ⟨x1, x2, x3⟩ := c2 i hi
    exact ⟨(ho _ _ (by omega)).trans x1, (ho _ _ (by omega)).trans x2, (ho _ _ (by omega)).trans x3⟩
theorem RG_fr (h : RG S I) (hx : ∀ k, 6 ≤ k → k ≤ 8 → S'.1.1 300 k = S.1.1 300 k) (ho : ∀ k, 54 ≤ k → k ≤ 56 → I' 0 k = I 0 k) : RG S' I' := by
  obtain ⟨gt, a, b, c⟩ := h
  refine ⟨gt, a, ?_, ?_⟩
  · cases gt with
    | none => exact ⟨(hx _ (by omega) (by omega)).trans b.1, (hx _ (by omega) (by omega)).trans b.2⟩
    | some t => exact ⟨(hx _ (by omega) (by omega)).trans b.1, (hx _ (by omega) (by omega)).trans b.2.1, (hx _ (by omega) (by omega)).trans b.2.2⟩
  · cases gt with
    | none => exact (ho _ (by omega) (by omega)).trans c
    | some t => exact ⟨(ho _ (by omega) (by omega)).trans c.1, (ho _ (by omega) (by omega)).trans c.2.1, (ho _ (by omega) (by omega)).trans c.2.2⟩
theorem RF_fr {D : Nat → Bool} {fo : Bool} {nets dn : Nat} {dev : dvT} (h : RF S I D fo nets dn dev) (hx : ∀ m k, (m = 300 ∧ (k = 2 ∨ k = 3 ∨ k = 9)) ∨ (302 ≤ m ∧ m ≤ 327) → S'.1.1 m k = S.1.1 m k) (hj : ∀ m, m = 311 ∨ m = 321 → S'.1.2 m = S.1.2 m) (hn : ∀ x, 302 ≤ x → x ≤ 327 → S'.2 x = S.2 x) (ho : ∀ m k, m = 50 ∨ m = 59 ∨ (62 ≤ m ∧ m ≤ 65) ∨ (m = 0 ∧ (k = 22 ∨ k = 57 ∨ k = 65)) → I' m k = I m k) : RF S' I' D fo nets dn dev := by
  obtain ⟨a, b, c⟩ := h
  refine ⟨(hx _ _ (by omega)).trans a, (ho _ _ (by omega)).trans b, fun hf => ?_⟩
  obtain ⟨cd, jl, jn, gt, ⟨⟨lab, g, gl⟩, ⟨v1, v2, v3⟩, w⟩, ⟨⟨t1, t2⟩, ⟨u1, u2⟩, z⟩, d, e, f, k⟩ := c hf
  refine ⟨cd, jl, jn, gt, ⟨⟨lab, ?_, gl⟩, ⟨(hx _ _ (by omega)).trans v1, ?_, fun d hd => ?_⟩, fun l hl => by rw [hx _ _ (by omega)]; exact w l hl⟩, ⟨⟨fun q hq => (ho _ _ (by omega)).trans (t1 q hq), (ho _ _ (by omega)).trans t2⟩, ⟨(ho _ _ (by omega)).trans u1, fun d hd => ?_⟩, fun l hl => (ho _ _ (by omega)).trans (z l hl)⟩, d, e, f, k⟩
  · obtain ⟨h1, h2, h3, h4, h5, h6, h7⟩ := g
    exact ⟨fun y x hy hx' => by rw [hj _ (by omega)]; exact h1 y x hy hx', fun y hy => (hx _ _ (by omega)).trans (h2 y hy), fun p hp hr => (hx _ _ (by omega)).trans (h3 p hp hr), (hx _ _ (by omega)).trans h4, by rw [hn _ (by omega) (by omega)]; exact h5, (hx _ _ (by omega)).trans h6, h7⟩
  · rw [hn _ (by omega) (by omega), hn _ (by omega) (by omega), hn _ (by omega) (by omega), hn _ (by omega) (by omega)]
    exact v2
  · obtain ⟨x1, x2, x3, x4⟩ := v3 d hd
    exact ⟨(hx _ _ (by omega)).trans x1, (hx _ _ (by omega)).trans x2, (hx _ _ (by omega)).trans x3, (hx _ _ (by omega)).trans x4⟩
  · obtain ⟨x1, x2, x3, x4⟩ := u2 d hd
    exact ⟨(ho _ _ (by omega)).trans x1, (ho _ _ (by omega)).trans x2, (ho _ _ (by omega)).trans x3, (ho _ _ (by omega)).trans x4⟩
theorem RW_fr {fo : Bool} {nets dn : Nat} {dev : dvT} (h : RW S I fo nets dn dev) (hx : ∀ m k, 400 ≤ m → m ≤ 404 → S'.1.1 m k = S.1.1 m k) (ho : ∀ m k, (67 ≤ m ∧ m ≤ 70) ∨ (75 ≤ m ∧ m ≤ 77) ∨ (m = 0 ∧ (k = 70 ∨ k = 71 ∨ k = 72)) → I' m k = I m k) : RW S' I' fo nets dn dev := by
  obtain ⟨ws, n, a, ⟨b1, b2⟩, ⟨c1, c2⟩, ⟨tv, t1, t2⟩, pv, d1, d2, d3⟩ := h
  refine ⟨ws, n, a, ⟨(hx _ _ (by omega) (by omega)).trans b1, fun i hi => ⟨(hx _ _ (by omega) (by omega)).trans (b2 i hi).1, (hx _ _ (by omega) (by omega)).trans (b2 i hi).2⟩⟩, ⟨(ho _ _ (by omega)).trans c1, fun i hi => ?_⟩, ⟨tv, (hx _ _ (by omega) (by omega)).trans t1, (ho _ _ (by omega)).trans t2⟩, pv, (hx _ _ (by omega) (by omega)).trans d1, (ho _ _ (by omega)).trans d2, fun hp => ?_⟩
  · obtain ⟨x1, x2, x3, x4⟩ := c2 i hi
    exact ⟨(ho _ _ (by omega)).trans x1, (ho _ _ (by omega)).trans x2, (ho _ _ (by omega)).trans x3, (ho _ _ (by omega)).trans x4⟩
  · obtain ⟨e1, e2, ⟨e3, e4⟩, ⟨p1, p2, p3, p4⟩, e5⟩ := d3 hp
    refine ⟨e1, e2, ⟨fun i hi => (hx _ _ (by omega) (by omega)).trans (e3 i hi), fun j hj => (hx _ _ (by omega) (by omega)).trans (e4 j hj)⟩, ⟨fun w hw => (ho _ _ (by omega)).trans (p1 w hw), fun z hz => ?_, p3, p4⟩, fun j hj => (ho _ _ (by omega)).trans (e5 j hj)⟩
    rw [ho _ _ (by omega)]
    exact p2 z hz
theorem RLn_fr (h : RLn S I) (hx : S'.1.1 0 8 = S.1.1 0 8) (hj : S'.1.2 0 = S.1.2 0) (ho : ∀ m k, m = 78 ∨ (m = 0 ∧ k = 79) → I' m k = I m k) : RLn S' I' := by
  obtain ⟨hr, a, b, c⟩ := h
  refine ⟨hr, hx.trans a, (ho _ _ (by omega)).trans b, fun hh => ?_⟩
  obtain ⟨ln, d⟩ := c hh
  exact ⟨ln, fun x hx' => ⟨by rw [hj]; exact (d x hx').1, (ho _ _ (by omega)).trans (d x hx').2⟩⟩
theorem RZ_fr (h : RZ S I) (hx : ∀ k, S'.1.1 2 k = S.1.1 2 k) (ho : ∀ k, I' 12 k = I 12 k) : RZ S' I' := fun k hk => by
  rw [hx, ho]
  exact h k hk
end
/-- one call, on both sides -/
def simP (K : Nat → Nat) (N : Nat → Nat) (x : Option (Int32 × cm)) (y : Option (Int32 × nm_I)) : Prop := ∃ r M' I', x = some (r, M') ∧ y = some (r, I') ∧ RR (M', N) K I'
def simA (K : Nat → Nat) (N : Nat → Nat) (x : Option ((Int32 × ca) × Nat × Nat)) (y : Option (Int32 × nm_I)) : Prop := ∃ r S' dc ds I', x = some ((r, S'), dc, ds) ∧ dc ≤ ds ∧ ds + 2 * pt N ≤ 2 * pt S'.2 ∧ y = some (r, I') ∧ RR S' K I'
/-- a refusal -/
theorem w_refuse {S : ca} {K : Nat → Nat} {I : nm_I} (h : RR S K I) {b : Int} (b1 : -9 ≤ b) (b2 : b ≤ -2) : ∃ M' I', f_X11_refuse (zI b) S.1 = some (zI b, M') ∧ f_X12_no (zI b) I = some (zI b, I') ∧ RR (M', S.2) K I' := by
  obtain ⟨hc, ⟨hA, hB, hU, hE, hJ, hG, hL, hZ⟩, D, T, fo, nets, dn, dev, hC, hF, hW⟩ := h
  obtain ⟨k, hk⟩ : ∃ k : Nat, b = -2 - (k : Int) := ⟨(-2 - b).toNat, by omega⟩
  have hk8 : k < 8 := by omega
  unfold f_X11_refuse f_X12_no
  rw [show (-2 : Int32) = zI (-2) from rfl, zI_sub, zI_neg, nm_cz (by omega) (by omega) (by omega), nm_cz (by omega) (by omega) (by omega), nm_cz (by omega) (by omega) (by omega), nm_cz (by omega) (by omega) (by omega), zI_cl (by omega) (by omega), zI_cl (by omega) (by omega), nm_l_eq, nm_l_eq, show (-2 - b).toNat = k by omega, show (-b).toNat = k + 2 by omega]
  obtain ⟨A, hA9⟩ : ∃ A, A = nm_up S.1.1 2 k (S.1.1 2 k + 1) := ⟨_, rfl⟩
  obtain ⟨J, hJ9⟩ : ∃ J, J = nm_up I 12 (k + 2) (I 12 (k + 2) + 1) := ⟨_, rfl⟩
  rw [← hA9, ← hJ9]
  have a1 : ∀ m j, ¬ (m = 2 ∧ j = k) → A m j = S.1.1 m j := fun m j h => by rw [hA9, nm_up_ap, if_neg h]
  have a2 : A 2 k = S.1.1 2 k + 1 := by rw [hA9, nm_up_ap, if_pos ⟨rfl, rfl⟩]
  have j1 : ∀ m j, ¬ (m = 12 ∧ j = k + 2) → J m j = I m j := fun m j h => by rw [hJ9, nm_up_ap, if_neg h]
  have j2 : J 12 (k + 2) = I 12 (k + 2) + 1 := by rw [hJ9, nm_up_ap, if_pos ⟨rfl, rfl⟩]
  clear hA9 hJ9
  refine ⟨(A, S.1.2), J, rfl, rfl, hc, ⟨RA_fr hA ⟨fun m j h => a1 m j (by omega), fun _ _ => rfl, fun _ _ => rfl⟩ (fun m j _ _ => j1 m j (by omega)), RB_fr hB (fun m j _ _ => a1 m j (by omega)) (fun m j _ _ => j1 m j (by omega)), RU_fr hU (fun m j _ _ => a1 m j (by omega)) rfl (fun m j _ => j1 m j (by omega)), RE_fr hE (a1 _ _ (by omega)) (fun j => j1 _ _ (by omega)), RJ_fr hJ (fun m j _ => a1 m j (by omega)) (fun m j _ => j1 m j (by omega)), RG_fr hG (fun j _ _ => a1 _ _ (by omega)) (fun j _ _ => j1 _ _ (by omega)), RLn_fr hL (a1 _ _ (by omega)) rfl (fun m j _ => j1 m j (by omega)), ?_⟩, D, T, fo, nets, dn, dev, RC_fr hC (fun m j _ => a1 m j (by omega)) rfl (fun m j _ => j1 m j (by omega)), RF_fr hF (fun m j _ => a1 m j (by omega)) (fun _ _ => rfl) (fun _ _ _ => rfl) (fun m j _ => j1 m j (by omega)), RW_fr hW (fun m j _ _ => a1 m j (by omega)) (fun m j _ => j1 m j (by omega))⟩
  intro i hi
  show A 2 i = J 12 (i + 2)
  by_cases hik : i = k
  · subst hik
    rw [a2, j2, hZ i hi]
  · rw [a1 _ _ (by omega), j1 _ _ (by omega)]
    exact hZ i hi
