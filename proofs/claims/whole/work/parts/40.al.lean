/-! methods that make arrays: a name may come to stand for another cell -/
abbrev ca : Type := cm × (Nat → Nat)
def cl_dy : List Nat := [112, 113, 114, 116, 117, 312, 313, 314, 316, 317, 322, 323, 324, 326, 327, 201, 302, 303, 304, 1002, 1003, 1102, 1103, 1202, 1203, 1302, 1303, 1402, 1403, 1502, 1503, 1602, 1603, 1702, 1703]
def cl_a (ad u : Nat → Nat) : Prop := ∀ n, n ∉ cl_dy → u n = ad n
theorem cl_a.rf {ad : Nat → Nat} : cl_a ad ad := fun _ _ => rfl
theorem cl_a.tr {a b c : Nat → Nat} (h : cl_a a b) (h2 : cl_a b c) : cl_a a c := fun n hn => (h2 n hn).trans (h n hn)
theorem cl_so {o : Nat} (ho : cl_o o) : o ∉ cl_dy := by rcases ho with rfl | rfl | rfl <;> decide
theorem cl_sw {w : Nat} (hw : cl_w w) : w ∉ cl_dy := by obtain ⟨k, hk, rfl⟩ := hw; rcases cl_w8 hk with rfl | rfl | rfl | rfl | rfl | rfl | rfl | rfl <;> decide
theorem cl_ndy {N : Nat → Nat} (h : cl_N N) {n L : Nat} (hn : n ∈ cl_dy) : cl_N (va_up N n L) := by
  intro q hq
  have hne : q.1 ≠ n := by
    intro e
    subst e
    revert hn
    revert hq
    revert q
    decide
  show va_up N n L q.1 = q.2
  rw [va_up_ne _ _ hne]
  exact h q hq
def cl_gl (N : Nat → Nat) (n : Nat) (need : Int32) : Int32 := nm_max need (2 * nI (N n))
def cl_grow (n : Nat) (need : Int32) (S : ca) : Option (ca × Nat × Nat) :=
  if nI (S.2 n) < need then (if 0 ≤ (cl_gl S.2 n need).toInt ∧ (cl_gl S.2 n need).toInt ≤ 134217728 then some (((va_up S.1.1 n (fun _ => 0), S.1.2), va_up S.2 n (cl_gl S.2 n need).toNatClampNeg), 1, (cl_gl S.2 n need).toNatClampNeg) else none) else some (S, 0, 0)
def cl_newJ (n L : Nat) (S : ca) : Option (ca × Nat × Nat) := some (((S.1.1, va_up S.1.2 n (fun _ => 0)), va_up S.2 n L), 1, L)
def cl_newI (n L : Nat) (S : ca) : Option (ca × Nat × Nat) := some (((va_up S.1.1 n (fun _ => 0), S.1.2), va_up S.2 n L), 1, L)
def nm_a1 {α β : Type} (x : Option (α × Nat × Nat)) (K : α → Option (β × Nat × Nat)) : Option (β × Nat × Nat) := x.bind (fun q => (K q.1).map (fun r => (r.1, q.2.1 + r.2.1, q.2.2 + r.2.2)))
def nm_a2 {α1 α2 β : Type} (x : Option ((α1 × α2) × Nat × Nat)) (K : α1 → α2 → Option (β × Nat × Nat)) : Option (β × Nat × Nat) := nm_a1 x (fun q => K q.1 q.2)
def nm_a3 {α1 α2 α3 β : Type} (x : Option ((α1 × α2 × α3) × Nat × Nat)) (K : α1 → α2 → α3 → Option (β × Nat × Nat)) : Option (β × Nat × Nat) := nm_a1 x (fun q => K q.1 q.2.1 q.2.2)
theorem nm_ad1 {α β : Type} {x : Option (α × Nat × Nat)} {K : α → Option (β × Nat × Nat)} {o : β} {dc ds : Nat} (hf : nm_a1 x K = some (o, dc, ds)) : ∃ a c1 s1 dc2 ds2, x = some (a, c1, s1) ∧ K a = some (o, dc2, ds2) ∧ dc = c1 + dc2 ∧ ds = s1 + ds2 := by
  obtain ⟨⟨a, c1, s1⟩, h1, h2⟩ := Option.bind_eq_some_iff.mp hf
  obtain ⟨⟨o', dc2, ds2⟩, h3, h4⟩ := Option.map_eq_some_iff.mp h2
  injection h4 with h5 h6
  injection h6 with h7 h8
  subst h5
  exact ⟨a, c1, s1, dc2, ds2, h1, h3, h7.symm, h8.symm⟩
theorem nm_ad2 {α1 α2 β : Type} {x : Option ((α1 × α2) × Nat × Nat)} {K : α1 → α2 → Option (β × Nat × Nat)} {o : β} {dc ds : Nat} (hf : nm_a2 x K = some (o, dc, ds)) : ∃ a b c1 s1 dc2 ds2, x = some ((a, b), c1, s1) ∧ K a b = some (o, dc2, ds2) ∧ dc = c1 + dc2 ∧ ds = s1 + ds2 := by
  obtain ⟨⟨a, b⟩, h⟩ := nm_ad1 hf
  exact ⟨a, b, h⟩
theorem nm_ad3 {α1 α2 α3 β : Type} {x : Option ((α1 × α2 × α3) × Nat × Nat)} {K : α1 → α2 → α3 → Option (β × Nat × Nat)} {o : β} {dc ds : Nat} (hf : nm_a3 x K = some (o, dc, ds)) : ∃ a b d c1 s1 dc2 ds2, x = some ((a, b, d), c1, s1) ∧ K a b d = some (o, dc2, ds2) ∧ dc = c1 + dc2 ∧ ds = s1 + ds2 := by
  obtain ⟨⟨a, b, d⟩, h⟩ := nm_ad1 hf
  exact ⟨a, b, d, h⟩
/-! a name bound anew -/
theorem nm_reb {D : va_G} {cl : List vw_C} {A : Nat → Prop} {X : va_W} {nl : List Nat} {ad : Nat → Nat} {E E' : Nat → va_E} {H : Heap} {o n r k : Nat} {e' eo : va_E}
    (hP : va_P D cl (((X ++ nm_w nl ad E) ++ [(r, e')]).set k (ad o, eo)) H) (hD : va_D A (((X ++ nm_w nl ad E) ++ [(r, e')]).set k (ad o, eo))) (hk : (X ++ nm_w nl ad E)[k]? = some (ad o, E o)) (ho : o ∈ nl) (hno : n ≠ o) (hE : ∀ x, x ∈ nl → x ≠ n → x ≠ o → E' x = E x) (hEo : E' o = eo) (hEn : E' n = e') :
    va_P D cl (X ++ nm_w nl (va_up ad n r) E') H ∧ va_D A (X ++ nm_w nl (va_up ad n r) E') := by
  generalize hW : X ++ nm_w nl ad E = W0 at hP hD hk
  have hkl : k < W0.length := (List.getElem?_eq_some_iff.mp hk).1
  have hlen : W0.length = X.length + nl.length := by rw [← hW]; simp [nm_w]
  -- what stands at each place
  have hlast : ((W0 ++ [(r, e')]).set k (ad o, eo))[W0.length]? = some (r, e') := by
    rw [List.getElem?_set_ne (by omega), List.getElem?_append_right (Nat.le_refl _)]
    simp
  have hat : ∀ i, i < W0.length → i ≠ k → ((W0 ++ [(r, e')]).set k (ad o, eo))[i]? = W0[i]? := by
    intro i hi hik
    rw [List.getElem?_set_ne (by omega), List.getElem?_append_left hi]
  have hatk : ((W0 ++ [(r, e')]).set k (ad o, eo))[k]? = some (ad o, eo) := by
    rw [List.getElem?_set_self (by simp; omega)]
  have hX : ∀ i, i < X.length → W0[i]? = X[i]? := by
    intro i hi
    rw [← hW, List.getElem?_append_left hi]
  have hN : ∀ i x, nl[i]? = some x → W0[X.length + i]? = some (ad x, E x) := by
    intro i x hx
    rw [← hW, List.getElem?_append_right (by omega)]
    simp [nm_w, hx]
  -- the place of o
  obtain ⟨jo, hjo⟩ := List.getElem?_of_mem ho
  have hjl : X.length + jo < W0.length := (List.getElem?_eq_some_iff.mp (hN jo o hjo)).1
  have hko : k = X.length + jo := by
    by_cases h : X.length + jo = k
    · exact h.symm
    · have h2 := hat _ hjl h
      rw [hN jo o hjo] at h2
      exact hD.1 k _ _ _ hatk h2 rfl
  have hkn : ∀ i x, nl[i]? = some x → x ≠ o → X.length + i ≠ k := by
    intro i x hx hxo h
    have h2 : i = jo := by omega
    subst h2
    rw [hx] at hjo
    exact hxo (Option.some.inj hjo)
  -- every place of the new list is a place of the old one
  have key : ∀ i p, (X ++ nm_w nl (va_up ad n r) E')[i]? = some p → i < W0.length ∧ ((((W0 ++ [(r, e')]).set k (ad o, eo))[i]? = some p) ∨ (p = (r, e') ∧ ∃ e, ((W0 ++ [(r, e')]).set k (ad o, eo))[i]? = some (ad n, e))) := by
    intro i p hp
    have hi : i < W0.length := by
      have := (List.getElem?_eq_some_iff.mp hp).1
      rw [hlen]
      simpa [nm_w] using this
    refine ⟨hi, ?_⟩
    by_cases hx : i < X.length
    · rw [List.getElem?_append_left hx] at hp
      left
      rw [hat i hi (by omega), hX i hx, hp]
    · rw [List.getElem?_append_right (by omega)] at hp
      simp only [nm_w, List.getElem?_map] at hp
      cases hc : nl[i - X.length]? with
      | none => rw [hc] at hp; cases hp
      | some x =>
        rw [hc] at hp
        have hp2 : (va_up ad n r x, E' x) = p := Option.some.inj hp
        have hi2 : X.length + (i - X.length) = i := by omega
        have h3 := hN _ _ hc
        rw [hi2] at h3
        by_cases hxn : x = n
        · right
          subst hxn
          have hne : i ≠ k := by rw [← hi2]; exact hkn _ _ hc hno
          refine ⟨by rw [← hp2, va_up_self, hEn], E x, ?_⟩
          rw [hat i hi hne, h3]
        · left
          rw [← hp2, va_up_ne _ _ hxn]
          by_cases hxo : x = o
          · subst hxo
            have : i = k := by
              have h4 : i - X.length = jo := by
                have h5 := hkn
                by_cases h6 : X.length + (i - X.length) = k
                · omega
                · have h7 := hat i hi (by omega)
                  rw [h3] at h7
                  have := hD.1 k i _ _ hatk h7 rfl
                  omega
              omega
            rw [this, hatk, hEo]
          · have hne : i ≠ k := by rw [← hi2]; exact hkn _ _ hc hxo
            rw [hat i hi hne, h3, hE x (List.mem_of_getElem? hc) hxn hxo]
  constructor
  · intro i p hp
    rcases (key i p hp).2 with h | ⟨h, -⟩
    · exact hP i p h
    · rw [h]; exact hP _ _ hlast
  · refine ⟨fun i j p q hp hq hpq => ?_, fun i p hp => ?_⟩
    · obtain ⟨hi, h1⟩ := key i p hp
      obtain ⟨hj, h2⟩ := key j q hq
      rcases h1 with h1 | ⟨h1, e1, h1'⟩ <;> rcases h2 with h2 | ⟨h2, e2, h2'⟩
      · exact hD.1 i j p q h1 h2 hpq
      · exfalso
        rw [h2] at hpq
        have := hD.1 i _ _ _ h1 hlast hpq
        omega
      · exfalso
        rw [h1] at hpq
        have := hD.1 j _ _ _ h2 hlast hpq.symm
        omega
      · exact hD.1 i j _ _ h1' h2' rfl
    · rcases (key i p hp).2 with h | ⟨h, -⟩
      · exact hD.2 i p h
      · rw [h]; exact hD.2 _ _ hlast
/-- whose child a name is -/
def cl_own (n o : Nat) : Bool := cl_st.all (fun q => decide (20 ≤ q.2) || (List.range (nm_sz (q.2 - 1))).all (fun k => decide (nm_sd (q.2 - 1) k < 2) || decide (q.1 + (nm_sd (q.2 - 1) k - 2) ≠ n) || decide (q.1 = o)))
/-- a child name of an object, bound to a new array -/
theorem nm_E_reb {Y : nm_Y} {nl : List Nat} {ad : Nat → Nat} {C C' : nm_M} {n o r : Nat} (hL : cl_L nl C.2.2.2) (hK : C'.2.2.2 = C.2.2.2) (h1 : ∀ x, x ≠ n → C'.1 x = C.1 x) (h2 : ∀ x, x ≠ n → C'.2.1 x = C.2.1 x) (h3 : ∀ x, x ≠ n → C'.2.2.1 x = C.2.2.1 x) (hown : cl_own n o = true) (hnd : n ∈ cl_dy) :
    ∀ x, x ∈ nl → x ≠ n → x ≠ o → nm_E Y (va_up ad n r) C' x = nm_E Y ad C x := by
  intro x hx hxn hxo
  have hfs : C.2.2.2 x < 20 → nm_fs (va_up ad n r) C' x (C.2.2.2 x - 1) = nm_fs ad C x (C.2.2.2 x - 1) := by
    intro hlt
    unfold nm_fs
    apply List.map_congr_left
    intro k hk
    have hk' : k < nm_sz (C.2.2.2 x - 1) := List.mem_range.mp hk
    generalize hd : nm_sd (C.2.2.2 x - 1) k = d
    match d, hd with
    | 0, _ => simp [nm_fv, h1 x hxn]
    | 1, _ => simp [nm_fv, h2 x hxn]
    | d + 2, hd =>
      show Value.ref (va_up ad n r (x + d)) = Value.ref (ad (x + d))
      rw [va_up_ne]
      intro e
      rcases hL.2.1 x hx with hs | ⟨-, hs⟩
      · obtain ⟨q, hq, hqx⟩ := List.mem_map.mp hs
        have hq2 := (hL.1 q hq).2
        have ho := List.all_eq_true.mp hown q hq
        rw [hqx] at hq2
        rw [hq2] at hlt hk' hd
        simp only [Bool.or_eq_true, decide_eq_true_eq] at ho
        rcases ho with ho | ho
        · omega
        · have ho2 := List.all_eq_true.mp ho k (List.mem_range.mpr hk')
          simp only [Bool.or_eq_true, decide_eq_true_eq, hd, hqx] at ho2
          rcases ho2 with (ho2 | ho2) | ho2
          · omega
          · exact ho2 (by omega)
          · exact hxo ho2
      · rcases hs with hs | hs | hs <;> rw [hs] at hd hk' <;> (exfalso; revert hd; revert hk'; clear e; revert d; revert k; decide)
  unfold nm_E
  rw [hK, h1 x hxn, h2 x hxn, h3 x hxn]
  by_cases hlt : C.2.2.2 x < 20
  · rw [if_pos hlt, if_pos hlt, hfs hlt]
  · rw [if_neg hlt, if_neg hlt]
    have hc23 : C.2.2.2 x = 23 → x = 1 := by
      intro h
      rcases hL.2.1 x hx with hs | ⟨-, hs⟩
      · obtain ⟨q, hq, hqx⟩ := List.mem_map.mp hs
        have hq2 := (hL.1 q hq).2
        rw [hqx, h] at hq2
        rw [← hqx]
        revert hq2
        revert hq
        clear hqx
        revert q
        decide
      · rcases hs with hs | hs | hs <;> omega
    have hc24 : ¬ C.2.2.2 x = 23 → ∀ k, k < 16 → C.2.2.2 x = 24 → x + 9 + k ≠ n := by
      intro _ k hk h e
      rcases hL.2.1 x hx with hs | ⟨-, hs⟩
      · obtain ⟨q, hq, hqx⟩ := List.mem_map.mp hs
        have hq2 := (hL.1 q hq).2
        rw [hqx, h] at hq2
        have hfin : ∀ q ∈ cl_st, 24 = q.2 → ∀ k, k < 16 → q.1 + 9 + k ∉ cl_dy := by decide
        exact hfin q hq hq2 k hk (by rw [hqx, e]; exact hnd)
      · rcases hs with hs | hs | hs <;> omega
    by_cases k20 : C.2.2.2 x = 20
    · rw [if_pos k20, if_pos k20]
    · rw [if_neg k20, if_neg k20]
      by_cases k21 : C.2.2.2 x = 21
      · rw [if_pos k21, if_pos k21]
      · rw [if_neg k21, if_neg k21]
        by_cases k22 : C.2.2.2 x = 22
        · rw [if_pos k22, if_pos k22]
        · rw [if_neg k22, if_neg k22]
          by_cases k23 : C.2.2.2 x = 23
          · rw [if_pos k23, if_pos k23]
            have hx1 := hc23 k23
            subst hx1
            congr 6
            funext k
            by_cases hk : k < 8
            · rw [if_pos hk, if_pos hk, va_up_ne]
              intro e
              have hfin : ∀ k, k < 8 → 1 + 999 + 100 * k ∉ cl_dy := by decide
              exact hfin k hk (by rw [e]; exact hnd)
            · rw [if_neg hk, if_neg hk]
          · rw [if_neg k23, if_neg k23]
            have k24 : C.2.2.2 x = 24 := by
              rcases hL.2.1 x hx with hs | ⟨-, hs⟩
              · obtain ⟨q, hq, hqx⟩ := List.mem_map.mp hs
                have hq2 := (hL.1 q hq).2
                rw [hqx] at hq2
                have hfin : ∀ q ∈ cl_st, q.2 < 20 ∨ q.2 = 20 ∨ q.2 = 21 ∨ q.2 = 22 ∨ q.2 = 23 ∨ q.2 = 24 := by decide
                rcases hfin q hq with h | h | h | h | h | h <;> omega
              · rcases hs with hs | hs | hs <;> omega
            congr 6
            funext k
            by_cases hk : k < 16 ∧ C.2.2.2 (x + 9 + k) ≠ 0
            · rw [if_pos hk, if_pos hk, va_up_ne _ _ (hc24 k23 k hk.1 k24)]
            · rw [if_neg hk, if_neg hk]
