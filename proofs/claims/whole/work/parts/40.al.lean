/-! methods that make arrays: a name may come to stand for another cell -/
abbrev ca : Type := cm × (Nat → Nat)
def cl_dy : List Nat := [112, 113, 114, 116, 117, 312, 313, 314, 316, 317, 322, 323, 324, 326, 327, 201, 302, 303, 304, 1002, 1003, 1102, 1103, 1202, 1203, 1302, 1303, 1402, 1403, 1502, 1503, 1602, 1603, 1702, 1703]
def cl_a (ad u : Nat → Nat) : Prop := ∀ n, n ∉ cl_dy → u n = ad n
theorem cl_a.rf {ad : Nat → Nat} : cl_a ad ad := fun _ _ => rfl
theorem cl_a.tr {a b c : Nat → Nat} (h : cl_a a b) (h2 : cl_a b c) : cl_a a c := fun n hn => (h2 n hn).trans (h n hn)
theorem cl_so {o : Nat} (ho : cl_o o) : o ∉ cl_dy := by rcases ho with rfl | rfl | rfl <;> decide
theorem cl_sw {w : Nat} (hw : cl_w w) : w ∉ cl_dy := by obtain ⟨k, hk, rfl⟩ := hw; rcases cl_w8 hk with rfl | rfl | rfl | rfl | rfl | rfl | rfl | rfl <;> decide
theorem cl_ndy {N : Nat → Nat} (h : cl_N N) {n L : Nat} (hn : n ∈ cl_dy) : cl_N (va_up N n L) := by
  intro q hq
  have hne : q.1 ≠ n := by
    intro e
    subst e
    revert hn
    revert hq
    revert q
    decide
  show va_up N n L q.1 = q.2
  rw [va_up_ne _ _ hne]
  exact h q hq
def cl_gl (N : Nat → Nat) (n : Nat) (need : Int32) : Int32 := nm_max need (2 * nI (N n))
def cl_grow (n : Nat) (need : Int32) (S : ca) : Option (ca × Nat × Nat) :=
  if nI (S.2 n) < need then (if 0 ≤ (cl_gl S.2 n need).toInt ∧ (cl_gl S.2 n need).toInt ≤ 134217728 then some (((va_up S.1.1 n (fun _ => 0), S.1.2), va_up S.2 n (cl_gl S.2 n need).toNatClampNeg), 1, (cl_gl S.2 n need).toNatClampNeg) else none) else some (S, 0, 0)
def cl_newJ (n L : Nat) (S : ca) : Option (ca × Nat × Nat) := some (((S.1.1, va_up S.1.2 n (fun _ => 0)), va_up S.2 n L), 1, L)
def cl_newI (n L : Nat) (S : ca) : Option (ca × Nat × Nat) := some (((va_up S.1.1 n (fun _ => 0), S.1.2), va_up S.2 n L), 1, L)
def nm_a1 {α β : Type} (x : Option (α × Nat × Nat)) (K : α → Option (β × Nat × Nat)) : Option (β × Nat × Nat) := x.bind (fun q => (K q.1).map (fun r => (r.1, q.2.1 + r.2.1, q.2.2 + r.2.2)))
def nm_a2 {α1 α2 β : Type} (x : Option ((α1 × α2) × Nat × Nat)) (K : α1 → α2 → Option (β × Nat × Nat)) : Option (β × Nat × Nat) := nm_a1 x (fun q => K q.1 q.2)
def nm_a3 {α1 α2 α3 β : Type} (x : Option ((α1 × α2 × α3) × Nat × Nat)) (K : α1 → α2 → α3 → Option (β × Nat × Nat)) : Option (β × Nat × Nat) := nm_a1 x (fun q => K q.1 q.2.1 q.2.2)
theorem nm_ad1 {α β : Type} {x : Option (α × Nat × Nat)} {K : α → Option (β × Nat × Nat)} {o : β} {dc ds : Nat} (hf : nm_a1 x K = some (o, dc, ds)) : ∃ a c1 s1 dc2 ds2, x = some (a, c1, s1) ∧ K a = some (o, dc2, ds2) ∧ dc = c1 + dc2 ∧ ds = s1 + ds2 := by
  obtain ⟨⟨a, c1, s1⟩, h1, h2⟩ := Option.bind_eq_some_iff.mp hf
  obtain ⟨⟨o', dc2, ds2⟩, h3, h4⟩ := Option.map_eq_some_iff.mp h2
  injection h4 with h5 h6
  injection h6 with h7 h8
  subst h5
  exact ⟨a, c1, s1, dc2, ds2, h1, h3, h7.symm, h8.symm⟩
theorem nm_ad2 {α1 α2 β : Type} {x : Option ((α1 × α2) × Nat × Nat)} {K : α1 → α2 → Option (β × Nat × Nat)} {o : β} {dc ds : Nat} (hf : nm_a2 x K = some (o, dc, ds)) : ∃ a b c1 s1 dc2 ds2, x = some ((a, b), c1, s1) ∧ K a b = some (o, dc2, ds2) ∧ dc = c1 + dc2 ∧ ds = s1 + ds2 := by
  obtain ⟨⟨a, b⟩, h⟩ := nm_ad1 hf
  exact ⟨a, b, h⟩
theorem nm_ad3 {α1 α2 α3 β : Type} {x : Option ((α1 × α2 × α3) × Nat × Nat)} {K : α1 → α2 → α3 → Option (β × Nat × Nat)} {o : β} {dc ds : Nat} (hf : nm_a3 x K = some (o, dc, ds)) : ∃ a b d c1 s1 dc2 ds2, x = some ((a, b, d), c1, s1) ∧ K a b d = some (o, dc2, ds2) ∧ dc = c1 + dc2 ∧ ds = s1 + ds2 := by
  obtain ⟨⟨a, b, d⟩, h⟩ := nm_ad1 hf
  exact ⟨a, b, d, h⟩
/-! a name bound anew -/
theorem nm_reb {D : va_G} {cl : List vw_C} {A : Nat → Prop} {X : va_W} {nl : List Nat} {ad : Nat → Nat} {E E' : Nat → va_E} {H : Heap} {o n r k : Nat} {e' eo : va_E}
    (hP : va_P D cl (((X ++ nm_w nl ad E) ++ [(r, e')]).set k (ad o, eo)) H) (hD : va_D A (((X ++ nm_w nl ad E) ++ [(r, e')]).set k (ad o, eo))) (hk : (X ++ nm_w nl ad E)[k]? = some (ad o, E o)) (ho : o ∈ nl) (hno : n ≠ o) (hE : ∀ x, x ∈ nl → x ≠ n → x ≠ o → E' x = E x) (hEo : E' o = eo) (hEn : E' n = e') :
    va_P D cl (X ++ nm_w nl (va_up ad n r) E') H ∧ va_D A (X ++ nm_w nl (va_up ad n r) E') := by
  generalize hW : X ++ nm_w nl ad E = W0 at hP hD hk
  have hkl : k < W0.length := (List.getElem?_eq_some_iff.mp hk).1
  have hlen : W0.length = X.length + nl.length := by rw [← hW]; simp [nm_w]
  -- what stands at each place
  have hlast : ((W0 ++ [(r, e')]).set k (ad o, eo))[W0.length]? = some (r, e') := by
    rw [List.getElem?_set_ne (by omega), List.getElem?_append_right (Nat.le_refl _)]
    simp
  have hat : ∀ i, i < W0.length → i ≠ k → ((W0 ++ [(r, e')]).set k (ad o, eo))[i]? = W0[i]? := by
    intro i hi hik
    rw [List.getElem?_set_ne (by omega), List.getElem?_append_left hi]
  have hatk : ((W0 ++ [(r, e')]).set k (ad o, eo))[k]? = some (ad o, eo) := by
    rw [List.getElem?_set_self (by simp; omega)]
  have hX : ∀ i, i < X.length → W0[i]? = X[i]? := by
    intro i hi
    rw [← hW, List.getElem?_append_left hi]
  have hN : ∀ i x, nl[i]? = some x → W0[X.length + i]? = some (ad x, E x) := by
    intro i x hx
    rw [← hW, List.getElem?_append_right (by omega)]
    simp [nm_w, hx]
  -- the place of o
  obtain ⟨jo, hjo⟩ := List.getElem?_of_mem ho
  have hjl : X.length + jo < W0.length := (List.getElem?_eq_some_iff.mp (hN jo o hjo)).1
  have hko : k = X.length + jo := by
    by_cases h : X.length + jo = k
    · exact h.symm
    · have h2 := hat _ hjl h
      rw [hN jo o hjo] at h2
      exact hD.1 k _ _ _ hatk h2 rfl
  have hkn : ∀ i x, nl[i]? = some x → x ≠ o → X.length + i ≠ k := by
    intro i x hx hxo h
    have h2 : i = jo := by omega
    subst h2
    rw [hx] at hjo
    exact hxo (Option.some.inj hjo)
  -- every place of the new list is a place of the old one
  have key : ∀ i p, (X ++ nm_w nl (va_up ad n r) E')[i]? = some p → i < W0.length ∧ ((((W0 ++ [(r, e')]).set k (ad o, eo))[i]? = some p) ∨ (p = (r, e') ∧ ∃ e, ((W0 ++ [(r, e')]).set k (ad o, eo))[i]? = some (ad n, e))) := by
    intro i p hp
    have hi : i < W0.length := by
      have := (List.getElem?_eq_some_iff.mp hp).1
      rw [hlen]
      simpa [nm_w] using this
    refine ⟨hi, ?_⟩
    by_cases hx : i < X.length
    · rw [List.getElem?_append_left hx] at hp
      left
      rw [hat i hi (by omega), hX i hx, hp]
    · rw [List.getElem?_append_right (by omega)] at hp
      simp only [nm_w, List.getElem?_map] at hp
      cases hc : nl[i - X.length]? with
      | none => rw [hc] at hp; cases hp
      | some x =>
        rw [hc] at hp
        have hp2 : (va_up ad n r x, E' x) = p := Option.some.inj hp
        have hi2 : X.length + (i - X.length) = i := by omega
        have h3 := hN _ _ hc
        rw [hi2] at h3
        by_cases hxn : x = n
        · right
          subst hxn
          have hne : i ≠ k := by rw [← hi2]; exact hkn _ _ hc hno
          refine ⟨by rw [← hp2, va_up_self, hEn], E x, ?_⟩
          rw [hat i hi hne, h3]
        · left
          rw [← hp2, va_up_ne _ _ hxn]
          by_cases hxo : x = o
          · subst hxo
            have : i = k := by
              have h4 : i - X.length = jo := by
                have h5 := hkn
                by_cases h6 : X.length + (i - X.length) = k
                · omega
                · have h7 := hat i hi (by omega)
                  rw [h3] at h7
                  have := hD.1 k i _ _ hatk h7 rfl
                  omega
              omega
            rw [this, hatk, hEo]
          · have hne : i ≠ k := by rw [← hi2]; exact hkn _ _ hc hxo
            rw [hat i hi hne, h3, hE x (List.mem_of_getElem? hc) hxn hxo]
  constructor
  · intro i p hp
    rcases (key i p hp).2 with h | ⟨h, -⟩
    · exact hP i p h
    · rw [h]; exact hP _ _ hlast
  · refine ⟨fun i j p q hp hq hpq => ?_, fun i p hp => ?_⟩
    · obtain ⟨hi, h1⟩ := key i p hp
      obtain ⟨hj, h2⟩ := key j q hq
      rcases h1 with h1 | ⟨h1, e1, h1'⟩ <;> rcases h2 with h2 | ⟨h2, e2, h2'⟩
      · exact hD.1 i j p q h1 h2 hpq
      · exfalso
        rw [h2] at hpq
        have := hD.1 i _ _ _ h1 hlast hpq
        omega
      · exfalso
        rw [h1] at hpq
        have := hD.1 j _ _ _ h2 hlast hpq.symm
        omega
      · exact hD.1 i j _ _ h1' h2' rfl
    · rcases (key i p hp).2 with h | ⟨h, -⟩
      · exact hD.2 i p h
      · rw [h]; exact hD.2 _ _ hlast
/-- whose child a name is -/
def cl_own (n o : Nat) : Bool := cl_st.all (fun q => decide (20 ≤ q.2) || (List.range (nm_sz (q.2 - 1))).all (fun k => decide (nm_sd (q.2 - 1) k < 2) || decide (q.1 + (nm_sd (q.2 - 1) k - 2) ≠ n) || decide (q.1 = o)))
/-- a child name of an object, bound to a new array -/
theorem nm_E_reb {Y : nm_Y} {nl : List Nat} {ad : Nat → Nat} {C C' : nm_M} {n o r : Nat} (hL : cl_L nl C.2.2.2) (hK : C'.2.2.2 = C.2.2.2) (h1 : ∀ x, x ≠ n → C'.1 x = C.1 x) (h2 : ∀ x, x ≠ n → C'.2.1 x = C.2.1 x) (h3 : ∀ x, x ≠ n → C'.2.2.1 x = C.2.2.1 x) (hown : cl_own n o = true) (hnd : n ∈ cl_dy) :
    ∀ x, x ∈ nl → x ≠ n → x ≠ o → nm_E Y (va_up ad n r) C' x = nm_E Y ad C x := by
  intro x hx hxn hxo
  have hfs : C.2.2.2 x < 20 → nm_fs (va_up ad n r) C' x (C.2.2.2 x - 1) = nm_fs ad C x (C.2.2.2 x - 1) := by
    intro hlt
    unfold nm_fs
    apply List.map_congr_left
    intro k hk
    have hk' : k < nm_sz (C.2.2.2 x - 1) := List.mem_range.mp hk
    generalize hd : nm_sd (C.2.2.2 x - 1) k = d
    match d, hd with
    | 0, _ => simp [nm_fv, h1 x hxn]
    | 1, _ => simp [nm_fv, h2 x hxn]
    | d + 2, hd =>
      show Value.ref (va_up ad n r (x + d)) = Value.ref (ad (x + d))
      rw [va_up_ne]
      intro e
      rcases hL.2.1 x hx with hs | ⟨-, hs⟩
      · obtain ⟨q, hq, hqx⟩ := List.mem_map.mp hs
        have hq2 := (hL.1 q hq).2
        have ho := List.all_eq_true.mp hown q hq
        rw [hqx] at hq2
        rw [hq2] at hlt hk' hd
        simp only [Bool.or_eq_true, decide_eq_true_eq] at ho
        rcases ho with ho | ho
        · omega
        · have ho2 := List.all_eq_true.mp ho k (List.mem_range.mpr hk')
          simp only [Bool.or_eq_true, decide_eq_true_eq, hd, hqx] at ho2
          rcases ho2 with (ho2 | ho2) | ho2
          · omega
          · exact ho2 (by omega)
          · exact hxo ho2
      · have f5 : ∀ k, k < nm_sz 4 → nm_sd 4 k < 2 := by decide
        have f6 : ∀ k, k < nm_sz 5 → nm_sd 5 k < 2 := by decide
        have f7 : ∀ k, k < nm_sz 6 → nm_sd 6 k < 2 := by decide
        rcases hs with hs | hs | hs
        · rw [hs] at hd hk'
          have h9 := f5 k hk'
          have h8 : nm_sd 4 k = d + 2 := hd
          omega
        · rw [hs] at hd hk'
          have h9 := f6 k hk'
          have h8 : nm_sd 5 k = d + 2 := hd
          omega
        · rw [hs] at hd hk'
          have h9 := f7 k hk'
          have h8 : nm_sd 6 k = d + 2 := hd
          omega
  unfold nm_E
  rw [hK, h1 x hxn, h2 x hxn, h3 x hxn]
  by_cases hlt : C.2.2.2 x < 20
  · rw [if_pos hlt, if_pos hlt, hfs hlt]
  · rw [if_neg hlt, if_neg hlt]
    have hc23 : C.2.2.2 x = 23 → x = 1 := by
      intro h
      rcases hL.2.1 x hx with hs | ⟨-, hs⟩
      · obtain ⟨q, hq, hqx⟩ := List.mem_map.mp hs
        have hq2 := (hL.1 q hq).2
        rw [hqx, h] at hq2
        rw [← hqx]
        revert hq2
        revert hq
        clear hqx
        revert q
        decide
      · rcases hs with hs | hs | hs <;> omega
    have hc24 : ¬ C.2.2.2 x = 23 → ∀ k, k < 16 → C.2.2.2 x = 24 → x + 9 + k ≠ n := by
      intro _ k hk h e
      rcases hL.2.1 x hx with hs | ⟨-, hs⟩
      · obtain ⟨q, hq, hqx⟩ := List.mem_map.mp hs
        have hq2 := (hL.1 q hq).2
        rw [hqx, h] at hq2
        have hfin : ∀ q ∈ cl_st, 24 = q.2 → ∀ k, k < 16 → q.1 + 9 + k ∉ cl_dy := by decide
        exact hfin q hq hq2 k hk (by rw [hqx, e]; exact hnd)
      · rcases hs with hs | hs | hs <;> omega
    by_cases k20 : C.2.2.2 x = 20
    · rw [if_pos k20, if_pos k20]
    · rw [if_neg k20, if_neg k20]
      by_cases k21 : C.2.2.2 x = 21
      · rw [if_pos k21, if_pos k21]
      · rw [if_neg k21, if_neg k21]
        by_cases k22 : C.2.2.2 x = 22
        · rw [if_pos k22, if_pos k22]
        · rw [if_neg k22, if_neg k22]
          by_cases k23 : C.2.2.2 x = 23
          · rw [if_pos k23, if_pos k23]
            have hx1 := hc23 k23
            subst hx1
            have hfun : (fun k => if k < 8 then some (va_up ad n r (1 + 999 + 100 * k)) else none) = (fun k => if k < 8 then some (ad (1 + 999 + 100 * k)) else none) := by
              funext k
              by_cases hk : k < 8
              · rw [if_pos hk, if_pos hk, va_up_ne]
                intro e
                have hfin : ∀ k, k < 8 → 1 + 999 + 100 * k ∉ cl_dy := by decide
                exact hfin k hk (by rw [e]; exact hnd)
              · rw [if_neg hk, if_neg hk]
            rw [hfun]
          · rw [if_neg k23, if_neg k23]
            have k24 : C.2.2.2 x = 24 := by
              rcases hL.2.1 x hx with hs | ⟨-, hs⟩
              · obtain ⟨q, hq, hqx⟩ := List.mem_map.mp hs
                have hq2 := (hL.1 q hq).2
                rw [hqx] at hq2
                have hfin : ∀ q ∈ cl_st, q.2 < 20 ∨ q.2 = 20 ∨ q.2 = 21 ∨ q.2 = 22 ∨ q.2 = 23 ∨ q.2 = 24 := by decide
                rcases hfin q hq with h | h | h | h | h | h <;> omega
              · rcases hs with hs | hs | hs <;> omega
            have hfun : (fun k => if k < 16 ∧ C.2.2.2 (x + 9 + k) ≠ 0 then some (va_up ad n r (x + 9 + k)) else none) = (fun k => if k < 16 ∧ C.2.2.2 (x + 9 + k) ≠ 0 then some (ad (x + 9 + k)) else none) := by
              funext k
              by_cases hk : k < 16 ∧ C.2.2.2 (x + 9 + k) ≠ 0
              · rw [if_pos hk, if_pos hk, va_up_ne _ _ (hc24 k23 k hk.1 k24)]
              · rw [if_neg hk, if_neg hk]
            rw [hfun]

theorem tw_aI : Cond.arrayClass .int ∈ nm_T := nm_tb 79 (by decide +kernel) (by decide +kernel)
theorem tw_aJ : Cond.arrayClass .long ∈ nm_T := nm_tb 78 (by decide +kernel) (by decide +kernel)
theorem tw_gmx : Cond.methodLink RX0 34 Lib.Math.max.name ∈ nm_T := nm_tb 618 (by decide +kernel) (by decide +kernel)
theorem tw_grC : Cond.code yX0_grown cX0_grown 2 (some (.array .int)) ∈ nm_T := nm_tb 617 (by decide +kernel) (by decide +kernel)
theorem tw_grS : Cond.static yX0_grown ∈ nm_T := nm_tb 616 (by decide +kernel) (by decide +kernel)
theorem tw_grI : Cond.initialized yX0_grown.cls ∈ nm_T := nm_tb 13 (by decide +kernel) (by decide +kernel)
theorem hd_grown : nm_hd yX0_grown 2 := by decide +kernel
def cl_dist (ci k : Nat) : Bool := (List.range (nm_sz ci)).all (fun j => decide (j = k) || decide (nm_sd ci j < 2) || decide (nm_sd ci j ≠ nm_sd ci k))
theorem nm_fs_reb {ad : Nat → Nat} {C C' : nm_M} {o n r ci k d : Nat} (hn : n = o + d) (hno : n ≠ o) (hsd : nm_sd ci k = d + 2) (hk : k < nm_sz ci) (hdist : cl_dist ci k = true) (h1 : C'.1 o = C.1 o) (h2 : C'.2.1 o = C.2.1 o) : nm_fs (va_up ad n r) C' o ci = (nm_fs ad C o ci).set k (.ref r) := by
  apply List.ext_getElem?
  intro i
  rw [List.getElem?_set]
  by_cases hi : i < nm_sz ci
  · rw [nm_fs_get hi]
    by_cases hik : k = i
    · subst hik
      rw [if_pos rfl, if_pos (by rw [nm_fs_len]; exact hi), hsd]
      show some (Value.ref (va_up ad n r (o + d))) = _
      rw [← hn, va_up_self]
    · rw [if_neg hik, nm_fs_get hi]
      congr 1
      have hj := List.all_eq_true.mp hdist i (List.mem_range.mpr hi)
      simp only [Bool.or_eq_true, decide_eq_true_eq] at hj
      generalize hd2 : nm_sd ci i = d2 at hj
      match d2, hd2 with
      | 0, _ => simp [nm_fv, h1]
      | 1, _ => simp [nm_fv, h2]
      | d2 + 2, _ =>
        show Value.ref (va_up ad n r (o + d2)) = Value.ref (ad (o + d2))
        rw [va_up_ne]
        rcases hj with (hj | hj) | hj <;> omega
  · rw [List.getElem?_eq_none (by rw [nm_fs_len]; omega)]
    split
    · omega
    · rw [List.getElem?_eq_none (by rw [nm_fs_len]; omega)]
theorem cl_sameI {D : va_G} {Y : nm_Y} {s : State} {cA : ClassId} (hK : nm_K D Y s) (hK2 : va_K D vwCl (nm_ty Y ++ [(cA, .int)]) s) : cA = Y.1 := by
  have h1 : s.vm.findClass ("[" ++ FieldType.int.toString) = some cA := (hK2.2 5 (cA, .int) rfl).2
  have h2 : s.vm.findClass ("[" ++ FieldType.int.toString) = some Y.1 := (hK.2 0 (Y.1, .int) rfl).2
  exact Option.some.inj (h1.symm.trans h2)
theorem cl_sameJ {D : va_G} {Y : nm_Y} {s : State} {cA : ClassId} (hK : nm_K D Y s) (hK2 : va_K D vwCl (nm_ty Y ++ [(cA, .long)]) s) : cA = Y.2.1 := by
  have h1 : s.vm.findClass ("[" ++ FieldType.long.toString) = some cA := (hK2.2 5 (cA, .long) rfl).2
  have h2 : s.vm.findClass ("[" ++ FieldType.long.toString) = some Y.2.1 := (hK.2 1 (Y.2.1, .long) rfl).2
  exact Option.some.inj (h1.symm.trans h2)
section AL
variable {p : Program} {l : Launch} {e : Env} {R : Room} {s : State} {m : MethodId} {args : Array Value} {below : List Frame} {meth : Method} {c : Code} {H : Heap} {locs : List Loc} {cells slots : Nat} {Q : State → Prop}
variable {cc : ByteArray} {pc : Nat} {ls : Array Slot} {rest : List Value} {A : Nat → Prop} {H0 : Heap}
variable {D : va_G} {Y : nm_Y} {X : va_W} {nl : List Nat} {ad : Nat → Nat} {C C' : nm_M}
theorem nm_putR (hx : p.tables.exec = Jvm.exec) (hb : c.code = cc) {own ref CC : String} {T : u_T} {N ci index : Nat} (hts : ∀ w ∈ nm_T, w.before args s = true) (hin : ∀ w ∈ u_ws CC T N, w ∈ nm_T) (ty0 : Nat → FieldType) (hty : ∀ k, k < N → parseFieldDescriptor (T k).2.2.1 = some (ty0 k)) (hnm : ∀ a, a < N → ∀ b, b < N → a ≠ b → (T a).2.1 ≠ (T b).2.1) (hown : s.vm.findClass own = some m.cls) (hK : nm_K D Y s) {r : Nat} {e' : va_E} (hP1 : va_P D vwCl (nm_W Y X nl ad C ++ [(r, e')]) H) (hD1 : va_D A (nm_W Y X nl ad C ++ [(r, e')])) (hS1 : va_S A H0 H locs) {o n d : Nat} (ho : o ∈ nl) (hk : C.2.2.2 o = ci + 1) (hc9 : ci < 19) (hc : vwCl[ci]? = some (CC, T, N)) (k : Nat) (hkN : k < N) (hsz : nm_sz ci = N) (hsd : nm_sd ci k = d + 2) (hn : n = o + d) (hno : n ≠ o) (hdist : cl_dist ci k = true) (hlink : (Cond.fieldLink own index ref (T k).2.1 (T k).2.2.1).before args s = true) (hsame : ∀ x, s.fieldFound? (T k).1 (T k).2.1 (T k).2.2.1 = some x → s.fieldFound? ref (T k).2.1 (T k).2.2.1 = some x) (hfin : (T k).2.2.2 = false) {ty : FieldType} (hd : parseFieldDescriptor (T k).2.2.1 = some ty) (hnr : narrow ty (.ref r) = .ref r) (hfit : fits ty (.ref r) = true) (hdg : decode cc pc = .ok (.putfield index, 3))
    (hL : cl_L nl C.2.2.2) (hK2 : C'.2.2.2 = C.2.2.2) (h1 : ∀ x, x ≠ n → C'.1 x = C.1 x) (h2 : ∀ x, x ≠ n → C'.2.1 x = C.2.1 x) (h3 : ∀ x, x ≠ n → C'.2.2.1 x = C.2.2.1 x) (hownn : cl_own n o = true) (hnd : n ∈ cl_dy) (hEn : nm_E Y (va_up ad n r) C' n = e')
    (kk : ∀ (H : Heap) (locs : List Loc), nm_H D Y A H0 X nl (va_up ad n r) C' H locs → W p l e R s m args below meth c H locs cells slots Q (F0 m (pc + 3) ls rest)) : W p l e R s m args below meth c H locs cells slots Q (F0 m pc ls (.ref r :: .ref (ad o) :: rest)) := by
  obtain ⟨q0, hq⟩ := nm_wget (X := X) (ad := ad) (E := nm_E Y ad C) ho
  have hq2 := hq
  rw [nm_E_obj hk hc9] at hq
  have hql : q0 < (X ++ nm_w nl ad (nm_E Y ad C)).length := (List.getElem?_eq_some_iff.mp hq).1
  have hq3 : (nm_W Y X nl ad C ++ [(r, e')])[q0]? = some (ad o, .inr (ci, nm_fs ad C o ci)) := by
    rw [List.getElem?_append_left (show q0 < (nm_W Y X nl ad C).length from hql)]
    exact hq
  refine va_put hx hb hts hin ty0 hty hnm hown hK hP1 hD1 hS1 q0 hq3 hc k hkN hlink hsame hfin hd hnr hfit (by rw [nm_fs_len]; omega) hdg (fun H1 locs1 hP2 hD2 hS2 => kk H1 locs1 ?_)
  have hEo : nm_E Y (va_up ad n r) C' o = .inr (ci, (nm_fs ad C o ci).set k (.ref r)) := by
    rw [nm_E_obj (C := C') (by rw [hK2]; exact hk) hc9, nm_fs_reb hn hno hsd (by omega) hdist (h1 o (fun e => hno e.symm)) (h2 o (fun e => hno e.symm))]
  obtain ⟨g1, g2⟩ := nm_reb (E' := nm_E Y (va_up ad n r) C') hP2 hD2 hq2 ho hno (nm_E_reb hL hK2 h1 h2 h3 hownn hnd) hEo hEn
  exact ⟨g1, g2, hS2⟩
end AL
/-! Bits.grown -/
theorem cl_noneg {x : Int32} (h : 0 ≤ x.toInt) : ¬ x < 0 := fun h2 => by
  have := Int32.lt_iff_toInt_lt.mp h2
  simp at this
  omega
theorem cl_clampI {x : Int32} (h : 0 ≤ x.toInt) : (x.toNatClampNeg : Int) = x.toInt := by
  show ((x.toInt.toNat : Nat) : Int) = x.toInt
  omega
set_option maxHeartbeats 4000000 in
theorem k_grownA {l : Launch} {D : va_G} {Y : nm_Y} {s0 : Nat} {X : va_W} {nl : List Nat} {ad : Nat → Nat} {C : nm_M} {n : Nat} {need : Int32} (hn : n ∈ nl) (hk : C.2.2.2 n = 20) (hlt : ¬ nI (C.2.2.1 n) < need) :
    nm_Met l yX0_grown cX0_grown 2 (some (.array .int)) { frames := 1, cells := 0, slots := 0, locals := 21 } [.ref (ad n), .int need] D Y s0 (nm_W Y X nl ad C) (va_Qr (fun (_ : Unit) => True) (fun _ a t => a = ad n ∧ nm_R D s0 (nm_W Y X nl ad C) t) (fun q => s0 ≤ q)) 0 0 := by
  refine nm_of (by decide) (Nat.le_of_ble_eq_true rfl) ?_
  intro p e R s m args below meth c Q ls hx hb hr hlocks hml hown hts hs0 hK hZ hRf hRl hRc hRs hQ hP hD hl
  have hH : nm_H D Y (fun q => s0 ≤ q) s.heap X nl ad C s.heap [] := ⟨hP, hD, va_S.rf⟩
  have hl : lv_has ls 2 [(0, .ref (ad n)), (1, .int need)] := hl
  refine lv_aload_n hx hb dX0_grown_0 rfl (lv_at hl 0 rfl) ?_
  refine nm_alen hx hb hK hH hn (Or.inl hk) rfl dX0_grown_1 ?_
  refine lv_iload_n hx hb dX0_grown_2 rfl (lv_at hl 1 rfl) ?_
  refine lv_icmp_lt (tgt := 10) hx hb dX0_grown_3 (by decide) (fun h => absurd h hlt) (fun h => ?_)
  refine lv_aload_n hx hb dX0_grown_6 rfl (lv_at hl 0 rfl) ?_
  refine lv_goto (tgt := 20) hx hb dX0_grown_7 (by decide) ?_
  subst hQ
  exact W.aret (v := .ref (ad n)) hx hb hr (Or.inr ⟨_, rfl⟩) (Or.inr ⟨_, rfl⟩) (fun t ht hW => ⟨⟨(), ad n, rfl, trivial, rfl, by rw [ht]; exact hH.1, hH.2.1⟩, hH.2.2.F ht⟩) hH.2.2.2.2 dX0_grown_20 hlocks
set_option maxHeartbeats 4000000 in
theorem k_grownB {l : Launch} {D : va_G} {Y : nm_Y} {s0 : Nat} {X : va_W} {nl : List Nat} {ad : Nat → Nat} {C : nm_M} {n L : Nat} {need : Int32} (hn : n ∈ nl) (hk : C.2.2.2 n = 20) (hlt : nI (C.2.2.1 n) < need) (h0 : 0 ≤ (cl_gl C.2.2.1 n need).toInt ∧ (cl_gl C.2.2.1 n need).toInt ≤ 134217728) (hL : (cl_gl C.2.2.1 n need).toNatClampNeg = L) :
    nm_Met l yX0_grown cX0_grown 2 (some (.array .int)) { frames := 1, cells := 1, slots := L, locals := 21 } [.ref (ad n), .int need] D Y s0 (nm_W Y X nl ad C) (va_Qr (fun (_ : Unit) => True) (fun _ a t => nm_R D s0 (nm_W Y X nl ad C ++ [(a, .inl (Y.1, L, .inl (fun _ => 0)))]) t) (fun q => s0 ≤ q)) 1 L := by
  refine nm_of (by decide) (Nat.le_of_ble_eq_true rfl) ?_
  intro p e R s m args below meth c Q ls hx hb hr hlocks hml hown hts hs0 hK hZ hRf hRl hRc hRs hQ hP hD hl
  have hH : nm_H D Y (fun q => s0 ≤ q) s.heap X nl ad C s.heap [] := ⟨hP, hD, va_S.rf⟩
  have hl : lv_has ls 2 [(0, .ref (ad n)), (1, .int need)] := hl
  refine lv_aload_n hx hb dX0_grown_0 rfl (lv_at hl 0 rfl) ?_
  refine nm_alen hx hb hK hH hn (Or.inl hk) rfl dX0_grown_1 ?_
  refine lv_iload_n hx hb dX0_grown_2 rfl (lv_at hl 1 rfl) ?_
  refine lv_icmp_lt (tgt := 10) hx hb dX0_grown_3 (by decide) (fun h => ?_) (fun h => absurd hlt h)
  refine lv_iload_n hx hb dX0_grown_10 rfl (lv_at hl 1 rfl) ?_
  refine lv_iconst (v := 2) hx hb dX0_grown_11 (by decide) ?_
  refine lv_aload_n hx hb dX0_grown_12 rfl (lv_at hl 0 rfl) ?_
  refine nm_alen hx hb hK hH hn (Or.inl hk) rfl dX0_grown_13 ?_
  refine lv_imul hx hb dX0_grown_14 ?_
  refine nm_mmax hx hb (hml.trans hl.1.symm) hown hts tw_gmx (Nat.le_trans (Nat.le_of_ble_eq_true rfl) hRf) (Nat.le_trans (Nat.le_of_ble_eq_true rfl) hRl) (Nat.zero_le _) (Nat.zero_le _) dX0_grown_15 ?_
  have hLi := cl_clampI h0.1
  refine va_newa (atype := .int) hx hb (hts _ tw_aI) rfl hK hH.1 hH.2.1 hH.2.2 (fun q h => Nat.le_trans hs0 h) (a0 := (L, .inl (fun _ => 0))) (fun cA => rfl) (n := cl_gl C.2.2.1 n need) (cl_noneg h0.1) hL (by show L * 4 ≤ 536870912; omega) (by rw [hRc]; omega) (by rw [hRs]; omega) dX0_grown_18 (fun q cA H1 hK2 hP2 hD2 hS2 => ?_)
  have e1 := cl_sameI hK hK2
  subst e1
  refine W.widen (k := 1) (n := L) (by omega) (by omega) ?_
  subst hQ
  exact W.aret (v := .ref q) hx hb hr (Or.inr ⟨_, rfl⟩) (Or.inr ⟨_, rfl⟩) (fun t ht hW => ⟨⟨(), q, rfl, trivial, by rw [ht]; exact hP2, hD2⟩, hS2.F ht⟩) hS2.2.2 dX0_grown_20 hlocks

/-! contracts of methods that make arrays -/
abbrev nm_QvA (D : va_G) (Y : nm_Y) (s0 : Nat) (X : va_W) (nl : List Nat) (ad : Nat → Nat) (C : nm_M) : Array Value → State → Outcome → State → Prop := va_Qv (fun (u : Nat → Nat) => cl_a ad u ∧ cl_N C.2.2.1) (fun u t => nm_R D s0 (nm_W Y X nl u C) t) (fun q => s0 ≤ q)
abbrev nm_QiA (D : va_G) (Y : nm_Y) (s0 : Nat) (X : va_W) (nl : List Nat) (ad : Nat → Nat) (r0 : Int32) (C : nm_M) : Array Value → State → Outcome → State → Prop := va_Qi (fun r (u : Nat → Nat) => r = r0 ∧ cl_a ad u ∧ cl_N C.2.2.1) (fun u t => nm_R D s0 (nm_W Y X nl u C) t) (fun q => s0 ≤ q)
abbrev nm_QrA (D : va_G) (Y : nm_Y) (s0 : Nat) (X : va_W) (nl : List Nat) (ad : Nat → Nat) (C : nm_M) : Array Value → State → Outcome → State → Prop := va_Qr (fun (u : Nat → Nat) => cl_a ad u ∧ cl_N C.2.2.1) (fun u a t => a = u 110 ∧ nm_R D s0 (nm_W Y X nl u C) t) (fun q => s0 ≤ q)
section AR
variable {p : Program} {l : Launch} {e : Env} {R : Room} {s : State} {m : MethodId} {args : Array Value} {below : List Frame} {meth : Method} {c : Code} {H : Heap} {locs : List Loc} {cells slots : Nat} {Q : State → Prop}
variable {cc : ByteArray} {pc : Nat} {ls : Array Slot} {rest : List Value}
variable {D : va_G} {Y : nm_Y} {X : va_W} {nl : List Nat} {ad ad0 : Nat → Nat} {C C' : nm_M} {s0 mc ms : Nat} {K : Nat → Nat} {S S' M0 : ca}
theorem nm_vretA {dc ds : Nat} (hx : p.tables.exec = Jvm.exec) (hb : c.code = cc) (hr : meth.sig.returnType = none) (hlocks : meth.locks = false) (hQ : Q = MQ below (nm_QvA D Y s0 X nl ad0 (M0.1.1, M0.1.2, M0.2, K)) args s mc ms (fun q => s0 ≤ q)) (hRc : R.cells = mc) (hRs : R.slots = ms) (hC : cells + dc ≤ R.cells ∧ slots + ds ≤ R.slots) (hN : cl_N S.2) (hAd : cl_a ad0 ad) (hH : nm_H D Y (fun q => s0 ≤ q) s.heap X nl ad (S.1.1, S.1.2, S.2, K) H locs) (hf : some (S, 0, 0) = some (M0, dc, ds)) (hdg : decode cc pc = .ok (.return_, 1)) :
    W p l e R s m args below meth c H locs cells slots Q (F0 m pc ls []) := by
  cases hf
  subst hQ
  refine W.widen (k := mc) (n := ms) (by omega) (by omega) ?_
  exact W.vret hx hb hr (fun t ht hW => ⟨⟨ad, rfl, ⟨hAd, hN⟩, by rw [ht]; exact hH.1, hH.2.1⟩, hH.2.2.F ht⟩) hH.2.2.2.2 hdg hlocks
theorem nm_iretA {dc ds : Nat} {v r0 : Int32} (hx : p.tables.exec = Jvm.exec) (hb : c.code = cc) (hr : meth.sig.returnType = some .int) (hlocks : meth.locks = false) (hQ : Q = MQ below (nm_QiA D Y s0 X nl ad0 r0 (M0.1.1, M0.1.2, M0.2, K)) args s mc ms (fun q => s0 ≤ q)) (hRc : R.cells = mc) (hRs : R.slots = ms) (hC : cells + dc ≤ R.cells ∧ slots + ds ≤ R.slots) (hN : cl_N S.2) (hAd : cl_a ad0 ad) (hH : nm_H D Y (fun q => s0 ≤ q) s.heap X nl ad (S.1.1, S.1.2, S.2, K) H locs) (hf : some ((v, S), 0, 0) = some ((r0, M0), dc, ds)) (hdg : decode cc pc = .ok (.ireturn, 1)) :
    W p l e R s m args below meth c H locs cells slots Q (F0 m pc ls [.int v]) := by
  cases hf
  subst hQ
  refine W.widen (k := mc) (n := ms) (by omega) (by omega) ?_
  exact W.iret hx hb hr (fun t ht hW => ⟨⟨v, ad, rfl, ⟨rfl, hAd, hN⟩, by rw [ht]; exact hH.1, hH.2.1⟩, hH.2.2.F ht⟩) hH.2.2.2.2 hdg hlocks
theorem nm_aretA {dc ds : Nat} (hx : p.tables.exec = Jvm.exec) (hb : c.code = cc) (hr : meth.sig.returnType = some (.object "RulePlate$Groups")) (hlocks : meth.locks = false) (hQ : Q = MQ below (nm_QrA D Y s0 X nl ad0 (M0.1.1, M0.1.2, M0.2, K)) args s mc ms (fun q => s0 ≤ q)) (hRc : R.cells = mc) (hRs : R.slots = ms) (hC : cells + dc ≤ R.cells ∧ slots + ds ≤ R.slots) (hN : cl_N S.2) (hAd : cl_a ad0 ad) (hH : nm_H D Y (fun q => s0 ≤ q) s.heap X nl ad (S.1.1, S.1.2, S.2, K) H locs) (hf : some (S, 0, 0) = some (M0, dc, ds)) (hdg : decode cc pc = .ok (.areturn, 1)) :
    W p l e R s m args below meth c H locs cells slots Q (F0 m pc ls [.ref (ad 110)]) := by
  cases hf
  subst hQ
  refine W.widen (k := mc) (n := ms) (by omega) (by omega) ?_
  exact W.aret (v := .ref (ad 110)) hx hb hr (Or.inl ⟨_, rfl⟩) (Or.inr ⟨_, rfl⟩) (fun t ht hW => ⟨⟨ad, ad 110, rfl, ⟨hAd, hN⟩, rfl, by rw [ht]; exact hH.1, hH.2.1⟩, hH.2.2.F ht⟩) hH.2.2.2.2 hdg hlocks
theorem nm_callvA {st : List Value} {a : Array Value} (hrun : va_Run p l e R s m args below meth c H locs cells slots mc ms (F0 m pc ls st) rest (nm_QvA D Y s0 X nl ad C' a) (fun q => s0 ≤ q)) (hH : nm_H D Y (fun q => s0 ≤ q) s.heap X nl ad C H locs)
    (kk : ∀ (u : Nat → Nat), cl_a ad u → ∀ (H : Heap) (locs : List Loc) (k n : Nat), k = cells + mc → n = slots + ms → cl_N C'.2.2.1 → nm_H D Y (fun q => s0 ≤ q) s.heap X nl u C' H locs → W p l e R s m args below meth c H locs k n Q (F0 m (pc + 3) ls rest)) : W p l e R s m args below meth c H locs cells slots Q (F0 m pc ls st) := by
  refine va_callv hrun hH.2.2 (fun q _ h => h) (fun q h => h) (fun u t H1 locs1 ht hvm hp hB hz1 hk1 hS1 => ?_)
  have hB2 : nm_R D s0 (nm_W Y X nl u C') t := hB
  exact kk u hp.1 H1 locs1 _ _ rfl rfl hp.2 ⟨by rw [← ht]; exact hB2.1, hB2.2, hS1⟩
theorem nm_calliA {r0 : Int32} {st : List Value} {a : Array Value} (hrun : va_Run p l e R s m args below meth c H locs cells slots mc ms (F0 m pc ls st) rest (nm_QiA D Y s0 X nl ad r0 C' a) (fun q => s0 ≤ q)) (hH : nm_H D Y (fun q => s0 ≤ q) s.heap X nl ad C H locs)
    (kk : ∀ (u : Nat → Nat), cl_a ad u → ∀ (H : Heap) (locs : List Loc) (k n : Nat), k = cells + mc → n = slots + ms → cl_N C'.2.2.1 → nm_H D Y (fun q => s0 ≤ q) s.heap X nl u C' H locs → W p l e R s m args below meth c H locs k n Q (F0 m (pc + 3) ls (.int r0 :: rest))) : W p l e R s m args below meth c H locs cells slots Q (F0 m pc ls st) := by
  refine va_calli hrun hH.2.2 (fun q _ h => h) (fun q h => h) (fun r u t H1 locs1 ht hvm hp hB hz1 hk1 hS1 => ?_)
  obtain ⟨rfl, hp1, hp2⟩ := hp
  have hB2 : nm_R D s0 (nm_W Y X nl u C') t := hB
  exact kk u hp1 H1 locs1 _ _ rfl rfl hp2 ⟨by rw [← ht]; exact hB2.1, hB2.2, hS1⟩
theorem nm_callrA {st : List Value} {a : Array Value} (hrun : va_Run p l e R s m args below meth c H locs cells slots mc ms (F0 m pc ls st) rest (nm_QrA D Y s0 X nl ad C' a) (fun q => s0 ≤ q)) (hH : nm_H D Y (fun q => s0 ≤ q) s.heap X nl ad C H locs)
    (kk : ∀ (u : Nat → Nat), cl_a ad u → ∀ (H : Heap) (locs : List Loc) (k n : Nat), k = cells + mc → n = slots + ms → cl_N C'.2.2.1 → nm_H D Y (fun q => s0 ≤ q) s.heap X nl u C' H locs → W p l e R s m args below meth c H locs k n Q (F0 m (pc + 3) ls (.ref (u 110) :: rest))) : W p l e R s m args below meth c H locs cells slots Q (F0 m pc ls st) := by
  refine va_callr hrun hH.2.2 (fun q _ h => h) (fun q h => h) (fun u ra t H1 locs1 ht hvm hp hB hz1 hk1 hS1 => ?_)
  obtain ⟨hra, hB2⟩ : ra = u 110 ∧ nm_R D s0 (nm_W Y X nl u C') t := hB
  subst hra
  exact kk u hp.1 H1 locs1 _ _ rfl rfl hp.2 ⟨by rw [← ht]; exact hB2.1, hB2.2, hS1⟩
/-- a reference field that takes what it held -/
theorem nm_putSame (hx : p.tables.exec = Jvm.exec) (hb : c.code = cc) {own ref CC : String} {T : u_T} {N ci index : Nat} (hts : ∀ w ∈ nm_T, w.before args s = true) (hin : ∀ w ∈ u_ws CC T N, w ∈ nm_T) (ty0 : Nat → FieldType) (hty : ∀ k, k < N → parseFieldDescriptor (T k).2.2.1 = some (ty0 k)) (hnm : ∀ a, a < N → ∀ b, b < N → a ≠ b → (T a).2.1 ≠ (T b).2.1) (hown : s.vm.findClass own = some m.cls) (hK : nm_K D Y s) (hH : nm_H D Y (fun q => s0 ≤ q) s.heap X nl ad C H locs) {o n d : Nat} (ho : o ∈ nl) (hk : C.2.2.2 o = ci + 1) (hc9 : ci < 19) (hc : vwCl[ci]? = some (CC, T, N)) (k : Nat) (hkN : k < N) (hsz : nm_sz ci = N) (hsd : nm_sd ci k = d + 2) (hn : n = o + d) (hlink : (Cond.fieldLink own index ref (T k).2.1 (T k).2.2.1).before args s = true) (hsame : ∀ x, s.fieldFound? (T k).1 (T k).2.1 (T k).2.2.1 = some x → s.fieldFound? ref (T k).2.1 (T k).2.2.1 = some x) (hfin : (T k).2.2.2 = false) {ty : FieldType} (hd : parseFieldDescriptor (T k).2.2.1 = some ty) (hnr : narrow ty (.ref (ad n)) = .ref (ad n)) (hfit : fits ty (.ref (ad n)) = true) (hdg : decode cc pc = .ok (.putfield index, 3))
    (kk : ∀ (H : Heap) (locs : List Loc), nm_H D Y (fun q => s0 ≤ q) s.heap X nl ad C H locs → W p l e R s m args below meth c H locs cells slots Q (F0 m (pc + 3) ls rest)) : W p l e R s m args below meth c H locs cells slots Q (F0 m pc ls (.ref (ad n) :: .ref (ad o) :: rest)) := by
  obtain ⟨q0, hq⟩ := nm_wget (X := X) (ad := ad) (E := nm_E Y ad C) ho
  have hq2 := hq
  rw [nm_E_obj hk hc9] at hq
  refine va_put hx hb hts hin ty0 hty hnm hown hK hH.1 hH.2.1 hH.2.2 q0 hq hc k hkN hlink hsame hfin hd hnr hfit (by rw [nm_fs_len]; omega) hdg (fun H1 locs1 hP1 hD1 hS1 => kk H1 locs1 ?_)
  refine nm_step hH ho hq2 rfl (fun n' h => ⟨rfl, rfl⟩) ?_ hP1 hD1 hS1
  rw [nm_E_obj hk hc9]
  congr 2
  refine (nm_fs_set (by omega) ?_ (fun j hj => rfl)).symm
  rw [hsd, hn]
  rfl
set_option maxHeartbeats 4000000 in
theorem nm_growG {c1 s1 : Nat} (hx : p.tables.exec = Jvm.exec) (hb : c.code = cc) {nL : Nat} (hml : c.maxLocals = nL) (hL : cl_L nl K) {own ref CC : String} {T : u_T} {N ci index indexP : Nat} (hin : ∀ w ∈ u_ws CC T N, w ∈ nm_T) (ty0 : Nat → FieldType) (hty : ∀ k, k < N → parseFieldDescriptor (T k).2.2.1 = some (ty0 k)) (hnm : ∀ a, a < N → ∀ b, b < N → a ≠ b → (T a).2.1 ≠ (T b).2.1) (hown : s.vm.findClass own = some m.cls) (hts : ∀ w ∈ nm_T, w.before args s = true) (hs0 : s0 ≤ s.heap.size) (hK : nm_K D Y s) (hZ : nm_Z s) (hH : nm_H D Y (fun q => s0 ≤ q) s.heap X nl ad (S.1.1, S.1.2, S.2, K) H locs) (hN : cl_N S.2) {o n d : Nat} (ho : o ∈ nl) (hk : K o = ci + 1) (hno2 : n ∈ nl) (hkn : K n = 20) (hc9 : ci < 19) (hc : vwCl[ci]? = some (CC, T, N)) (k : Nat) (hkN : k < N) (hsz : nm_sz ci = N) (hsd : nm_sd ci k = d + 2) (hn : n = o + d) (hno : n ≠ o) (hdist : cl_dist ci k = true) (hownn : cl_own n o = true) (hnd : n ∈ cl_dy) (hfin : (T k).2.2.2 = false) (hd : parseFieldDescriptor (T k).2.2.1 = some (.array .int))
    (hlk : Cond.methodLink own index yX0_grown ∈ nm_T) (hlink : (Cond.fieldLink own indexP ref (T k).2.1 (T k).2.2.1).before args s = true) (hsame : ∀ x, s.fieldFound? (T k).1 (T k).2.1 (T k).2.2.1 = some x → s.fieldFound? ref (T k).2.1 (T k).2.2.1 = some x) {need : Int32} (hcg : cl_grow n need S = some (S', c1, s1)) (hfr : 2 ≤ R.frames) (hlo : 42 ≤ R.locals) (hsl : ls.size = nL) (hW8 : ((.ref (ad o) :: rest).map fun v => v.category).sum ≤ 8) (hdg : decode cc pc = .ok (.invokestatic index, 3)) (hdp : decode cc (pc + 3) = .ok (.putfield indexP, 3)) (hroom : cells + c1 ≤ R.cells ∧ slots + s1 ≤ R.slots)
    (kk : ∀ (u : Nat → Nat), cl_a ad u → ∀ (H : Heap) (locs : List Loc) (k n : Nat), k = cells + c1 → n = slots + s1 → cl_N S'.2 → nm_H D Y (fun q => s0 ≤ q) s.heap X nl u (S'.1.1, S'.1.2, S'.2, K) H locs → W p l e R s m args below meth c H locs k n Q (F0 m (pc + 6) ls rest)) : W p l e R s m args below meth c H locs cells slots Q (F0 m pc ls (.int need :: .ref (ad n) :: .ref (ad o) :: rest)) := by
  unfold cl_grow at hcg
  split at hcg
  · next hlt =>
    split at hcg
    · next h0 =>
      obtain ⟨eS, e1, e2⟩ : ((va_up S.1.1 n (fun _ => 0), S.1.2), va_up S.2 n (cl_gl S.2 n need).toNatClampNeg) = S' ∧ 1 = c1 ∧ (cl_gl S.2 n need).toNatClampNeg = s1 := by
        cases hcg
        exact ⟨rfl, rfl, rfl⟩
      subst eS
      subst e1
      subst e2
      have hrun := nm_runS (X := X) (nl := nl) (As := [.ref (ad n), .int need]) (rest := .ref (ad o) :: rest) (R := R) (cells := cells) (slots := slots) (below := below) (meth := meth) (e := e) (pc := pc) (k_grownB (l := l) (D := D) (Y := Y) (s0 := s0) (X := X) (C := (S.1.1, S.1.2, S.2, K)) hno2 hkn hlt h0 rfl) hx hb hml hown hts hs0 hK hZ hH tw_grC hlk tw_grS tw_grI hd_grown rfl rfl ⟨hfr, hlo⟩ rfl hsl rfl hW8 hdg hroom
      refine va_callr hrun hH.2.2 (fun q _ h => h) (fun q h => h) (fun u ra t H1 locs1 ht hvm hp hB hz1 hk1 hS1 => ?_)
      have hB2 : nm_R D s0 (nm_W Y X nl ad (S.1.1, S.1.2, S.2, K) ++ [(ra, .inl (Y.1, (cl_gl S.2 n need).toNatClampNeg, .inl (fun _ => 0)))]) t := hB
      refine nm_putR (C' := (va_up S.1.1 n (fun _ => 0), S.1.2, va_up S.2 n (cl_gl S.2 n need).toNatClampNeg, K)) (n := n) hx hb hts hin ty0 hty hnm hown hK (by rw [← ht]; exact hB2.1) hB2.2 hS1 ho hk hc9 hc k hkN hsz hsd hn hno hdist hlink hsame hfin hd rfl rfl hdp hL rfl (fun x h => va_up_ne _ _ h) (fun x h => rfl) (fun x h => va_up_ne _ _ h) hownn hnd ?_ (fun H locs hH => ?_)
      · rw [nm_E_I (C := (va_up S.1.1 n (fun _ => 0), S.1.2, va_up S.2 n (cl_gl S.2 n need).toNatClampNeg, K)) hkn]
        simp [va_up]
      · exact kk _ (fun x hx2 => va_up_ne _ _ (fun e => hx2 (e ▸ hnd))) H locs _ _ rfl rfl (cl_ndy hN hnd) hH
    · cases hcg
  · next hlt =>
    cases hcg
    have hrun := nm_runS (X := X) (nl := nl) (As := [.ref (ad n), .int need]) (rest := .ref (ad o) :: rest) (R := R) (cells := cells) (slots := slots) (below := below) (meth := meth) (e := e) (pc := pc) (k_grownA (l := l) (D := D) (Y := Y) (s0 := s0) (X := X) (C := (S.1.1, S.1.2, S.2, K)) hno2 hkn hlt) hx hb hml hown hts hs0 hK hZ hH tw_grC hlk tw_grS tw_grI hd_grown rfl rfl ⟨hfr, hlo⟩ rfl hsl rfl hW8 hdg hroom
    refine va_callr hrun hH.2.2 (fun q _ h => h) (fun q h => h) (fun u ra t H1 locs1 ht hvm hp hB hz1 hk1 hS1 => ?_)
    obtain ⟨hra, hB2⟩ : ra = ad n ∧ nm_R D s0 (nm_W Y X nl ad (S.1.1, S.1.2, S.2, K)) t := hB
    subst hra
    refine nm_putSame hx hb hts hin ty0 hty hnm hown hK (C := (S.1.1, S.1.2, S.2, K)) ⟨by rw [← ht]; exact hB2.1, hB2.2, hS1⟩ ho hk hc9 hc k hkN hsz hsd hn hlink hsame hfin hd rfl rfl hdp (fun H locs hH => ?_)
    exact kk ad cl_a.rf H locs _ _ rfl rfl hN hH
set_option maxHeartbeats 4000000 in
theorem nm_newG {c1 s1 L : Nat} (hx : p.tables.exec = Jvm.exec) (hb : c.code = cc) (hL : cl_L nl K) {own ref CC : String} {T : u_T} {N ci indexP : Nat} (hin : ∀ w ∈ u_ws CC T N, w ∈ nm_T) (ty0 : Nat → FieldType) (hty : ∀ k, k < N → parseFieldDescriptor (T k).2.2.1 = some (ty0 k)) (hnm : ∀ a, a < N → ∀ b, b < N → a ≠ b → (T a).2.1 ≠ (T b).2.1) (hown : s.vm.findClass own = some m.cls) (hts : ∀ w ∈ nm_T, w.before args s = true) (hs0 : s0 ≤ s.heap.size) (hK : nm_K D Y s) (hH : nm_H D Y (fun q => s0 ≤ q) s.heap X nl ad (S.1.1, S.1.2, S.2, K) H locs) (hN : cl_N S.2) {o n d : Nat} (ho : o ∈ nl) (hk : K o = ci + 1) (hc9 : ci < 19) (hc : vwCl[ci]? = some (CC, T, N)) (k : Nat) (hkN : k < N) (hsz : nm_sz ci = N) (hsd : nm_sd ci k = d + 2) (hn : n = o + d) (hno : n ≠ o) (hdist : cl_dist ci k = true) (hownn : cl_own n o = true) (hnd : n ∈ cl_dy) (hfin : (T k).2.2.2 = false)
    (hlink : (Cond.fieldLink own indexP ref (T k).2.1 (T k).2.2.1).before args s = true) (hsame : ∀ x, s.fieldFound? (T k).1 (T k).2.1 (T k).2.2.1 = some x → s.fieldFound? ref (T k).2.1 (T k).2.2.1 = some x) {Li : Int32} (h0 : 0 ≤ Li.toInt) (hLi : Li.toNatClampNeg = L) (hbig : L ≤ 60000000) {at_ : ArrayType} (hty2 : (at_ = .int ∧ K n = 20 ∧ parseFieldDescriptor (T k).2.2.1 = some (.array .int) ∧ cl_newI n L S = some (S', c1, s1)) ∨ (at_ = .long ∧ K n = 21 ∧ parseFieldDescriptor (T k).2.2.1 = some (.array .long) ∧ cl_newJ n L S = some (S', c1, s1))) (hdg : decode cc pc = .ok (.newarray at_, 2)) (hdp : decode cc (pc + 2) = .ok (.putfield indexP, 3)) (hroom : cells + c1 ≤ R.cells ∧ slots + s1 ≤ R.slots)
    (kk : ∀ (u : Nat → Nat), cl_a ad u → ∀ (H : Heap) (locs : List Loc) (k n : Nat), k = cells + c1 → n = slots + s1 → cl_N S'.2 → nm_H D Y (fun q => s0 ≤ q) s.heap X nl u (S'.1.1, S'.1.2, S'.2, K) H locs → W p l e R s m args below meth c H locs k n Q (F0 m (pc + 5) ls rest)) : W p l e R s m args below meth c H locs cells slots Q (F0 m pc ls (.int Li :: .ref (ad o) :: rest)) := by
  rcases hty2 with ⟨rfl, hkn, hd, hcn⟩ | ⟨rfl, hkn, hd, hcn⟩
  · obtain ⟨eS, e1, e2⟩ : ((va_up S.1.1 n (fun _ => 0), S.1.2), va_up S.2 n L) = S' ∧ 1 = c1 ∧ L = s1 := by
      cases hcn
      exact ⟨rfl, rfl, rfl⟩
    subst eS
    subst e1
    subst e2
    refine va_newa (atype := .int) hx hb (hts _ tw_aI) rfl hK hH.1 hH.2.1 hH.2.2 (fun q h => Nat.le_trans hs0 h) (a0 := (L, .inl (fun _ => 0))) (fun cA => rfl) (cl_noneg h0) hLi (by show L * 4 ≤ 536870912; omega) hroom.1 hroom.2 hdg (fun q cA H1 hK2 hP2 hD2 hS2 => ?_)
    have e1 := cl_sameI hK hK2
    subst e1
    refine nm_putR (C' := (va_up S.1.1 n (fun _ => 0), S.1.2, va_up S.2 n L, K)) (n := n) hx hb hts hin ty0 hty hnm hown hK hP2 hD2 hS2 ho hk hc9 hc k hkN hsz hsd hn hno hdist hlink hsame hfin hd rfl rfl hdp hL rfl (fun x h => va_up_ne _ _ h) (fun x h => rfl) (fun x h => va_up_ne _ _ h) hownn hnd ?_ (fun H locs hH => ?_)
    · rw [nm_E_I (C := (va_up S.1.1 n (fun _ => 0), S.1.2, va_up S.2 n L, K)) hkn]
      simp [va_up]
    · exact kk _ (fun x hx2 => va_up_ne _ _ (fun e => hx2 (e ▸ hnd))) H locs _ _ rfl rfl (cl_ndy hN hnd) hH
  · obtain ⟨eS, e1, e2⟩ : ((S.1.1, va_up S.1.2 n (fun _ => 0)), va_up S.2 n L) = S' ∧ 1 = c1 ∧ L = s1 := by
      cases hcn
      exact ⟨rfl, rfl, rfl⟩
    subst eS
    subst e1
    subst e2
    refine va_newa (atype := .long) hx hb (hts _ tw_aJ) rfl hK hH.1 hH.2.1 hH.2.2 (fun q h => Nat.le_trans hs0 h) (a0 := (L, .inr (.inl (fun _ => 0)))) (fun cA => rfl) (cl_noneg h0) hLi (by show L * 8 ≤ 536870912; omega) hroom.1 hroom.2 hdg (fun q cA H1 hK2 hP2 hD2 hS2 => ?_)
    have e1 := cl_sameJ hK hK2
    subst e1
    refine nm_putR (C' := (S.1.1, va_up S.1.2 n (fun _ => 0), va_up S.2 n L, K)) (n := n) hx hb hts hin ty0 hty hnm hown hK hP2 hD2 hS2 ho hk hc9 hc k hkN hsz hsd hn hno hdist hlink hsame hfin hd rfl rfl hdp hL rfl (fun x h => rfl) (fun x h => va_up_ne _ _ h) (fun x h => va_up_ne _ _ h) hownn hnd ?_ (fun H locs hH => ?_)
    · rw [nm_E_J (C := (S.1.1, va_up S.1.2 n (fun _ => 0), va_up S.2 n L, K)) hkn]
      simp [va_up]
    · exact kk _ (fun x hx2 => va_up_ne _ _ (fun e => hx2 (e ▸ hnd))) H locs _ _ rfl rfl (cl_ndy hN hnd) hH

theorem gw_4_2 {c1 s1 : Nat} {o : Nat} (hx : p.tables.exec = Jvm.exec) (hb : c.code = cc) {nL : Nat} (hml : c.maxLocals = nL) (hL : cl_L nl K) (ho : cl_o o) {own ref : String} {index indexP : Nat} (hown : s.vm.findClass own = some m.cls) (hts : ∀ w ∈ nm_T, w.before args s = true) (hs0 : s0 ≤ s.heap.size) (hK : nm_K D Y s) (hZ : nm_Z s) (hH : nm_H D Y (fun q => s0 ≤ q) s.heap X nl ad (S.1.1, S.1.2, S.2, K) H locs) (hN : cl_N S.2) (hlk : Cond.methodLink own index yX0_grown ∈ nm_T) (hlink : (Cond.fieldLink own indexP ref "sizes" "[I").before args s = true) (hsame : ∀ x, s.fieldFound? "RulePlate$Groups" "sizes" "[I" = some x → s.fieldFound? ref "sizes" "[I" = some x) {need : Int32} (hcg : cl_grow (o + 2) need S = some (S', c1, s1)) (hfr : 2 ≤ R.frames) (hlo : 42 ≤ R.locals) (hsl : ls.size = nL) (hW8 : ((.ref (ad (o)) :: rest).map fun v => v.category).sum ≤ 8) (hdg : decode cc pc = .ok (.invokestatic index, 3)) (hdp : decode cc (pc + 3) = .ok (.putfield indexP, 3)) (hroom : cells + c1 ≤ R.cells ∧ slots + s1 ≤ R.slots)
    (kk : ∀ (u : Nat → Nat), cl_a ad u → ∀ (H : Heap) (locs : List Loc) (k n : Nat), k = cells + c1 → n = slots + s1 → cl_N S'.2 → nm_H D Y (fun q => s0 ≤ q) s.heap X nl u (S'.1.1, S'.1.2, S'.2, K) H locs → W p l e R s m args below meth c H locs k n Q (F0 m (pc + 6) ls rest)) : W p l e R s m args below meth c H locs cells slots Q (F0 m pc ls (.int need :: .ref (ad (o + 2)) :: .ref (ad (o)) :: rest)) :=
  nm_growG hx hb hml hL inX4 tyX4 tyX4_ok nmX4 hown hts hs0 hK hZ hH hN (cl_no0 hL ho) (cl_ko0 hL ho) (cl_no2 hL ho) (cl_ko2 hL ho) (ci := 3) (by decide) rfl 2 (by decide) rfl (d := 2) rfl rfl (by omega) (by decide) (by rcases ho with rfl | rfl | rfl <;> decide) (by rcases ho with rfl | rfl | rfl <;> decide) rfl rfl hlk hlink hsame hcg hfr hlo hsl hW8 hdg hdp hroom kk
theorem gw_4_3 {c1 s1 : Nat} {o : Nat} (hx : p.tables.exec = Jvm.exec) (hb : c.code = cc) {nL : Nat} (hml : c.maxLocals = nL) (hL : cl_L nl K) (ho : cl_o o) {own ref : String} {index indexP : Nat} (hown : s.vm.findClass own = some m.cls) (hts : ∀ w ∈ nm_T, w.before args s = true) (hs0 : s0 ≤ s.heap.size) (hK : nm_K D Y s) (hZ : nm_Z s) (hH : nm_H D Y (fun q => s0 ≤ q) s.heap X nl ad (S.1.1, S.1.2, S.2, K) H locs) (hN : cl_N S.2) (hlk : Cond.methodLink own index yX0_grown ∈ nm_T) (hlink : (Cond.fieldLink own indexP ref "leasts" "[I").before args s = true) (hsame : ∀ x, s.fieldFound? "RulePlate$Groups" "leasts" "[I" = some x → s.fieldFound? ref "leasts" "[I" = some x) {need : Int32} (hcg : cl_grow (o + 3) need S = some (S', c1, s1)) (hfr : 2 ≤ R.frames) (hlo : 42 ≤ R.locals) (hsl : ls.size = nL) (hW8 : ((.ref (ad (o)) :: rest).map fun v => v.category).sum ≤ 8) (hdg : decode cc pc = .ok (.invokestatic index, 3)) (hdp : decode cc (pc + 3) = .ok (.putfield indexP, 3)) (hroom : cells + c1 ≤ R.cells ∧ slots + s1 ≤ R.slots)
    (kk : ∀ (u : Nat → Nat), cl_a ad u → ∀ (H : Heap) (locs : List Loc) (k n : Nat), k = cells + c1 → n = slots + s1 → cl_N S'.2 → nm_H D Y (fun q => s0 ≤ q) s.heap X nl u (S'.1.1, S'.1.2, S'.2, K) H locs → W p l e R s m args below meth c H locs k n Q (F0 m (pc + 6) ls rest)) : W p l e R s m args below meth c H locs cells slots Q (F0 m pc ls (.int need :: .ref (ad (o + 3)) :: .ref (ad (o)) :: rest)) :=
  nm_growG hx hb hml hL inX4 tyX4 tyX4_ok nmX4 hown hts hs0 hK hZ hH hN (cl_no0 hL ho) (cl_ko0 hL ho) (cl_no3 hL ho) (cl_ko3 hL ho) (ci := 3) (by decide) rfl 3 (by decide) rfl (d := 3) rfl rfl (by omega) (by decide) (by rcases ho with rfl | rfl | rfl <;> decide) (by rcases ho with rfl | rfl | rfl <;> decide) rfl rfl hlk hlink hsame hcg hfr hlo hsl hW8 hdg hdp hroom kk
theorem gw_4_4 {c1 s1 : Nat} {o : Nat} (hx : p.tables.exec = Jvm.exec) (hb : c.code = cc) {nL : Nat} (hml : c.maxLocals = nL) (hL : cl_L nl K) (ho : cl_o o) {own ref : String} {index indexP : Nat} (hown : s.vm.findClass own = some m.cls) (hts : ∀ w ∈ nm_T, w.before args s = true) (hs0 : s0 ≤ s.heap.size) (hK : nm_K D Y s) (hZ : nm_Z s) (hH : nm_H D Y (fun q => s0 ≤ q) s.heap X nl ad (S.1.1, S.1.2, S.2, K) H locs) (hN : cl_N S.2) (hlk : Cond.methodLink own index yX0_grown ∈ nm_T) (hlink : (Cond.fieldLink own indexP ref "greatests" "[I").before args s = true) (hsame : ∀ x, s.fieldFound? "RulePlate$Groups" "greatests" "[I" = some x → s.fieldFound? ref "greatests" "[I" = some x) {need : Int32} (hcg : cl_grow (o + 4) need S = some (S', c1, s1)) (hfr : 2 ≤ R.frames) (hlo : 42 ≤ R.locals) (hsl : ls.size = nL) (hW8 : ((.ref (ad (o)) :: rest).map fun v => v.category).sum ≤ 8) (hdg : decode cc pc = .ok (.invokestatic index, 3)) (hdp : decode cc (pc + 3) = .ok (.putfield indexP, 3)) (hroom : cells + c1 ≤ R.cells ∧ slots + s1 ≤ R.slots)
    (kk : ∀ (u : Nat → Nat), cl_a ad u → ∀ (H : Heap) (locs : List Loc) (k n : Nat), k = cells + c1 → n = slots + s1 → cl_N S'.2 → nm_H D Y (fun q => s0 ≤ q) s.heap X nl u (S'.1.1, S'.1.2, S'.2, K) H locs → W p l e R s m args below meth c H locs k n Q (F0 m (pc + 6) ls rest)) : W p l e R s m args below meth c H locs cells slots Q (F0 m pc ls (.int need :: .ref (ad (o + 4)) :: .ref (ad (o)) :: rest)) :=
  nm_growG hx hb hml hL inX4 tyX4 tyX4_ok nmX4 hown hts hs0 hK hZ hH hN (cl_no0 hL ho) (cl_ko0 hL ho) (cl_no4 hL ho) (cl_ko4 hL ho) (ci := 3) (by decide) rfl 4 (by decide) rfl (d := 4) rfl rfl (by omega) (by decide) (by rcases ho with rfl | rfl | rfl <;> decide) (by rcases ho with rfl | rfl | rfl <;> decide) rfl rfl hlk hlink hsame hcg hfr hlo hsl hW8 hdg hdp hroom kk
theorem gw_4_6 {c1 s1 : Nat} {o : Nat} (hx : p.tables.exec = Jvm.exec) (hb : c.code = cc) {nL : Nat} (hml : c.maxLocals = nL) (hL : cl_L nl K) (ho : cl_o o) {own ref : String} {index indexP : Nat} (hown : s.vm.findClass own = some m.cls) (hts : ∀ w ∈ nm_T, w.before args s = true) (hs0 : s0 ≤ s.heap.size) (hK : nm_K D Y s) (hZ : nm_Z s) (hH : nm_H D Y (fun q => s0 ≤ q) s.heap X nl ad (S.1.1, S.1.2, S.2, K) H locs) (hN : cl_N S.2) (hlk : Cond.methodLink own index yX0_grown ∈ nm_T) (hlink : (Cond.fieldLink own indexP ref "links" "[I").before args s = true) (hsame : ∀ x, s.fieldFound? "RulePlate$Groups" "links" "[I" = some x → s.fieldFound? ref "links" "[I" = some x) {need : Int32} (hcg : cl_grow (o + 6) need S = some (S', c1, s1)) (hfr : 2 ≤ R.frames) (hlo : 42 ≤ R.locals) (hsl : ls.size = nL) (hW8 : ((.ref (ad (o)) :: rest).map fun v => v.category).sum ≤ 8) (hdg : decode cc pc = .ok (.invokestatic index, 3)) (hdp : decode cc (pc + 3) = .ok (.putfield indexP, 3)) (hroom : cells + c1 ≤ R.cells ∧ slots + s1 ≤ R.slots)
    (kk : ∀ (u : Nat → Nat), cl_a ad u → ∀ (H : Heap) (locs : List Loc) (k n : Nat), k = cells + c1 → n = slots + s1 → cl_N S'.2 → nm_H D Y (fun q => s0 ≤ q) s.heap X nl u (S'.1.1, S'.1.2, S'.2, K) H locs → W p l e R s m args below meth c H locs k n Q (F0 m (pc + 6) ls rest)) : W p l e R s m args below meth c H locs cells slots Q (F0 m pc ls (.int need :: .ref (ad (o + 6)) :: .ref (ad (o)) :: rest)) :=
  nm_growG hx hb hml hL inX4 tyX4 tyX4_ok nmX4 hown hts hs0 hK hZ hH hN (cl_no0 hL ho) (cl_ko0 hL ho) (cl_no6 hL ho) (cl_ko6 hL ho) (ci := 3) (by decide) rfl 6 (by decide) rfl (d := 6) rfl rfl (by omega) (by decide) (by rcases ho with rfl | rfl | rfl <;> decide) (by rcases ho with rfl | rfl | rfl <;> decide) rfl rfl hlk hlink hsame hcg hfr hlo hsl hW8 hdg hdp hroom kk
theorem gw_4_8 {c1 s1 : Nat} {o : Nat} (hx : p.tables.exec = Jvm.exec) (hb : c.code = cc) {nL : Nat} (hml : c.maxLocals = nL) (hL : cl_L nl K) (ho : cl_o o) {own ref : String} {index indexP : Nat} (hown : s.vm.findClass own = some m.cls) (hts : ∀ w ∈ nm_T, w.before args s = true) (hs0 : s0 ≤ s.heap.size) (hK : nm_K D Y s) (hZ : nm_Z s) (hH : nm_H D Y (fun q => s0 ≤ q) s.heap X nl ad (S.1.1, S.1.2, S.2, K) H locs) (hN : cl_N S.2) (hlk : Cond.methodLink own index yX0_grown ∈ nm_T) (hlink : (Cond.fieldLink own indexP ref "touched" "[I").before args s = true) (hsame : ∀ x, s.fieldFound? "RulePlate$Groups" "touched" "[I" = some x → s.fieldFound? ref "touched" "[I" = some x) {need : Int32} (hcg : cl_grow (o + 7) need S = some (S', c1, s1)) (hfr : 2 ≤ R.frames) (hlo : 42 ≤ R.locals) (hsl : ls.size = nL) (hW8 : ((.ref (ad (o)) :: rest).map fun v => v.category).sum ≤ 8) (hdg : decode cc pc = .ok (.invokestatic index, 3)) (hdp : decode cc (pc + 3) = .ok (.putfield indexP, 3)) (hroom : cells + c1 ≤ R.cells ∧ slots + s1 ≤ R.slots)
    (kk : ∀ (u : Nat → Nat), cl_a ad u → ∀ (H : Heap) (locs : List Loc) (k n : Nat), k = cells + c1 → n = slots + s1 → cl_N S'.2 → nm_H D Y (fun q => s0 ≤ q) s.heap X nl u (S'.1.1, S'.1.2, S'.2, K) H locs → W p l e R s m args below meth c H locs k n Q (F0 m (pc + 6) ls rest)) : W p l e R s m args below meth c H locs cells slots Q (F0 m pc ls (.int need :: .ref (ad (o + 7)) :: .ref (ad (o)) :: rest)) :=
  nm_growG hx hb hml hL inX4 tyX4 tyX4_ok nmX4 hown hts hs0 hK hZ hH hN (cl_no0 hL ho) (cl_ko0 hL ho) (cl_no7 hL ho) (cl_ko7 hL ho) (ci := 3) (by decide) rfl 8 (by decide) rfl (d := 7) rfl rfl (by omega) (by decide) (by rcases ho with rfl | rfl | rfl <;> decide) (by rcases ho with rfl | rfl | rfl <;> decide) rfl rfl hlk hlink hsame hcg hfr hlo hsl hW8 hdg hdp hroom kk
theorem gw_8_3 {c1 s1 : Nat} {o : Nat} (hx : p.tables.exec = Jvm.exec) (hb : c.code = cc) {nL : Nat} (hml : c.maxLocals = nL) (hL : cl_L nl K) {own ref : String} {index indexP : Nat} (hown : s.vm.findClass own = some m.cls) (hts : ∀ w ∈ nm_T, w.before args s = true) (hs0 : s0 ≤ s.heap.size) (hK : nm_K D Y s) (hZ : nm_Z s) (hH : nm_H D Y (fun q => s0 ≤ q) s.heap X nl ad (S.1.1, S.1.2, S.2, K) H locs) (hN : cl_N S.2) (hlk : Cond.methodLink own index yX0_grown ∈ nm_T) (hlink : (Cond.fieldLink own indexP ref "told" "[I").before args s = true) (hsame : ∀ x, s.fieldFound? "RulePlate$RuleBook" "told" "[I" = some x → s.fieldFound? ref "told" "[I" = some x) {need : Int32} (hcg : cl_grow (201) need S = some (S', c1, s1)) (hfr : 2 ≤ R.frames) (hlo : 42 ≤ R.locals) (hsl : ls.size = nL) (hW8 : ((.ref (ad (200)) :: rest).map fun v => v.category).sum ≤ 8) (hdg : decode cc pc = .ok (.invokestatic index, 3)) (hdp : decode cc (pc + 3) = .ok (.putfield indexP, 3)) (hroom : cells + c1 ≤ R.cells ∧ slots + s1 ≤ R.slots)
    (kk : ∀ (u : Nat → Nat), cl_a ad u → ∀ (H : Heap) (locs : List Loc) (k n : Nat), k = cells + c1 → n = slots + s1 → cl_N S'.2 → nm_H D Y (fun q => s0 ≤ q) s.heap X nl u (S'.1.1, S'.1.2, S'.2, K) H locs → W p l e R s m args below meth c H locs k n Q (F0 m (pc + 6) ls rest)) : W p l e R s m args below meth c H locs cells slots Q (F0 m pc ls (.int need :: .ref (ad (201)) :: .ref (ad (200)) :: rest)) :=
  nm_growG hx hb hml hL inX8 tyX8 tyX8_ok nmX8 hown hts hs0 hK hZ hH hN (cl_n200 hL) (cl_k200 hL) (cl_n201 hL) (cl_k201 hL) (ci := 7) (by decide) rfl 3 (by decide) rfl (d := 1) rfl rfl (by decide) (by decide) (by decide) (by decide) rfl rfl hlk hlink hsame hcg hfr hlo hsl hW8 hdg hdp hroom kk
theorem gw_2_11 {c1 s1 : Nat} {o : Nat} (hx : p.tables.exec = Jvm.exec) (hb : c.code = cc) {nL : Nat} (hml : c.maxLocals = nL) (hL : cl_L nl K) {own ref : String} {index indexP : Nat} (hown : s.vm.findClass own = some m.cls) (hts : ∀ w ∈ nm_T, w.before args s = true) (hs0 : s0 ≤ s.heap.size) (hK : nm_K D Y s) (hZ : nm_Z s) (hH : nm_H D Y (fun q => s0 ≤ q) s.heap X nl ad (S.1.1, S.1.2, S.2, K) H locs) (hN : cl_N S.2) (hlk : Cond.methodLink own index yX0_grown ∈ nm_T) (hlink : (Cond.fieldLink own indexP ref "gateNets" "[I").before args s = true) (hsame : ∀ x, s.fieldFound? "RulePlate$Circuit" "gateNets" "[I" = some x → s.fieldFound? ref "gateNets" "[I" = some x) {need : Int32} (hcg : cl_grow (302) need S = some (S', c1, s1)) (hfr : 2 ≤ R.frames) (hlo : 42 ≤ R.locals) (hsl : ls.size = nL) (hW8 : ((.ref (ad (300)) :: rest).map fun v => v.category).sum ≤ 8) (hdg : decode cc pc = .ok (.invokestatic index, 3)) (hdp : decode cc (pc + 3) = .ok (.putfield indexP, 3)) (hroom : cells + c1 ≤ R.cells ∧ slots + s1 ≤ R.slots)
    (kk : ∀ (u : Nat → Nat), cl_a ad u → ∀ (H : Heap) (locs : List Loc) (k n : Nat), k = cells + c1 → n = slots + s1 → cl_N S'.2 → nm_H D Y (fun q => s0 ≤ q) s.heap X nl u (S'.1.1, S'.1.2, S'.2, K) H locs → W p l e R s m args below meth c H locs k n Q (F0 m (pc + 6) ls rest)) : W p l e R s m args below meth c H locs cells slots Q (F0 m pc ls (.int need :: .ref (ad (302)) :: .ref (ad (300)) :: rest)) :=
  nm_growG hx hb hml hL inX2 tyX2 tyX2_ok nmX2 hown hts hs0 hK hZ hH hN (cl_n300 hL) (cl_k300 hL) (cl_n302 hL) (cl_k302 hL) (ci := 1) (by decide) rfl 11 (by decide) rfl (d := 2) rfl rfl (by decide) (by decide) (by decide) (by decide) rfl rfl hlk hlink hsame hcg hfr hlo hsl hW8 hdg hdp hroom kk
theorem gw_2_12 {c1 s1 : Nat} {o : Nat} (hx : p.tables.exec = Jvm.exec) (hb : c.code = cc) {nL : Nat} (hml : c.maxLocals = nL) (hL : cl_L nl K) {own ref : String} {index indexP : Nat} (hown : s.vm.findClass own = some m.cls) (hts : ∀ w ∈ nm_T, w.before args s = true) (hs0 : s0 ≤ s.heap.size) (hK : nm_K D Y s) (hZ : nm_Z s) (hH : nm_H D Y (fun q => s0 ≤ q) s.heap X nl ad (S.1.1, S.1.2, S.2, K) H locs) (hN : cl_N S.2) (hlk : Cond.methodLink own index yX0_grown ∈ nm_T) (hlink : (Cond.fieldLink own indexP ref "firstEnds" "[I").before args s = true) (hsame : ∀ x, s.fieldFound? "RulePlate$Circuit" "firstEnds" "[I" = some x → s.fieldFound? ref "firstEnds" "[I" = some x) {need : Int32} (hcg : cl_grow (303) need S = some (S', c1, s1)) (hfr : 2 ≤ R.frames) (hlo : 42 ≤ R.locals) (hsl : ls.size = nL) (hW8 : ((.ref (ad (300)) :: rest).map fun v => v.category).sum ≤ 8) (hdg : decode cc pc = .ok (.invokestatic index, 3)) (hdp : decode cc (pc + 3) = .ok (.putfield indexP, 3)) (hroom : cells + c1 ≤ R.cells ∧ slots + s1 ≤ R.slots)
    (kk : ∀ (u : Nat → Nat), cl_a ad u → ∀ (H : Heap) (locs : List Loc) (k n : Nat), k = cells + c1 → n = slots + s1 → cl_N S'.2 → nm_H D Y (fun q => s0 ≤ q) s.heap X nl u (S'.1.1, S'.1.2, S'.2, K) H locs → W p l e R s m args below meth c H locs k n Q (F0 m (pc + 6) ls rest)) : W p l e R s m args below meth c H locs cells slots Q (F0 m pc ls (.int need :: .ref (ad (303)) :: .ref (ad (300)) :: rest)) :=
  nm_growG hx hb hml hL inX2 tyX2 tyX2_ok nmX2 hown hts hs0 hK hZ hH hN (cl_n300 hL) (cl_k300 hL) (cl_n303 hL) (cl_k303 hL) (ci := 1) (by decide) rfl 12 (by decide) rfl (d := 3) rfl rfl (by decide) (by decide) (by decide) (by decide) rfl rfl hlk hlink hsame hcg hfr hlo hsl hW8 hdg hdp hroom kk
theorem gw_2_13 {c1 s1 : Nat} {o : Nat} (hx : p.tables.exec = Jvm.exec) (hb : c.code = cc) {nL : Nat} (hml : c.maxLocals = nL) (hL : cl_L nl K) {own ref : String} {index indexP : Nat} (hown : s.vm.findClass own = some m.cls) (hts : ∀ w ∈ nm_T, w.before args s = true) (hs0 : s0 ≤ s.heap.size) (hK : nm_K D Y s) (hZ : nm_Z s) (hH : nm_H D Y (fun q => s0 ≤ q) s.heap X nl ad (S.1.1, S.1.2, S.2, K) H locs) (hN : cl_N S.2) (hlk : Cond.methodLink own index yX0_grown ∈ nm_T) (hlink : (Cond.fieldLink own indexP ref "secondEnds" "[I").before args s = true) (hsame : ∀ x, s.fieldFound? "RulePlate$Circuit" "secondEnds" "[I" = some x → s.fieldFound? ref "secondEnds" "[I" = some x) {need : Int32} (hcg : cl_grow (304) need S = some (S', c1, s1)) (hfr : 2 ≤ R.frames) (hlo : 42 ≤ R.locals) (hsl : ls.size = nL) (hW8 : ((.ref (ad (300)) :: rest).map fun v => v.category).sum ≤ 8) (hdg : decode cc pc = .ok (.invokestatic index, 3)) (hdp : decode cc (pc + 3) = .ok (.putfield indexP, 3)) (hroom : cells + c1 ≤ R.cells ∧ slots + s1 ≤ R.slots)
    (kk : ∀ (u : Nat → Nat), cl_a ad u → ∀ (H : Heap) (locs : List Loc) (k n : Nat), k = cells + c1 → n = slots + s1 → cl_N S'.2 → nm_H D Y (fun q => s0 ≤ q) s.heap X nl u (S'.1.1, S'.1.2, S'.2, K) H locs → W p l e R s m args below meth c H locs k n Q (F0 m (pc + 6) ls rest)) : W p l e R s m args below meth c H locs cells slots Q (F0 m pc ls (.int need :: .ref (ad (304)) :: .ref (ad (300)) :: rest)) :=
  nm_growG hx hb hml hL inX2 tyX2 tyX2_ok nmX2 hown hts hs0 hK hZ hH hN (cl_n300 hL) (cl_k300 hL) (cl_n304 hL) (cl_k304 hL) (ci := 1) (by decide) rfl 13 (by decide) rfl (d := 4) rfl rfl (by decide) (by decide) (by decide) (by decide) rfl rfl hlk hlink hsame hcg hfr hlo hsl hW8 hdg hdp hroom kk
theorem nw_1_3 {c1 s1 : Nat} {w : Nat} (hx : p.tables.exec = Jvm.exec) (hb : c.code = cc) (hL : cl_L nl K) (hw : cl_w w) {own ref : String} {indexP : Nat} (hown : s.vm.findClass own = some m.cls) (hts : ∀ w ∈ nm_T, w.before args s = true) (hs0 : s0 ≤ s.heap.size) (hK : nm_K D Y s) (hH : nm_H D Y (fun q => s0 ≤ q) s.heap X nl ad (S.1.1, S.1.2, S.2, K) H locs) (hN : cl_N S.2) (hlink : (Cond.fieldLink own indexP ref "rows" "[J").before args s = true) (hsame : ∀ x, s.fieldFound? "RulePlate$Cell" "rows" "[J" = some x → s.fieldFound? ref "rows" "[J" = some x) (hcg : cl_newJ (w + 2) 512 S = some (S', c1, s1)) (hdg : decode cc pc = .ok (.newarray .long, 2)) (hdp : decode cc (pc + 2) = .ok (.putfield indexP, 3)) (hroom : cells + c1 ≤ R.cells ∧ slots + s1 ≤ R.slots)
    (kk : ∀ (u : Nat → Nat), cl_a ad u → ∀ (H : Heap) (locs : List Loc) (k n : Nat), k = cells + c1 → n = slots + s1 → cl_N S'.2 → nm_H D Y (fun q => s0 ≤ q) s.heap X nl u (S'.1.1, S'.1.2, S'.2, K) H locs → W p l e R s m args below meth c H locs k n Q (F0 m (pc + 5) ls rest)) : W p l e R s m args below meth c H locs cells slots Q (F0 m pc ls (.int 512 :: .ref (ad w) :: rest)) :=
  nm_newG (L := 512) (n := w + 2) hx hb hL inX1 tyX1 tyX1_ok nmX1 hown hts hs0 hK hH hN (cl_nw0 hL hw) (cl_kw0 hL hw) (ci := 0) (by decide) rfl 3 (by decide) rfl (d := 2) rfl rfl (by omega) (by decide) (by obtain ⟨k, hk, rfl⟩ := hw; rcases cl_w8 hk with rfl | rfl | rfl | rfl | rfl | rfl | rfl | rfl <;> decide) (by obtain ⟨k, hk, rfl⟩ := hw; rcases cl_w8 hk with rfl | rfl | rfl | rfl | rfl | rfl | rfl | rfl <;> decide) rfl hlink hsame (by decide) (by decide) (by decide) (Or.inr ⟨rfl, cl_kw2 hL hw, rfl, hcg⟩) hdg hdp hroom kk
theorem nw_1_4 {c1 s1 : Nat} {w : Nat} (hx : p.tables.exec = Jvm.exec) (hb : c.code = cc) (hL : cl_L nl K) (hw : cl_w w) {own ref : String} {indexP : Nat} (hown : s.vm.findClass own = some m.cls) (hts : ∀ w ∈ nm_T, w.before args s = true) (hs0 : s0 ≤ s.heap.size) (hK : nm_K D Y s) (hH : nm_H D Y (fun q => s0 ≤ q) s.heap X nl ad (S.1.1, S.1.2, S.2, K) H locs) (hN : cl_N S.2) (hlink : (Cond.fieldLink own indexP ref "texts" "[I").before args s = true) (hsame : ∀ x, s.fieldFound? "RulePlate$Cell" "texts" "[I" = some x → s.fieldFound? ref "texts" "[I" = some x) (hcg : cl_newI (w + 3) 200 S = some (S', c1, s1)) (hdg : decode cc pc = .ok (.newarray .int, 2)) (hdp : decode cc (pc + 2) = .ok (.putfield indexP, 3)) (hroom : cells + c1 ≤ R.cells ∧ slots + s1 ≤ R.slots)
    (kk : ∀ (u : Nat → Nat), cl_a ad u → ∀ (H : Heap) (locs : List Loc) (k n : Nat), k = cells + c1 → n = slots + s1 → cl_N S'.2 → nm_H D Y (fun q => s0 ≤ q) s.heap X nl u (S'.1.1, S'.1.2, S'.2, K) H locs → W p l e R s m args below meth c H locs k n Q (F0 m (pc + 5) ls rest)) : W p l e R s m args below meth c H locs cells slots Q (F0 m pc ls (.int 200 :: .ref (ad w) :: rest)) :=
  nm_newG (L := 200) (n := w + 3) hx hb hL inX1 tyX1 tyX1_ok nmX1 hown hts hs0 hK hH hN (cl_nw0 hL hw) (cl_kw0 hL hw) (ci := 0) (by decide) rfl 4 (by decide) rfl (d := 3) rfl rfl (by omega) (by decide) (by obtain ⟨k, hk, rfl⟩ := hw; rcases cl_w8 hk with rfl | rfl | rfl | rfl | rfl | rfl | rfl | rfl <;> decide) (by obtain ⟨k, hk, rfl⟩ := hw; rcases cl_w8 hk with rfl | rfl | rfl | rfl | rfl | rfl | rfl | rfl <;> decide) rfl hlink hsame (by decide) (by decide) (by decide) (Or.inl ⟨rfl, cl_kw3 hL hw, rfl, hcg⟩) hdg hdp hroom kk
end AR
