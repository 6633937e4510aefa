/-! the two2 least of a set of numbers -/
def two2 (P : Nat → Prop) (e : Int × Int) : Prop := (e = (-1, -1) ∧ ∀ n, ¬ P n) ∨ (∃ m : Nat, e = ((m : Int), -1) ∧ ∀ n, P n ↔ n = m) ∨ ∃ m k : Nat, e = ((m : Int), (k : Int)) ∧ m < k ∧ P m ∧ P k ∧ ∀ n, P n → n = m ∨ k ≤ n
theorem two_un {P : Nat → Prop} {e e' : Int × Int} (h : two2 P e) (h' : two2 P e') : e = e' := by
  rcases h with ⟨h1, h2⟩ | ⟨m, h1, h2⟩ | ⟨m, k, h1, h2, h3, h4, h5⟩
  · rcases h' with ⟨g1, g2⟩ | ⟨m', g1, g2⟩ | ⟨m', k', g1, g2, g3, g4, g5⟩
    · rw [h1, g1]
    · exact absurd ((g2 m').mpr rfl) (h2 m')
    · exact absurd g3 (h2 m')
  · rcases h' with ⟨g1, g2⟩ | ⟨m', g1, g2⟩ | ⟨m', k', g1, g2, g3, g4, g5⟩
    · exact absurd ((h2 m).mpr rfl) (g2 m)
    · have e1 := (g2 m).mp ((h2 m).mpr rfl)
      rw [h1, g1, e1]
    · have e1 := (h2 m').mp g3
      have e2 := (h2 k').mp g4
      omega
  · rcases h' with ⟨g1, g2⟩ | ⟨m', g1, g2⟩ | ⟨m', k', g1, g2, g3, g4, g5⟩
    · exact absurd h3 (g2 m)
    · have e1 := (g2 m).mp h3
      have e2 := (g2 k).mp h4
      omega
    · have a1 := g5 m h3
      have a2 := h5 m' g3
      have e1 : m = m' := by omega
      subst e1
      have a3 := g5 k h4
      have a4 := h5 k' g4
      have e2 : k = k' := by omega
      subst e2
      rw [h1, g1]
theorem two_congr {P P' : Nat → Prop} {e : Int × Int} (h : two2 P e) (hp : ∀ n, P n ↔ P' n) : two2 P' e := by
  have : P = P' := funext (fun n => propext (hp n))
  rw [← this]
  exact h
def ae (n : Int) (e : Int × Int) : Int × Int := if n = e.1 then e else if n = e.2 then e else if e.1 < 0 then (n, e.1) else if n < e.1 then (n, e.1) else if e.2 < 0 then (e.1, n) else if n < e.2 then (e.1, n) else e
theorem two_add {P : Nat → Prop} {e : Int × Int} (h : two2 P e) (n : Nat) : two2 (fun k => P k ∨ k = n) (ae n e) := by
  rcases h with ⟨h1, h2⟩ | ⟨m, h1, h2⟩ | ⟨m, k, h1, h2, h3, h4, h5⟩
  · subst h1
    unfold ae
    rw [if_neg (show ¬ ((n : Nat) : Int) = -1 by omega), if_neg (show ¬ ((n : Nat) : Int) = -1 by omega), if_pos (by decide)]
    exact Or.inr (Or.inl ⟨n, rfl, fun x => ⟨fun hx => hx.resolve_left (h2 x), Or.inr⟩⟩)
  · subst h1
    unfold ae
    by_cases c1 : n = m
    · subst c1
      rw [if_pos rfl]
      exact Or.inr (Or.inl ⟨n, rfl, fun x => ⟨fun hx => hx.elim (h2 x).mp id, Or.inr⟩⟩)
    · rw [if_neg (show ¬ ((n : Nat) : Int) = ((m : Nat) : Int) by omega), if_neg (show ¬ ((n : Nat) : Int) = -1 by omega), if_neg (show ¬ ((m : Nat) : Int) < 0 by omega)]
      by_cases c2 : n < m
      · rw [if_pos (show ((n : Nat) : Int) < ((m : Nat) : Int) by omega)]
        exact Or.inr (Or.inr ⟨n, m, rfl, c2, Or.inr rfl, Or.inl ((h2 m).mpr rfl), fun x hx => hx.elim (fun q => Or.inr (Nat.le_of_eq ((h2 x).mp q).symm)) Or.inl⟩)
      · rw [if_neg (show ¬ ((n : Nat) : Int) < ((m : Nat) : Int) by omega), if_pos (show (-1 : Int) < 0 by decide)]
        exact Or.inr (Or.inr ⟨m, n, rfl, by omega, Or.inl ((h2 m).mpr rfl), Or.inr rfl, fun x hx => hx.elim (fun q => Or.inl ((h2 x).mp q)) (fun q => Or.inr (Nat.le_of_eq q.symm))⟩)
  · subst h1
    unfold ae
    by_cases c1 : n = m
    · subst c1
      rw [if_pos rfl]
      exact Or.inr (Or.inr ⟨n, k, rfl, h2, Or.inl h3, Or.inl h4, fun x hx => hx.elim (h5 x) Or.inl⟩)
    · rw [if_neg (show ¬ ((n : Nat) : Int) = ((m : Nat) : Int) by omega)]
      by_cases c2 : n = k
      · subst c2
        rw [if_pos rfl]
        exact Or.inr (Or.inr ⟨m, n, rfl, h2, Or.inl h3, Or.inl h4, fun x hx => hx.elim (h5 x) (fun q => Or.inr (Nat.le_of_eq q.symm))⟩)
      · rw [if_neg (show ¬ ((n : Nat) : Int) = ((k : Nat) : Int) by omega), if_neg (show ¬ ((m : Nat) : Int) < 0 by omega)]
        by_cases c3 : n < m
        · rw [if_pos (show ((n : Nat) : Int) < ((m : Nat) : Int) by omega)]
          refine Or.inr (Or.inr ⟨n, m, rfl, c3, Or.inr rfl, Or.inl h3, fun x hx => hx.elim (fun q => ?_) Or.inl⟩)
          have := h5 x q
          omega
        · rw [if_neg (show ¬ ((n : Nat) : Int) < ((m : Nat) : Int) by omega), if_neg (show ¬ ((k : Nat) : Int) < 0 by omega)]
          by_cases c4 : n < k
          · rw [if_pos (show ((n : Nat) : Int) < ((k : Nat) : Int) by omega)]
            refine Or.inr (Or.inr ⟨m, n, rfl, by omega, Or.inl h3, Or.inr rfl, fun x hx => hx.elim (fun q => ?_) (fun q => Or.inr (Nat.le_of_eq q.symm))⟩)
            have := h5 x q
            omega
          · rw [if_neg (show ¬ ((n : Nat) : Int) < ((k : Nat) : Int) by omega)]
            refine Or.inr (Or.inr ⟨m, k, rfl, h2, Or.inl h3, Or.inl h4, fun x hx => hx.elim (h5 x) (fun q => ?_)⟩)
            omega
theorem two_rng {P : Nat → Prop} {e : Int × Int} (h : two2 P e) (hb : ∀ n, P n → n < 65536) : (-1 ≤ e.1 ∧ e.1 < 65536) ∧ -1 ≤ e.2 ∧ e.2 < 65536 := by
  rcases h with ⟨h1, h2⟩ | ⟨m, h1, h2⟩ | ⟨m, k, h1, h2, h3, h4, h5⟩
  · subst h1
    decide
  · subst h1
    have := hb m ((h2 m).mpr rfl)
    exact ⟨⟨by omega, by omega⟩, show (-1 : Int) ≤ -1 by decide, show (-1 : Int) < 65536 by decide⟩
  · subst h1
    have := hb m h3
    have := hb k h4
    exact ⟨⟨by omega, by omega⟩, by omega, by omega⟩
/-- of each of dn devices the two2 least so far: the program's, the reference's -/
def eX (M : cm) (P : Nat → Nat → Prop) (dn : Nat) : Prop := ∀ d, d < dn → (∀ n, P d n → n < 65536) ∧ ∃ e : Int × Int, M.1 303 d = zI e.1 ∧ M.1 304 d = zI e.2 ∧ two2 (P d) e
def eO (I : nm_I) (P : Nat → Nat → Prop) (dn : Nat) : Prop := ∀ d, d < dn → (∀ n, P d n → n < 65536) ∧ ∃ e : Int × Int, I 64 d = zI e.1 ∧ I 65 d = zI e.2 ∧ two2 (P d) e
abbrev eXF (M M' : cm) : Prop := M'.2 = M.2 ∧ ∀ m j, m ≠ 303 → m ≠ 304 → M'.1 m j = M.1 m j
abbrev eOF (I I' : nm_I) : Prop := ∀ m j, m ≠ 64 → m ≠ 65 → I' m j = I m j
theorem eX_congr {M : cm} {P P' : Nat → Nat → Prop} {dn : Nat} (h : eX M P dn) (hp : ∀ d n, d < dn → (P d n ↔ P' d n)) : eX M P' dn := fun d hd => by
  obtain ⟨a, e, b, c, f⟩ := h d hd
  exact ⟨fun n hn => a n ((hp d n hd).mpr hn), e, b, c, two_congr f (fun n => hp d n hd)⟩
theorem eO_congr {I : nm_I} {P P' : Nat → Nat → Prop} {dn : Nat} (h : eO I P dn) (hp : ∀ d n, d < dn → (P d n ↔ P' d n)) : eO I P' dn := fun d hd => by
  obtain ⟨a, e, b, c, f⟩ := h d hd
  exact ⟨fun n hn => a n ((hp d n hd).mpr hn), e, b, c, two_congr f (fun n => hp d n hd)⟩
/-- one number more, of one device: what the cells must be -/
theorem eX_put {M M' : cm} {P : Nat → Nat → Prop} {dn d n : Nat} (h : eX M P dn) (hn : n < 65536) (h1 : ∀ e : Int × Int, M.1 303 d = zI e.1 → M.1 304 d = zI e.2 → two2 (P d) e → M'.1 303 d = zI (ae n e).1 ∧ M'.1 304 d = zI (ae n e).2) (h2 : ∀ d', d' ≠ d → M'.1 303 d' = M.1 303 d' ∧ M'.1 304 d' = M.1 304 d') : eX M' (fun d' k => P d' k ∨ (d' = d ∧ k = n)) dn := by
  intro d' hd'
  obtain ⟨a, e, b, c, f⟩ := h d' hd'
  refine ⟨fun k hk => hk.elim (a k) (fun q => by rw [q.2]; exact hn), ?_⟩
  by_cases hdd : d' = d
  · subst hdd
    obtain ⟨x, y⟩ := h1 e b c f
    exact ⟨ae n e, x, y, two_congr (two_add f n) (fun k => by simp)⟩
  · obtain ⟨x, y⟩ := h2 d' hdd
    exact ⟨e, x.trans b, y.trans c, two_congr f (fun k => by simp [hdd])⟩
theorem eO_put {I I' : nm_I} {P : Nat → Nat → Prop} {dn d n : Nat} (h : eO I P dn) (hn : n < 65536) (h1 : ∀ e : Int × Int, I 64 d = zI e.1 → I 65 d = zI e.2 → two2 (P d) e → I' 64 d = zI (ae n e).1 ∧ I' 65 d = zI (ae n e).2) (h2 : ∀ d', d' ≠ d → I' 64 d' = I 64 d' ∧ I' 65 d' = I 65 d') : eO I' (fun d' k => P d' k ∨ (d' = d ∧ k = n)) dn := by
  intro d' hd'
  obtain ⟨a, e, b, c, f⟩ := h d' hd'
  refine ⟨fun k hk => hk.elim (a k) (fun q => by rw [q.2]; exact hn), ?_⟩
  by_cases hdd : d' = d
  · subst hdd
    obtain ⟨x, y⟩ := h1 e b c f
    exact ⟨ae n e, x, y, two_congr (two_add f n) (fun k => by simp)⟩
  · obtain ⟨x, y⟩ := h2 d' hdd
    exact ⟨e, x.trans b, y.trans c, two_congr f (fun k => by simp [hdd])⟩
theorem w_addEnd {N : Nat → Nat} {M : cm} {P : Nat → Nat → Prop} {dn d n : Nat} (h3 : dn ≤ N 303) (h4 : dn ≤ N 304) (hdn : dn ≤ 4096) (h : eX M P dn) (hd : d < dn) (hn : n < 65536) :
    wp (f_X2_addEnd N (zI (d : Nat)) (zI (n : Nat)) M) (fun M' => eX M' (fun d' k => P d' k ∨ (d' = d ∧ k = n)) dn ∧ eXF M M') := by
  obtain ⟨a, e, b, c, f⟩ := h d hd
  obtain ⟨⟨r1, r2⟩, r3, r4⟩ := two_rng f a
  have hfin : ∀ M' : cm, M'.2 = M.2 → (∀ m j, ¬ ((m = 303 ∨ m = 304) ∧ j = d) → M'.1 m j = M.1 m j) → M'.1 303 d = zI (ae n e).1 → M'.1 304 d = zI (ae n e).2 → wp (some M') (fun M' => eX M' (fun d' k => P d' k ∨ (d' = d ∧ k = n)) dn ∧ eXF M M') := fun M' z1 z2 z3 z4 => wp_r ⟨eX_put h hn (fun e' y1 y2 y3 => by
    rw [two_un y3 f]
    exact ⟨z3, z4⟩) (fun d' hd' => ⟨z2 _ _ (by omega), z2 _ _ (by omega)⟩), z1, fun m j x y => z2 m j (by omega)⟩
  have hj37 : ae n e = ((n : Int), e.1) → wp (f_X2_addEnd_J37 N (zI (d : Nat)) (zI (n : Nat)) (zI e.1) M) (fun M' => eX M' (fun d' k => P d' k ∨ (d' = d ∧ k = n)) dn ∧ eXF M M') := by
    intro he
    unfold f_X2_addEnd_J37
    rw [nm_cz (by omega) (by omega) (by omega), zI_cl (by omega) (by omega), Int.toNat_natCast, nm_l_eq, nm_cz (by omega) (by omega) (by omega), nm_l_eq]
    refine hfin _ rfl (fun m j x => ?_) ?_ ?_
    · show nm_up (nm_up M.1 303 d (zI (n : Nat))) 304 d (zI e.1) m j = _
      rw [nm_up_ap, if_neg (by omega), nm_up_ap, if_neg (by omega)]
    · show nm_up (nm_up M.1 303 d (zI (n : Nat))) 304 d (zI e.1) 303 d = _
      rw [nm_up_ap, if_neg (by omega), nm_up_ap, if_pos ⟨rfl, rfl⟩, he]
    · show nm_up (nm_up M.1 303 d (zI (n : Nat))) 304 d (zI e.1) 304 d = _
      rw [nm_up_ap, if_pos ⟨rfl, rfl⟩, he]
  have hse : ae n e = (e.1, (n : Int)) → wp (some (nm_up M.1 304 d (zI (n : Nat)), M.2)) (fun M' => eX M' (fun d' k => P d' k ∨ (d' = d ∧ k = n)) dn ∧ eXF M M') := by
    intro he
    refine hfin _ rfl (fun m j x => ?_) ?_ ?_
    · show nm_up M.1 304 d (zI (n : Nat)) m j = _
      rw [nm_up_ap, if_neg (by omega)]
    · show nm_up M.1 304 d (zI (n : Nat)) 303 d = _
      rw [nm_up_ap, if_neg (by omega), he]
      exact b
    · show nm_up M.1 304 d (zI (n : Nat)) 304 d = _
      rw [nm_up_ap, if_pos ⟨rfl, rfl⟩, he]
  have hid : ae n e = e → wp (some M) (fun M' => eX M' (fun d' k => P d' k ∨ (d' = d ∧ k = n)) dn ∧ eXF M M') := fun he => hfin M rfl (fun _ _ _ => rfl) (by rw [he]; exact b) (by rw [he]; exact c)
  unfold f_X2_addEnd
  rw [nm_cz (by omega) (by omega) (by omega), zI_cl (by omega) (by omega), Int.toNat_natCast, nm_l_eq, nm_cz (by omega) (by omega) (by omega), nm_l_eq, b, c, show (-1 : Int32) = zI (-1) from rfl]
  simp (disch := omega) only [zI_eq, zI_le]
  rw [nm_cz (by omega) (by omega) (by omega)]
  simp only [nm_l_eq]
  refine wp_if (fun q1 => hid (by unfold ae; rw [if_pos q1])) (fun q1 => ?_)
  refine wp_if (fun q2 => hid (by unfold ae; rw [if_neg q1, if_pos q2])) (fun q2 => ?_)
  refine wp_if (fun q3 => hj37 (by unfold ae; rw [if_neg q1, if_neg q2, if_pos (by omega)])) (fun q3 => ?_)
  refine wp_if (fun q4 => ?_) (fun q4 => hj37 (by unfold ae; rw [if_neg q1, if_neg q2, if_neg (by omega), if_pos (by omega)]))
  refine wp_if (fun q5 => hse (by unfold ae; rw [if_neg q1, if_neg q2, if_neg (by omega), if_neg (by omega), if_pos (by omega)])) (fun q5 => ?_)
  refine wp_if (fun q6 => hid (by unfold ae; rw [if_neg q1, if_neg q2, if_neg (by omega), if_neg (by omega), if_neg (by omega), if_neg (by omega)])) (fun q6 => hse (by unfold ae; rw [if_neg q1, if_neg q2, if_neg (by omega), if_neg (by omega), if_neg (by omega), if_pos (by omega)]))
theorem w_ends {I : nm_I} {P : Nat → Nat → Prop} {dn d t : Nat} {z : Int} (hdn : dn ≤ 4096) (h : eO I P dn) (hd : d < dn) (ht : t < 65536) (hz : I 59 t = zI z) (z1 : -1 ≤ z) (z2 : z < 65536) :
    wp (f_X12_ends (zI (d : Nat)) (zI (t : Nat)) I) (fun I' => eO I' (fun d' k => P d' k ∨ (d' = d ∧ z = (k : Int))) dn ∧ eOF I I') := by
  obtain ⟨a, e, b, c, f⟩ := h d hd
  obtain ⟨⟨r1, r2⟩, r3, r4⟩ := two_rng f a
  unfold f_X12_ends
  rw [nm_cz (by omega) (by omega) (by omega), zI_cl (by omega) (by omega), Int.toNat_natCast, nm_l_eq, hz, zI_0]
  simp (disch := omega) only [zI_lt]
  refine wp_if (fun q0 => wp_r ⟨eO_congr h (fun d' k _ => ⟨Or.inl, fun q => q.resolve_right (fun q => by omega)⟩), fun _ _ _ _ => rfl⟩) (fun q0 => ?_)
  obtain ⟨n, hn⟩ := Int.eq_ofNat_of_zero_le (show 0 ≤ z by omega)
  subst hn
  have hfin : ∀ I' : nm_I, (∀ m j, ¬ ((m = 64 ∨ m = 65) ∧ j = d) → I' m j = I m j) → I' 64 d = zI (ae n e).1 → I' 65 d = zI (ae n e).2 → wp (some I') (fun I' => eO I' (fun d' k => P d' k ∨ (d' = d ∧ ((n : Nat) : Int) = (k : Int))) dn ∧ eOF I I') := fun I' z2 z3 z4 => wp_r ⟨eO_congr (eO_put (n := n) (d := d) h (by omega) (fun e' y1 y2 y3 => by
    rw [two_un y3 f]
    exact ⟨z3, z4⟩) (fun d' hd' => ⟨z2 _ _ (by omega), z2 _ _ (by omega)⟩)) (fun d' k _ => by
      constructor
      · rintro (q | ⟨q, q2⟩)
        · exact Or.inl q
        · exact Or.inr ⟨q, by omega⟩
      · rintro (q | ⟨q, q2⟩)
        · exact Or.inl q
        · exact Or.inr ⟨q, by omega⟩), fun m j x y => z2 m j (by omega)⟩
  have hj51 : ae n e = ((n : Int), e.1) → wp (f_X12_ends_J51 (zI (d : Nat)) (zI (n : Nat)) I) (fun I' => eO I' (fun d' k => P d' k ∨ (d' = d ∧ ((n : Nat) : Int) = (k : Int))) dn ∧ eOF I I') := by
    intro he
    unfold f_X12_ends_J51
    rw [nm_cz (by omega) (by omega) (by omega), nm_cz (by omega) (by omega) (by omega), zI_cl (by omega) (by omega), Int.toNat_natCast, nm_l_eq, nm_cz (by omega) (by omega) (by omega), nm_l_eq, b]
    refine hfin _ (fun m j x => ?_) ?_ ?_
    · rw [nm_up_ap, if_neg (by omega), nm_up_ap, if_neg (by omega)]
    · rw [nm_up_ap, if_pos ⟨rfl, rfl⟩, he]
    · rw [nm_up_ap, if_neg (by omega), nm_up_ap, if_pos ⟨rfl, rfl⟩, he]
  have hse : ae n e = (e.1, (n : Int)) → wp (some (nm_up I 65 d (zI (n : Nat)))) (fun I' => eO I' (fun d' k => P d' k ∨ (d' = d ∧ ((n : Nat) : Int) = (k : Int))) dn ∧ eOF I I') := by
    intro he
    refine hfin _ (fun m j x => ?_) ?_ ?_
    · rw [nm_up_ap, if_neg (by omega)]
    · rw [nm_up_ap, if_neg (by omega), he]
      exact b
    · rw [nm_up_ap, if_pos ⟨rfl, rfl⟩, he]
  have hid : ae n e = e → wp (some I) (fun I' => eO I' (fun d' k => P d' k ∨ (d' = d ∧ ((n : Nat) : Int) = (k : Int))) dn ∧ eOF I I') := fun he => hfin I (fun _ _ _ => rfl) (by rw [he]; exact b) (by rw [he]; exact c)
  simp (disch := omega) only [nm_cz, zI_cl]
  rw [Int.toNat_natCast, b, c]
  simp (disch := omega) only [zI_eq, zI_le, zI_lt, nm_l_eq]
  refine wp_if (fun q1 => hid (by unfold ae; rw [if_pos q1])) (fun q1 => ?_)
  refine wp_if (fun q2 => hid (by unfold ae; rw [if_neg q1, if_pos q2])) (fun q2 => ?_)
  refine wp_if (fun q3 => hj51 (by unfold ae; rw [if_neg q1, if_neg q2, if_pos (by omega)])) (fun q3 => ?_)
  refine wp_if (fun q4 => ?_) (fun q4 => hj51 (by unfold ae; rw [if_neg q1, if_neg q2, if_neg (by omega), if_pos (by omega)]))
  refine wp_if (fun q5 => hse (by unfold ae; rw [if_neg q1, if_neg q2, if_neg (by omega), if_neg (by omega), if_pos (by omega)])) (fun q5 => ?_)
  refine wp_if (fun q6 => hid (by unfold ae; rw [if_neg q1, if_neg q2, if_neg (by omega), if_neg (by omega), if_neg (by omega), if_neg (by omega)])) (fun q6 => hse (by unfold ae; rw [if_neg q1, if_neg q2, if_neg (by omega), if_neg (by omega), if_neg (by omega), if_pos (by omega)]))
