/-! a made object takes a name -/
theorem mk_P {D : va_G} {cl : List vw_C} {ws : va_W} {H : Heap} : va_P D cl ws H ↔ ∀ x ∈ ws, va_at D cl x H := by
  constructor
  · intro h x hx
    obtain ⟨k, hk⟩ := List.getElem?_of_mem hx
    exact h k x hk
  · intro h k x hk
    exact h x (List.mem_of_getElem? hk)
theorem mk_D {A : Nat → Prop} {ws : va_W} : va_D A ws ↔ (ws.map Prod.fst).Nodup ∧ ∀ x ∈ ws, A x.1 := by
  constructor
  · rintro ⟨h1, h2⟩
    refine ⟨?_, fun x hx => ?_⟩
    · unfold List.Nodup
      rw [List.pairwise_iff_getElem]
      intro i j hi hj hij e
      rw [List.getElem_map, List.getElem_map] at e
      have := h1 i j _ _ (List.getElem?_eq_getElem (by simpa using hi)) (List.getElem?_eq_getElem (by simpa using hj)) e
      omega
    · obtain ⟨k, hk⟩ := List.getElem?_of_mem hx
      exact h2 k x hk
  · rintro ⟨h1, h2⟩
    refine ⟨fun i j p q hi hj e => ?_, fun k x hk => h2 x (List.mem_of_getElem? hk)⟩
    unfold List.Nodup at h1
    rw [List.pairwise_iff_getElem] at h1
    obtain ⟨hi', ei⟩ := List.getElem?_eq_some_iff.mp hi
    obtain ⟨hj', ej⟩ := List.getElem?_eq_some_iff.mp hj
    rcases Nat.lt_trichotomy i j with h | h | h
    · exact absurd (by rw [List.getElem_map, List.getElem_map, ei, ej]; exact e) (h1 i j (by simpa using hi') (by simpa using hj') h)
    · exact h
    · exact absurd (by rw [List.getElem_map, List.getElem_map, ei, ej]; exact e.symm) (h1 j i (by simpa using hj') (by simpa using hi') h)
def mk_fs (ci : Nat) (fi : Nat → Int32) (fj : Nat → Int64) : List Value := (List.range (nm_sz ci)).map (fun k => match nm_sd ci k with
  | 1 => .long (fj k)
  | _ => .int (fi k))
def mk_nl (nl : List Nat) (pz : Nat) : List Nat := nl.filter (fun x => decide (x ≠ pz)) ++ [pz]
theorem mk_sd : ∀ ci, 4 ≤ ci → ci ≤ 6 → ∀ k, k < 9 → nm_sd ci k ≤ 1 := by
  intro ci h1 h2
  have : ci = 4 ∨ ci = 5 ∨ ci = 6 := by omega
  rcases this with rfl | rfl | rfl <;> decide
theorem mk_sz : ∀ ci, 4 ≤ ci → ci ≤ 6 → nm_sz ci ≤ 9 := by
  intro ci h1 h2
  have : ci = 4 ∨ ci = 5 ∨ ci = 6 := by omega
  rcases this with rfl | rfl | rfl <;> decide
theorem mk_fs_eq {ad : Nat → Nat} {C : nm_M} {n ci : Nat} (h1 : 4 ≤ ci) (h2 : ci ≤ 6) : nm_fs ad C n ci = mk_fs ci (C.1 n) (C.2.1 n) := by
  unfold nm_fs mk_fs
  apply List.map_congr_left
  intro k hk
  have hk9 : k < 9 := Nat.lt_of_lt_of_le (List.mem_range.mp hk) (mk_sz ci h1 h2)
  have := mk_sd ci h1 h2 k hk9
  have h01 : nm_sd ci k = 0 ∨ nm_sd ci k = 1 := by omega
  rcases h01 with h | h <;> rw [h] <;> rfl
/-- children of what always is aren't shapes -/
theorem mk_kids : ∀ x ∈ cl_st, x.2 < 20 → ∀ k, k < 14 → nm_sd (x.2 - 1) k < 2 ∨ x.1 + (nm_sd (x.2 - 1) k - 2) < 1010 ∨ (x.1 + (nm_sd (x.2 - 1) k - 2)) % 100 < 10 := by decide +kernel
theorem mk_23 : ∀ x ∈ cl_st, x.2 = 23 → x.1 = 1 := by decide +kernel
theorem mk_24 : ∀ x ∈ cl_st, 24 ≤ x.2 → x.2 = 24 ∧ x.1 % 100 = 1 ∧ 1000 < x.1 := by decide +kernel
theorem mk_max : ∀ x ∈ cl_st, x.2 < 20 → 1 ≤ x.2 ∧ nm_sz (x.2 - 1) ≤ 14 := by decide +kernel
theorem mk_nsh : ∀ x ∈ cl_st, x.1 < 1010 ∨ x.1 % 100 < 10 := by decide +kernel
section MV
variable {D : va_G} {Y : nm_Y} {X : va_W} {nl : List Nat} {ad : Nat → Nat} {A : Nat → Prop} {H0 : Heap}
theorem mk_shp {c i : Nat} (hc : c < 8) (hi : i < 16) : cl_sh (1000 + 100 * c + 10 + i) := ⟨c, i, hc, hi, rfl⟩
theorem mk_other {M : cm} {N K K' : Nat → Nat} {M' : cm} {c i q n : Nat} (hL : cl_L nl K) (hc : c < 8) (hi : i < 16) (hn : n ∈ nl) (hn1 : n ≠ 1000 + 100 * c + 10 + i) (hn2 : n ≠ 1000 + 100 * c + 1) (h1 : M'.1 n = M.1 n) (h2 : M'.2 n = M.2 n) (hK : ∀ x, x ≠ 1000 + 100 * c + 10 + i → K' x = K x) : nm_E Y (va_up ad (1000 + 100 * c + 10 + i) q) (M'.1, M'.2, N, K') n = nm_E Y ad (M.1, M.2, N, K) n := by
  have hKn : K' n = K n := hK n hn1
  -- what the name is
  have hk : (∃ x ∈ cl_st, x.1 = n ∧ x.2 = K n) ∨ (cl_sh n ∧ cl_lf (K n)) := by
    rcases hL.2.1 n hn with h | h
    · obtain ⟨x, hx, e⟩ := List.mem_map.mp h
      refine Or.inl ⟨x, hx, e, ?_⟩
      rw [← e]
      exact (hL.1 x hx).2.symm
    · exact Or.inr h
  have hfs : ∀ ci, K n = ci + 1 → ci < 19 → nm_fs (va_up ad (1000 + 100 * c + 10 + i) q) (M'.1, M'.2, N, K') n ci = nm_fs ad (M.1, M.2, N, K) n ci := by
    intro ci hci hc19
    unfold nm_fs
    apply List.map_congr_left
    intro k hk2
    have hks := List.mem_range.mp hk2
    have hv : nm_sd ci k < 2 ∨ n + (nm_sd ci k - 2) ≠ 1000 + 100 * c + 10 + i := by
      rcases hk with ⟨x, hx, e1, e2⟩ | ⟨h3, h4⟩
      · have hci2 : ci = x.2 - 1 := by omega
        have h14 := mk_max x hx (by omega)
        rw [← hci2] at h14
        have := mk_kids x hx (by omega) k (by omega)
        rw [← hci2, e1] at this
        omega
      · unfold cl_lf at h4
        have h9 := mk_sz ci (by omega) (by omega)
        have := mk_sd ci (by omega) (by omega) k (by omega)
        omega
    match hd : nm_sd ci k, hv with
    | 0, _ =>
      show Value.int (M'.1 n k) = Value.int (M.1 n k)
      rw [h1]
    | 1, _ =>
      show Value.long (M'.2 n k) = Value.long (M.2 n k)
      rw [h2]
    | d + 2, hv =>
      show Value.ref (va_up ad (1000 + 100 * c + 10 + i) q (n + d)) = Value.ref (ad (n + d))
      rw [va_up_ne _ _ (by omega)]
  unfold nm_E
  show (if K' n < 20 then _ else if K' n = 20 then _ else if K' n = 21 then _ else if K' n = 22 then _ else if K' n = 23 then _ else _) = (if K n < 20 then _ else if K n = 20 then _ else if K n = 21 then _ else if K n = 22 then _ else if K n = 23 then _ else _)
  rw [hKn]
  by_cases h20 : K n < 20
  · rw [if_pos h20, if_pos h20]
    have hpos : 1 ≤ K n := by
      rcases hk with ⟨x, hx, e1, e2⟩ | ⟨h3, h4⟩
      · have := (mk_max x hx (by omega)).1
        omega
      · unfold cl_lf at h4
        omega
    show (Sum.inr (K' n - 1, nm_fs (va_up ad (1000 + 100 * c + 10 + i) q) (M'.1, M'.2, N, K') n (K' n - 1)) : va_E) = Sum.inr (K n - 1, nm_fs ad (M.1, M.2, N, K) n (K n - 1))
    rw [hKn, hfs (K n - 1) (by omega) (by omega)]
  rw [if_neg h20, if_neg h20]
  by_cases a : K n = 20
  · rw [if_pos a, if_pos a]
    show (Sum.inl (Y.1, N n, .inl (M'.1 n)) : va_E) = Sum.inl (Y.1, N n, .inl (M.1 n))
    rw [h1]
  rw [if_neg a, if_neg a]
  by_cases b : K n = 21
  · rw [if_pos b, if_pos b]
    show (Sum.inl (Y.2.1, N n, .inr (.inl (M'.2 n))) : va_E) = Sum.inl (Y.2.1, N n, .inr (.inl (M.2 n)))
    rw [h2]
  rw [if_neg b, if_neg b]
  by_cases d : K n = 22
  · rw [if_pos d, if_pos d]
    show (Sum.inl (Y.2.2.1, N n, .inl (M'.1 n)) : va_E) = Sum.inl (Y.2.2.1, N n, .inl (M.1 n))
    rw [h1]
  rw [if_neg d, if_neg d]
  rcases hk with ⟨x, hx, e1, e2⟩ | ⟨h3, h4⟩
  · by_cases f : K n = 23
    · rw [if_pos f, if_pos f]
      have := mk_23 x hx (by omega)
      show (Sum.inl (Y.2.2.2.1, N n, .inr (.inr (.inr (.inr (fun k => if k < 8 then some (va_up ad (1000 + 100 * c + 10 + i) q (n + 999 + 100 * k)) else none))))) : va_E) = Sum.inl (Y.2.2.2.1, N n, .inr (.inr (.inr (.inr (fun k => if k < 8 then some (ad (n + 999 + 100 * k)) else none)))))
      congr 7
      funext k
      by_cases hk8 : k < 8
      · rw [if_pos hk8, if_pos hk8, va_up_ne _ _ (by omega)]
      · rw [if_neg hk8, if_neg hk8]
    · rw [if_neg f, if_neg f]
      obtain ⟨g1, g2, g3⟩ := mk_24 x hx (by omega)
      show (Sum.inl (Y.2.2.2.2, N n, .inr (.inr (.inr (.inr (fun k => if k < 16 ∧ K' (n + 9 + k) ≠ 0 then some (va_up ad (1000 + 100 * c + 10 + i) q (n + 9 + k)) else none))))) : va_E) = Sum.inl (Y.2.2.2.2, N n, .inr (.inr (.inr (.inr (fun k => if k < 16 ∧ K (n + 9 + k) ≠ 0 then some (ad (n + 9 + k)) else none)))))
      congr 7
      funext k
      by_cases hk16 : k < 16
      · rw [hK _ (by omega), va_up_ne _ _ (by omega)]
      · rw [if_neg (fun e => hk16 e.1), if_neg (fun e => hk16 e.1)]
  · unfold cl_lf at h4
    omega
theorem mk_move {M : cm} {N K : Nat → Nat} {H1 : Heap} {locs1 : List Loc} {c i q ci : Nat} {fi : Nat → Int32} {fj : Nat → Int64} (hL : cl_L nl K) (hc : c < 8) (hi : i < 16) (h4 : 4 ≤ ci) (h6 : ci ≤ 6)
    (hP1 : va_P D vwCl ((X ++ [(q, .inr (ci, mk_fs ci fi fj))]) ++ nm_w nl ad (va_up (nm_E Y ad (M.1, M.2, N, K)) (1000 + 100 * c + 1) (.inl (Y.2.2.2.2, N (1000 + 100 * c + 1), .inr (.inr (.inr (.inr (va_up (fun k => if k < 16 ∧ K (1000 + 100 * c + 1 + 9 + k) ≠ 0 then some (ad (1000 + 100 * c + 1 + 9 + k)) else none) i (some q))))))))) H1)
    (hD1 : va_D A ((X ++ [(q, .inr (ci, mk_fs ci fi fj))]) ++ nm_w nl ad (va_up (nm_E Y ad (M.1, M.2, N, K)) (1000 + 100 * c + 1) (.inl (Y.2.2.2.2, N (1000 + 100 * c + 1), .inr (.inr (.inr (.inr (va_up (fun k => if k < 16 ∧ K (1000 + 100 * c + 1 + 9 + k) ≠ 0 then some (ad (1000 + 100 * c + 1 + 9 + k)) else none) i (some q)))))))))) (hS1 : va_S A H0 H1 locs1) :
    nm_H D Y A H0 X (mk_nl nl (1000 + 100 * c + 10 + i)) (va_up ad (1000 + 100 * c + 10 + i) q) (va_up M.1 (1000 + 100 * c + 10 + i) fi, va_up M.2 (1000 + 100 * c + 10 + i) fj, N, va_up K (1000 + 100 * c + 10 + i) (ci + 1)) H1 locs1 ∧ cl_L (mk_nl nl (1000 + 100 * c + 10 + i)) (va_up K (1000 + 100 * c + 10 + i) (ci + 1)) := by
  obtain ⟨pz, hpz⟩ : ∃ pz, pz = 1000 + 100 * c + 10 + i := ⟨_, rfl⟩
  -- the names' entries
  have hE : ∀ n, n ∈ nl → n ≠ pz → (va_up ad pz q n, nm_E Y (va_up ad pz q) (va_up M.1 pz fi, va_up M.2 pz fj, N, va_up K pz (ci + 1)) n) = (ad n, va_up (nm_E Y ad (M.1, M.2, N, K)) (1000 + 100 * c + 1) (.inl (Y.2.2.2.2, N (1000 + 100 * c + 1), .inr (.inr (.inr (.inr (va_up (fun k => if k < 16 ∧ K (1000 + 100 * c + 1 + 9 + k) ≠ 0 then some (ad (1000 + 100 * c + 1 + 9 + k)) else none) i (some q))))))) n) := by
    intro n hn hnp
    rw [va_up_ne _ _ hnp]
    by_cases hn2 : n = 1000 + 100 * c + 1
    · rw [hn2, va_up_self]
      have hK24 : K (1000 + 100 * c + 1) = 24 := by
        have hc8 : c = 0 ∨ c = 1 ∨ c = 2 ∨ c = 3 ∨ c = 4 ∨ c = 5 ∨ c = 6 ∨ c = 7 := by omega
        rcases hc8 with rfl | rfl | rfl | rfl | rfl | rfl | rfl | rfl <;> exact (hL.1 (_, 24) (by decide)).2
      rw [nm_E_S (C := (va_up M.1 pz fi, va_up M.2 pz fj, N, va_up K pz (ci + 1))) (show va_up K pz (ci + 1) (1000 + 100 * c + 1) = 24 by rw [va_up_ne _ _ (by omega)]; exact hK24)]
      show (ad (1000 + 100 * c + 1), (Sum.inl (Y.2.2.2.2, N (1000 + 100 * c + 1), .inr (.inr (.inr (.inr (fun k => if k < 16 ∧ va_up K pz (ci + 1) (1000 + 100 * c + 1 + 9 + k) ≠ 0 then some (va_up ad pz q (1000 + 100 * c + 1 + 9 + k)) else none))))) : va_E)) = _
      congr 8
      funext k
      by_cases hki : k = i
      · rw [hki, va_up_self, show 1000 + 100 * c + 1 + 9 + i = pz by omega, va_up_self, va_up_self, if_pos ⟨hi, by omega⟩]
      · rw [va_up_ne _ _ hki]
        by_cases hk16 : k < 16
        · rw [va_up_ne _ _ (show 1000 + 100 * c + 1 + 9 + k ≠ pz by omega), va_up_ne _ _ (show 1000 + 100 * c + 1 + 9 + k ≠ pz by omega)]
        · rw [if_neg (fun e => hk16 e.1), if_neg (fun e => hk16 e.1)]
    · rw [va_up_ne _ _ hn2]
      subst hpz
      rw [mk_other (M' := (va_up M.1 (1000 + 100 * c + 10 + i) fi, va_up M.2 (1000 + 100 * c + 10 + i) fj)) hL hc hi hn hnp hn2 (va_up_ne _ _ hnp) (va_up_ne _ _ hnp) (fun x hx => va_up_ne _ _ hx)]
  have hEp : nm_E Y (va_up ad pz q) (va_up M.1 pz fi, va_up M.2 pz fj, N, va_up K pz (ci + 1)) pz = .inr (ci, mk_fs ci fi fj) := by
    rw [nm_E_obj (C := (va_up M.1 pz fi, va_up M.2 pz fj, N, va_up K pz (ci + 1))) (ci := ci) (va_up_self _ _ _) (by omega), mk_fs_eq h4 h6]
    show (Sum.inr (ci, mk_fs ci (va_up M.1 pz fi pz) (va_up M.2 pz fj pz)) : va_E) = _
    rw [va_up_self, va_up_self]
  rw [← hpz]
  rw [mk_P] at hP1
  rw [mk_D] at hD1
  obtain ⟨hN1, hA1⟩ := hD1
  have hmem : ∀ x, x ∈ nm_W Y X (mk_nl nl pz) (va_up ad pz q) (va_up M.1 pz fi, va_up M.2 pz fj, N, va_up K pz (ci + 1)) → x ∈ (X ++ [(q, .inr (ci, mk_fs ci fi fj))]) ++ nm_w nl ad (va_up (nm_E Y ad (M.1, M.2, N, K)) (1000 + 100 * c + 1) (.inl (Y.2.2.2.2, N (1000 + 100 * c + 1), .inr (.inr (.inr (.inr (va_up (fun k => if k < 16 ∧ K (1000 + 100 * c + 1 + 9 + k) ≠ 0 then some (ad (1000 + 100 * c + 1 + 9 + k)) else none) i (some q)))))))) := by
    intro x hx
    unfold nm_W at hx
    rcases List.mem_append.mp hx with h | h
    · exact List.mem_append_left _ (List.mem_append_left _ h)
    · unfold nm_w mk_nl at h
      rw [List.map_append] at h
      rcases List.mem_append.mp h with h | h
      · obtain ⟨n, hn, e⟩ := List.mem_map.mp h
        obtain ⟨hn1, hn2⟩ := List.mem_filter.mp hn
        rw [hE n hn1 (of_decide_eq_true hn2)] at e
        exact List.mem_append_right _ (List.mem_map.mpr ⟨n, hn1, e⟩)
      · obtain ⟨n, hn, e⟩ := List.mem_map.mp h
        have hnp : n = pz := by simpa using hn
        rw [hnp, va_up_self, hEp] at e
        rw [← e]
        exact List.mem_append_left _ (List.mem_append_right _ (List.mem_singleton.mpr rfl))
  refine ⟨⟨mk_P.mpr fun x hx => hP1 x (hmem x hx), mk_D.mpr ⟨?_, fun x hx => hA1 x (hmem x hx)⟩, hS1⟩, ?_, ?_, ?_⟩
  · have hmap : (nm_W Y X (mk_nl nl pz) (va_up ad pz q) (va_up M.1 pz fi, va_up M.2 pz fj, N, va_up K pz (ci + 1))).map Prod.fst = X.map Prod.fst ++ ((nl.filter (fun x => decide (x ≠ pz))).map ad ++ [q]) := by
      unfold nm_W nm_w mk_nl
      rw [List.map_append, List.map_map, List.map_append]
      congr 2
      · apply List.map_congr_left
        intro n hn
        have := of_decide_eq_true (List.mem_filter.mp hn).2
        exact va_up_ne _ _ this
      · show [va_up ad pz q pz] = [q]
        rw [va_up_self]
    have hold : ∀ E' : Nat → va_E, (((X ++ [(q, (Sum.inr (ci, mk_fs ci fi fj) : va_E))]) ++ nm_w nl ad E').map Prod.fst) = X.map Prod.fst ++ ([q] ++ nl.map ad) := fun E' => by
      unfold nm_w
      rw [List.map_append, List.map_append, List.map_map, List.append_assoc]
      rfl
    rw [hold] at hN1
    rw [hmap]
    rw [List.nodup_append] at hN1 ⊢
    obtain ⟨b1, b2, b3⟩ := hN1
    rw [List.nodup_append] at b2
    obtain ⟨b4, b5, b6⟩ := b2
    have hsub : ((nl.filter (fun x => decide (x ≠ pz))).map ad).Sublist (nl.map ad) := List.Sublist.map _ List.filter_sublist
    refine ⟨b1, ?_, ?_⟩
    · rw [List.nodup_append]
      refine ⟨b5.sublist hsub, b4, fun a ha b hb => ?_⟩
      exact fun e => b6 b hb a (hsub.subset ha) e.symm
    · intro a ha b hb
      rcases List.mem_append.mp hb with hb | hb
      · exact b3 a ha b (List.mem_append_right _ (hsub.subset hb))
      · exact b3 a ha b (List.mem_append_left _ hb)
  · intro x hx
    have hne : x.1 ≠ pz := by
      have := mk_nsh x hx
      omega
    obtain ⟨a1, a2⟩ := hL.1 x hx
    refine ⟨List.mem_append_left _ (List.mem_filter.mpr ⟨a1, decide_eq_true hne⟩), ?_⟩
    rw [va_up_ne _ _ hne]
    exact a2
  · intro x hx
    rcases List.mem_append.mp hx with hx | hx
    · obtain ⟨a1, a2⟩ := List.mem_filter.mp hx
      rw [va_up_ne _ _ (of_decide_eq_true a2)]
      exact hL.2.1 x a1
    · have hxp : x = pz := by simpa using hx
      rw [hxp, va_up_self]
      exact Or.inr ⟨by rw [hpz]; exact mk_shp hc hi, by unfold cl_lf; omega⟩
  · intro x hx
    by_cases hxp : x = pz
    · rw [hxp, va_up_self]
      exact Or.inr ⟨by unfold cl_lf; omega, List.mem_append_right _ (List.mem_singleton.mpr rfl)⟩
    · rw [va_up_ne _ _ hxp]
      rcases hL.2.2 x hx with h | ⟨h1, h2⟩
      · exact Or.inl h
      · exact Or.inr ⟨h1, List.mem_append_left _ (List.mem_filter.mpr ⟨h2, decide_eq_true hxp⟩)⟩
end MV
