/-! calls that make arrays: what they cost stands against what the arrays have grown -/
def pt (N : Nat → Nat) : Nat := (cl_dy.map N).sum
def wc {α : Type} (f : α → Nat → Nat) (x : Option (α × Nat × Nat)) (N0 : Nat → Nat) (P : α → Prop) : Prop := ∃ a dc ds, x = some (a, dc, ds) ∧ dc ≤ ds ∧ ds + 2 * pt N0 ≤ 2 * pt (f a) ∧ P a
def sN (S : ca) : Nat → Nat := S.2
def iN (a : Int32 × ca) : Nat → Nat := a.2.2
theorem wc_r {S : ca} {P : ca → Prop} (h : P S) : wc sN (some (S, 0, 0)) S.2 P := ⟨S, 0, 0, rfl, Nat.le_refl _, by simp [sN], h⟩
theorem wc_ri {r : Int32} {S : ca} {P : Int32 × ca → Prop} (h : P (r, S)) : wc iN (some ((r, S), 0, 0)) S.2 P := ⟨(r, S), 0, 0, rfl, Nat.le_refl _, by simp [iN], h⟩
theorem wc_m {α : Type} {f : α → Nat → Nat} {x : Option (α × Nat × Nat)} {N0 : Nat → Nat} {P Q : α → Prop} (h : wc f x N0 P) (hp : ∀ a, P a → Q a) : wc f x N0 Q := by
  obtain ⟨a, dc, ds, e, h1, h2, h3⟩ := h
  exact ⟨a, dc, ds, e, h1, h2, hp a h3⟩
theorem wc_a1 {α β : Type} {f : α → Nat → Nat} {g : β → Nat → Nat} {x : Option (α × Nat × Nat)} {K : α → Option (β × Nat × Nat)} {N0 : Nat → Nat} {P : β → Prop} (Q : α → Prop) (h : wc f x N0 Q) (hk : ∀ a, Q a → wc g (K a) (f a) P) : wc g (nm_a1 x K) N0 P := by
  obtain ⟨a, dc, ds, e, h1, h2, h3⟩ := h
  obtain ⟨b, dc2, ds2, e2, h4, h5, h6⟩ := hk a h3
  refine ⟨b, dc + dc2, ds + ds2, ?_, by omega, by omega, h6⟩
  subst e
  simp [nm_a1, e2]
theorem wc_a2 {α1 α2 β : Type} {f : α1 × α2 → Nat → Nat} {g : β → Nat → Nat} {x : Option ((α1 × α2) × Nat × Nat)} {K : α1 → α2 → Option (β × Nat × Nat)} {N0 : Nat → Nat} {P : β → Prop} (Q : α1 × α2 → Prop) (h : wc f x N0 Q) (hk : ∀ a b, Q (a, b) → wc g (K a b) (f (a, b)) P) : wc g (nm_a2 x K) N0 P := wc_a1 Q h (fun a ha => hk a.1 a.2 ha)
theorem wc_s1 {α β : Type} {g : β → Nat → Nat} {x : Option α} {K : α → Option (β × Nat × Nat)} {N0 : Nat → Nat} {P : β → Prop} (Q : α → Prop) (h : wp x Q) (hk : ∀ a, Q a → wc g (K a) N0 P) : wc g (nm_s1 x K) N0 P := by
  obtain ⟨a, e, h⟩ := h
  subst e
  exact hk a h
theorem wc_s2 {α1 α2 β : Type} {g : β → Nat → Nat} {x : Option (α1 × α2)} {K : α1 → α2 → Option (β × Nat × Nat)} {N0 : Nat → Nat} {P : β → Prop} (Q : α1 × α2 → Prop) (h : wp x Q) (hk : ∀ a b, Q (a, b) → wc g (K a b) N0 P) : wc g (nm_s2 x K) N0 P := by
  obtain ⟨a, e, h⟩ := h
  subst e
  exact hk a.1 a.2 h
theorem wc_if {α : Type} {f : α → Nat → Nat} {c : Prop} [Decidable c] {a b : Option (α × Nat × Nat)} {N0 : Nat → Nat} {P : α → Prop} (h1 : c → wc f a N0 P) (h2 : ¬ c → wc f b N0 P) : wc f (if c then a else b) N0 P := by
  by_cases h : c
  · rw [if_pos h]
    exact h1 h
  · rw [if_neg h]
    exact h2 h
def cap (n : Nat) : Nat := if n = 316 then 131072 else 8192
def cO (N : Nat → Nat) : Prop := cl_N N ∧ ∀ n ∈ cl_dy, N n ≤ cap n
theorem pt_list (N : Nat → Nat) (n L : Nat) : ∀ l : List Nat, n ∉ l → (l.map (va_up N n L)).sum = (l.map N).sum := by
  intro l
  induction l with
  | nil => intro _; rfl
  | cons a l ih =>
    intro h
    simp only [List.mem_cons, not_or] at h
    simp only [List.map_cons, List.sum_cons]
    rw [ih h.2, va_up_ne _ _ (fun e => h.1 e.symm)]
theorem pt_list2 (N : Nat → Nat) (n L : Nat) : ∀ l : List Nat, l.Nodup → n ∈ l → (l.map (va_up N n L)).sum + N n = (l.map N).sum + L := by
  intro l
  induction l with
  | nil => intro _ h; exact absurd h (by simp)
  | cons a l ih =>
    intro hn h
    simp only [List.nodup_cons] at hn
    simp only [List.map_cons, List.sum_cons]
    by_cases e : a = n
    · subst e
      rw [pt_list N a L l hn.1, va_up_self]
      omega
    · rw [va_up_ne _ _ e]
      have h2 : n ∈ l := by
        rcases List.mem_cons.mp h with h | h
        · exact absurd h.symm e
        · exact h
      have := ih hn.2 h2
      omega
theorem pt_up (N : Nat → Nat) {n : Nat} (L : Nat) (h : n ∈ cl_dy) : pt (va_up N n L) + N n = pt N + L := pt_list2 N n L cl_dy (by decide) h
theorem cap_le (n : Nat) : cap n ≤ 131072 := by
  unfold cap
  split <;> omega
/-- an array that is grown, if need be -/
theorem w_grow {n : Nat} (hn : n ∈ cl_dy) {m : Nat} (hm : 2 * m ≤ cap n) {S : ca} (hc : cO S.2) : wc sN (cl_grow n (zI m) S) S.2 (fun S' => m ≤ S'.2 n ∧ cO S'.2 ∧ (∀ x, x ≠ n → S'.2 x = S.2 x) ∧ S'.1.2 = S.1.2 ∧ ∀ x, x ≠ n → S'.1.1 x = S.1.1 x) := by
  have h1 := hc.2 n hn
  have h2 := cap_le n
  unfold cl_grow
  rw [zI_nI]
  simp (disch := omega) only [zI_lt]
  by_cases h : ((S.2 n : Nat) : Int) < m
  · rw [if_pos h]
    have e : cl_gl S.2 n (zI m) = zI ((max m (2 * S.2 n) : Nat) : Int) := by
      unfold cl_gl
      rw [zI_nI, zI_lit, zI_mul, nm_maxZ (by omega) (by omega) (by omega) (by omega)]
      congr 1
      omega
    rw [e, zI_ti (by omega) (by omega), if_pos ⟨by omega, by omega⟩, zI_cl (by omega) (by omega)]
    have e2 : ((max m (2 * S.2 n) : Nat) : Int).toNat = max m (2 * S.2 n) := rfl
    rw [e2]
    have hp := pt_up S.2 (max m (2 * S.2 n)) hn
    refine ⟨_, _, _, rfl, by omega, ?_, ?_, ?_, ?_, rfl, ?_⟩
    · show _ ≤ 2 * pt (va_up S.2 n (max m (2 * S.2 n)))
      omega
    · show m ≤ va_up S.2 n (max m (2 * S.2 n)) n
      rw [va_up_self]
      omega
    · refine ⟨cl_ndy hc.1 hn, fun x hx => ?_⟩
      show va_up S.2 n (max m (2 * S.2 n)) x ≤ cap x
      by_cases hxn : x = n
      · subst hxn
        rw [va_up_self]
        omega
      · rw [va_up_ne _ _ hxn]
        exact hc.2 x hx
    · intro x hx
      exact va_up_ne _ _ hx
    · intro x hx
      exact va_up_ne _ _ hx
  · rw [if_neg h]
    exact wc_r ⟨by omega, hc, fun _ _ => rfl, rfl, fun _ _ => rfl⟩
/-! Arrays.fill -/
theorem w_fillI {a : Nat} {N : Nat → Nat} (hN : N a ≤ 1000000 - 1) {v : Int32} {M : cm} : f_J7_fill_53178 a N v M = some (va_up M.1 a (fun j => if j < N a then v else M.1 a j), M.2) := by
  apply wp_eq
  unfold f_J7_fill_53178
  simp only [nm_l_eq]
  refine wp_s1 (fun M' => M' = (va_up M.1 a (fun j => if j < N a then v else M.1 a j), M.2)) ?_ (fun M' h => wp_r h)
  rw [zI_nI, zI_lit]
  refine lpc (fun f => f_J7_fill_53178_L5 a N v (zI (N a)) f) _ (N a) (fun k M' => 0 ≤ k ∧ M' = (va_up M.1 a (fun j => if (j : Int) < k then v else M.1 a j), M.2)) ?_ ?_ nm_F 0 M (by omega) (by rw [nm_F_eq]; omega) ⟨by omega, ?_⟩
  · rintro f k M' hk ⟨h0, rfl⟩ hn
    show wp (f_J7_fill_53178_L5 a N v (zI (N a)) (f + 1) _ _) _
    rw [f_J7_fill_53178_L5]
    simp (disch := omega) only [zI_le, zI_lit, zI_add, nm_cz, zI_cl, nm_l_eq]
    rw [if_neg (by omega)]
    refine hn _ ⟨by omega, ?_⟩
    congr 1
    funext m j
    rw [nm_up_ap]
    by_cases hm : m = a
    · subst hm
      rw [va_up_self, va_up_self]
      by_cases hj : j = k.toNat
      · subst hj
        rw [if_pos ⟨rfl, rfl⟩, if_pos (by omega)]
      · rw [if_neg (fun h => hj h.2)]
        by_cases h1 : (j : Int) < k
        · rw [if_pos h1, if_pos (by omega)]
        · rw [if_neg h1, if_neg (by omega)]
    · rw [if_neg (fun h => hm h.1), va_up_ne _ _ hm, va_up_ne _ _ hm]
  · rintro f M' ⟨h0, rfl⟩
    show wp (f_J7_fill_53178_L5 a N v (zI (N a)) (f + 1) _ _) _
    rw [f_J7_fill_53178_L5]
    simp (disch := omega) only [zI_le, Int.le_refl, if_true]
    refine wp_r ?_
    congr 2
    funext j
    by_cases h : j < N a
    · rw [if_pos h, if_pos (by omega)]
    · rw [if_neg h, if_neg (by omega)]
  · have e : (fun j : Nat => if (j : Int) < 0 then v else M.1 a j) = M.1 a := by
      funext j
      rw [if_neg (by omega)]
    rw [e]
    have e2 : va_up M.1 a (M.1 a) = M.1 := by
      funext m
      unfold va_up
      split
      · next h => rw [h]
      · rfl
    rw [e2]
