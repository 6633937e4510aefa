/-! THE WISH: one search, told once for both -/
abbrev wsT : Type := Nat → Nat × Nat × Nat × Nat
abbrev rsT : Type := Nat × List Nat × Nat
noncomputable def b1q (w : Nat) (z : Int) (pf : Nat → Int) : Bool := bP (pf w = z ∨ (pf w = -1 ∧ ∀ i, i < 24 → pf i ≠ z))
noncomputable def b2q (w : Nat) (z : Int) (pf : Nat → Int) (j : Nat) : Int := if b1q w z pf = true ∧ j = w then z else pf j
def wA (ws : wsT) (c : Nat) : Nat × Nat × Nat := ((ws (c / 2)).1, if c % 2 = 1 then (ws (c / 2)).2.2.1 else (ws (c / 2)).2.1, if c % 2 = 1 then (ws (c / 2)).2.1 else (ws (c / 2)).2.2.1)
noncomputable def p1q (dev : dvT) (ws : wsT) (d c : Nat) (pf : Nat → Int) : Nat → Int := b2q (wA ws c).1 (dev d).2.1 pf
noncomputable def p2q (dev : dvT) (ws : wsT) (d c : Nat) (pf : Nat → Int) : Nat → Int := b2q (wA ws c).2.1 (dev d).2.2.1 (p1q dev ws d c pf)
noncomputable def p3q (dev : dvT) (ws : wsT) (d c : Nat) (pf : Nat → Int) : Nat → Int := b2q (wA ws c).2.2 (dev d).2.2.2 (p2q dev ws d c pf)
noncomputable def pfA (dev : dvT) (ws : wsT) : List Nat → Nat → Int
  | [] => fun _ => -1
  | c :: rs => p3q dev ws rs.length c (pfA dev ws rs)
def szA (dev : dvT) (ws : wsT) (d c : Nat) : Prop := (ws (c / 2)).2.2.2 = 0 ∨ (ws (c / 2)).2.2.2 = (dev d).1
def okW (dev : dvT) (ws : wsT) (d c : Nat) (pf : Nat → Int) : Prop := szA dev ws d c ∧ b1q (wA ws c).1 (dev d).2.1 pf = true ∧ b1q (wA ws c).2.1 (dev d).2.2.1 (p1q dev ws d c pf) = true ∧ b1q (wA ws c).2.2 (dev d).2.2.2 (p2q dev ws d c pf) = true
noncomputable def okA (dev : dvT) (ws : wsT) (rs : List Nat) (c : Nat) : Bool := bP (okW dev ws rs.length c (pfA dev ws rs))
def tkA : List Nat → Nat → Bool
  | [], _ => false
  | e :: rs, i => decide (e / 2 = i) || tkA rs i
def chA : List Nat → Nat → Nat
  | [], _ => 0
  | c :: rs, j => if j = rs.length then c else chA rs j
def srI (ok tk : Nat → Bool) (rc : Nat → Nat → rsT) : Nat → Nat → Nat → rsT
  | 0, _, t => (0, [], t)
  | m + 1, k, t => if tk (k / 2) = true then srI ok tk rc m (k + 1) t else if 5000 ≤ t then (2, [], t) else if ok k = true then (if (rc k (t + 1)).1 = 0 then srI ok tk rc m (k + 1) (rc k (t + 1)).2.2 else rc k (t + 1)) else srI ok tk rc m (k + 1) (t + 1)
noncomputable def srT (dev : dvT) (ws : wsT) (n : Nat) : Nat → List Nat → Nat → rsT
  | 0, rs, t => (1, rs, t)
  | d + 1, rs, t => srI (okA dev ws rs) (tkA rs) (fun c t' => srT dev ws n d (c :: rs) t') (2 * n) 0 t
/-- from choice k on, at the device behind rs -/
noncomputable def srK (dev : dvT) (ws : wsT) (n : Nat) (rs : List Nat) (k t : Nat) : rsT := srI (okA dev ws rs) (tkA rs) (fun c t' => srT dev ws n (n - (rs.length + 1)) (c :: rs) t') (2 * n - k) k t
theorem srT_K (dev : dvT) (ws : wsT) (n : Nat) (rs : List Nat) (t : Nat) (h : rs.length < n) : srT dev ws n (n - rs.length) rs t = srK dev ws n rs 0 t := by
  rw [show n - rs.length = (n - (rs.length + 1)) + 1 by omega]
  rfl
/-- what comes in the end, where it stands so at rs -/
noncomputable def srW (dev : dvT) (ws : wsT) (n : Nat) : List Nat → rsT → rsT
  | [], r => r
  | c :: rs, r => if r.1 = 0 then srW dev ws n rs (srK dev ws n rs (c + 1) r.2.2) else r
theorem srW_pos {dev : dvT} {ws : wsT} {n : Nat} : ∀ (rs : List Nat) {r : rsT}, r.1 ≠ 0 → srW dev ws n rs r = r := by
  intro rs
  cases rs with
  | nil => intro r _; rfl
  | cons c rs =>
    intro r h
    show (if r.1 = 0 then _ else r) = r
    rw [if_neg h]
theorem srW_zero {dev : dvT} {ws : wsT} {n c : Nat} {rs : List Nat} {r : rsT} (h : r.1 = 0) : srW dev ws n (c :: rs) r = srW dev ws n rs (srK dev ws n rs (c + 1) r.2.2) := by
  show (if r.1 = 0 then _ else r) = _
  rw [if_pos h]
section
variable {dev : dvT} {ws : wsT} {n : Nat} {rs : List Nat} {k t : Nat}
theorem srK_end (h : 2 * n ≤ k) : srK dev ws n rs k t = (0, [], t) := by
  unfold srK
  rw [show 2 * n - k = 0 by omega]
  rfl
theorem srK_step (h : k < 2 * n) : srK dev ws n rs k t = if tkA rs (k / 2) = true then srK dev ws n rs (k + 1) t else if 5000 ≤ t then (2, [], t) else if okA dev ws rs k = true then (if (srT dev ws n (n - (rs.length + 1)) (k :: rs) (t + 1)).1 = 0 then srK dev ws n rs (k + 1) (srT dev ws n (n - (rs.length + 1)) (k :: rs) (t + 1)).2.2 else srT dev ws n (n - (rs.length + 1)) (k :: rs) (t + 1)) else srK dev ws n rs (k + 1) (t + 1) := by
  unfold srK
  rw [show 2 * n - k = (2 * n - (k + 1)) + 1 by omega]
  rfl
/-- a choice that goes: on at the next device -/
theorem srW_go (hn : rs.length + 1 < n) (h : k < 2 * n) (h1 : tkA rs (k / 2) = false) (h2 : t < 5000) (h3 : okA dev ws rs k = true) : srW dev ws n rs (srK dev ws n rs k t) = srW dev ws n (k :: rs) (srK dev ws n (k :: rs) 0 (t + 1)) := by
  have e : srT dev ws n (n - (rs.length + 1)) (k :: rs) (t + 1) = srK dev ws n (k :: rs) 0 (t + 1) := srT_K dev ws n (k :: rs) (t + 1) hn
  rw [srK_step h, if_neg (by rw [h1]; decide), if_neg (by omega), if_pos h3, e]
  by_cases hz : (srK dev ws n (k :: rs) 0 (t + 1)).1 = 0
  · rw [if_pos hz, srW_zero hz]
  · rw [if_neg hz, srW_pos _ hz, srW_pos _ hz]
theorem srW_last (hn : rs.length + 1 = n) (h : k < 2 * n) (h1 : tkA rs (k / 2) = false) (h2 : t < 5000) (h3 : okA dev ws rs k = true) : srW dev ws n rs (srK dev ws n rs k t) = (1, k :: rs, t + 1) := by
  have e : srT dev ws n (n - (rs.length + 1)) (k :: rs) (t + 1) = (1, k :: rs, t + 1) := by
    rw [show n - (rs.length + 1) = 0 by omega]
    rfl
  rw [srK_step h, if_neg (by rw [h1]; decide), if_neg (by omega), if_pos h3, e, if_neg (show ¬ (1 : Nat) = 0 by decide), srW_pos _ (show (1 : Nat) ≠ 0 by decide)]
theorem srW_all (hn : 0 < n) : srW dev ws n [] (srK dev ws n [] 0 0) = srT dev ws n n [] 0 := (srT_K dev ws n [] 0 hn).symm
end
/-- what a search's list holds: choices that went, n of them -/
def gLs (dev : dvT) (ws : wsT) (n : Nat) : List Nat → Prop
  | [] => True
  | c :: rs => gLs dev ws n rs ∧ c < 2 * n ∧ tkA rs (c / 2) = false ∧ okA dev ws rs c = true
theorem chA_lt {dev : dvT} {ws : wsT} {n : Nat} : ∀ {rs : List Nat}, gLs dev ws n rs → ∀ j, j < rs.length → chA rs j < 2 * n := by
  intro rs
  induction rs with
  | nil => intro _ j hj; exact absurd hj (Nat.not_lt_zero _)
  | cons c rs ih =>
    intro h j hj
    show (if j = rs.length then c else chA rs j) < 2 * n
    by_cases hjl : j = rs.length
    · rw [if_pos hjl]
      exact h.2.1
    · rw [if_neg hjl]
      exact ih h.1 j (by
        have : (c :: rs).length = rs.length + 1 := rfl
        omega)
theorem srI_good {ok tk : Nat → Bool} {rc : Nat → Nat → rsT} {G : List Nat → Prop} {n : Nat} (h : ∀ k t, k < 2 * n → tk (k / 2) = false → ok k = true → (rc k t).1 ≤ 2 ∧ ((rc k t).1 = 1 → G (rc k t).2.1) ∧ (t ≤ 5000 → (rc k t).2.2 ≤ 5000 ∧ t ≤ (rc k t).2.2)) : ∀ m k t, k + m = 2 * n → (srI ok tk rc m k t).1 ≤ 2 ∧ ((srI ok tk rc m k t).1 = 1 → G (srI ok tk rc m k t).2.1) ∧ (t ≤ 5000 → (srI ok tk rc m k t).2.2 ≤ 5000 ∧ t ≤ (srI ok tk rc m k t).2.2) := by
  intro m
  induction m with
  | zero => intro k t _; exact ⟨Nat.zero_le _, fun h => absurd h (show ¬ (0 : Nat) = 1 by decide), fun h => ⟨h, Nat.le_refl _⟩⟩
  | succ m ih =>
    intro k t hk
    rw [srI]
    by_cases h1 : tk (k / 2) = true
    · rw [if_pos h1]
      exact ih (k + 1) t (by omega)
    rw [if_neg h1]
    by_cases h2 : 5000 ≤ t
    · rw [if_pos h2]
      exact ⟨Nat.le_refl _, fun h => absurd h (show ¬ (2 : Nat) = 1 by decide), fun h => ⟨h, Nat.le_refl _⟩⟩
    rw [if_neg h2]
    by_cases h3 : ok k = true
    · rw [if_pos h3]
      obtain ⟨a, b, c⟩ := h k (t + 1) (by omega) (by simpa using h1) h3
      obtain ⟨c1, c2⟩ := c (by omega)
      by_cases h4 : (rc k (t + 1)).1 = 0
      · rw [if_pos h4]
        obtain ⟨x, y, z⟩ := ih (k + 1) (rc k (t + 1)).2.2 (by omega)
        obtain ⟨z1, z2⟩ := z c1
        exact ⟨x, y, fun _ => ⟨z1, by omega⟩⟩
      · rw [if_neg h4]
        exact ⟨a, b, fun _ => ⟨c1, by omega⟩⟩
    · rw [if_neg h3]
      obtain ⟨x, y, z⟩ := ih (k + 1) (t + 1) (by omega)
      obtain ⟨z1, z2⟩ := z (by omega)
      exact ⟨x, y, fun _ => ⟨z1, by omega⟩⟩
theorem srT_good {dev : dvT} {ws : wsT} {n : Nat} : ∀ d rs t, rs.length + d = n → gLs dev ws n rs → (srT dev ws n d rs t).1 ≤ 2 ∧ ((srT dev ws n d rs t).1 = 1 → gLs dev ws n (srT dev ws n d rs t).2.1 ∧ (srT dev ws n d rs t).2.1.length = n) ∧ (t ≤ 5000 → (srT dev ws n d rs t).2.2 ≤ 5000 ∧ t ≤ (srT dev ws n d rs t).2.2) := by
  intro d
  induction d with
  | zero => intro rs t h1 h2; exact ⟨show (1 : Nat) ≤ 2 by decide, fun _ => ⟨h2, h1⟩, fun h => ⟨h, Nat.le_refl _⟩⟩
  | succ d ih =>
    intro rs t h1 h2
    rw [srT]
    exact srI_good (G := fun l => gLs dev ws n l ∧ l.length = n) (fun k t' hk htk hok => ih (k :: rs) t' (by show rs.length + 1 + d = n; omega) ⟨h2, hk, htk, hok⟩) (2 * n) 0 t (by omega)
