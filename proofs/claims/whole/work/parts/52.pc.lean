/-! what hangs together; links to lesser ones -/
def Cn (A : Nat → Nat → Prop) (p q : Nat) : Prop := ∀ S : Nat → Prop, (∀ a b, A a b → (S a ↔ S b)) → (S p ↔ S q)
theorem Cn_rf {A : Nat → Nat → Prop} (p : Nat) : Cn A p p := fun _ _ => Iff.rfl
theorem Cn_sy {A : Nat → Nat → Prop} {p q : Nat} (h : Cn A p q) : Cn A q p := fun S hS => (h S hS).symm
theorem Cn_tr {A : Nat → Nat → Prop} {p q r : Nat} (h : Cn A p q) (h2 : Cn A q r) : Cn A p r := fun S hS => (h S hS).trans (h2 S hS)
theorem Cn_of {A : Nat → Nat → Prop} {p q : Nat} (h : A p q) : Cn A p q := fun _ hS => hS p q h
theorem Cn_fn {α : Type} {A : Nat → Nat → Prop} {p q : Nat} (f : Nat → α) (h : ∀ a b, A a b → f a = f b) (hc : Cn A p q) : f p = f q :=
  ((hc (fun x => f p = f x) (fun a b hab => by rw [h a b hab])).mp rfl)
theorem Cn_set {A : Nat → Nat → Prop} {p q : Nat} (S : Nat → Prop) (h : ∀ a b, A a b → (S a ↔ S b)) (hc : Cn A p q) (hp : S p) : S q := (hc S h).mp hp
def rp (lk : Nat → Nat) : Nat → Nat → Nat
  | 0, i => i
  | f + 1, i => if lk i = i then i else rp lk f (lk i)
def rt (lk : Nat → Nat) (i : Nat) : Nat := rp lk i i
def dn (lk : Nat → Nat) : Prop := ∀ i, lk i ≤ i
theorem rp_fix {lk : Nat → Nat} {i : Nat} (h : lk i = i) (f : Nat) : rp lk f i = i := by
  cases f with
  | zero => rfl
  | succ f => simp [rp, h]
theorem rp_en {lk : Nat → Nat} (hd : dn lk) : ∀ i f, i ≤ f → rp lk f i = rt lk i := by
  intro i
  induction i using Nat.strongRecOn with
  | ind i ih =>
    intro f hf
    by_cases h : lk i = i
    · rw [rt, rp_fix h, rp_fix h]
    · have hl := hd i
      obtain ⟨f', rfl⟩ : ∃ f', f = f' + 1 := ⟨f - 1, by omega⟩
      obtain ⟨i', hi'⟩ : ∃ i', i = i' + 1 := ⟨i - 1, by omega⟩
      have e1 : rp lk (f' + 1) i = rp lk f' (lk i) := by simp [rp, h]
      have e2 : rt lk i = rp lk i' (lk i) := by
        unfold rt
        have h9 : rp lk i i = rp lk (i' + 1) i := by rw [← hi']
        rw [h9]
        simp [rp, h]
      rw [e1, e2, ih (lk i) (by omega) f' (by omega), ih (lk i) (by omega) i' (by omega)]
theorem rt_fix {lk : Nat → Nat} {i : Nat} (h : lk i = i) : rt lk i = i := rp_fix h i
theorem rt_lk {lk : Nat → Nat} (hd : dn lk) (i : Nat) : rt lk (lk i) = rt lk i := by
  by_cases h : lk i = i
  · rw [h]
  · have hl := hd i
    obtain ⟨i', hi'⟩ : ∃ i', i = i' + 1 := ⟨i - 1, by omega⟩
    have e2 : rt lk i = rp lk i' (lk i) := by
      unfold rt
      have h9 : rp lk i i = rp lk (i' + 1) i := by rw [← hi']
      rw [h9]
      simp [rp, h]
    rw [e2, rp_en hd (lk i) i' (by omega)]
theorem rt_le {lk : Nat → Nat} (hd : dn lk) (i : Nat) : rt lk i ≤ i := by
  induction i using Nat.strongRecOn with
  | ind i ih =>
    by_cases h : lk i = i
    · rw [rt_fix h]
      exact Nat.le_refl _
    · have hl := hd i
      have := ih (lk i) (by omega)
      rw [rt_lk hd] at this
      omega
theorem rt_root {lk : Nat → Nat} (hd : dn lk) (i : Nat) : lk (rt lk i) = rt lk i := by
  induction i using Nat.strongRecOn with
  | ind i ih =>
    by_cases h : lk i = i
    · rw [rt_fix h]
      exact h
    · have hl := hd i
      have := ih (lk i) (by omega)
      rw [rt_lk hd] at this
      exact this
theorem rt_idem {lk : Nat → Nat} (hd : dn lk) (i : Nat) : rt lk (rt lk i) = rt lk i := rt_fix (rt_root hd i)
theorem rt_half {lk lk' : Nat → Nat} {a : Nat} (hd : dn lk) (h : ∀ j, lk' j = if j = a then lk (lk a) else lk j) : dn lk' ∧ ∀ x, rt lk' x = rt lk x := by
  have hd' : dn lk' := by
    intro j
    rw [h]
    by_cases hj : j = a
    · rw [if_pos hj]
      have h1 := hd a
      have h2 := hd (lk a)
      omega
    · rw [if_neg hj]
      exact hd j
  refine ⟨hd', ?_⟩
  intro x
  induction x using Nat.strongRecOn with
  | ind x ih =>
    have e : rt lk (lk' x) = rt lk x := by
      rw [h]
      by_cases hj : x = a
      · rw [if_pos hj, rt_lk hd, rt_lk hd, hj]
      · rw [if_neg hj, rt_lk hd]
    by_cases hx : lk' x = x
    · rw [rt_fix hx]
      have h2 : lk x = x := by
        rw [h] at hx
        by_cases hj : x = a
        · rw [if_pos hj] at hx
          have h1 := hd a
          have h2 := hd (lk a)
          subst hj
          omega
        · rwa [if_neg hj] at hx
      rw [rt_fix h2]
    · have hl := hd' x
      rw [← rt_lk hd', ih (lk' x) (by omega), e]
theorem rt_join {lk lk' : Nat → Nat} {a b : Nat} (hd : dn lk) (ha : lk a = a) (hb : lk b = b) (hab : a ≤ b) (h : ∀ j, lk' j = if j = b then a else lk j) : dn lk' ∧ ∀ x, rt lk' x = if rt lk x = b then a else rt lk x := by
  have hd' : dn lk' := by
    intro j
    rw [h]
    by_cases hj : j = b
    · rw [if_pos hj]
      omega
    · rw [if_neg hj]
      exact hd j
  refine ⟨hd', ?_⟩
  have ha' : lk' a = a := by
    rw [h]
    by_cases hj : a = b
    · rw [if_pos hj]
    · rw [if_neg hj, ha]
  intro x
  induction x using Nat.strongRecOn with
  | ind x ih =>
    by_cases hx : x = b
    · subst hx
      rw [rt_fix hb, if_pos rfl, ← rt_lk hd', h, if_pos rfl, rt_fix ha']
    · have hx' : lk' x = lk x := by rw [h, if_neg hx]
      by_cases hf : lk x = x
      · rw [rt_fix (by rw [hx', hf]), rt_fix hf, if_neg hx]
      · have hl := hd x
        rw [← rt_lk hd', hx', ih (lk x) (by omega), rt_lk hd]
/-! places in lines of 64; the heads of runs; runs by number -/
def hdp (r : Nat → Bool) (p : Nat) : Bool := r p && !(decide (1 ≤ p % 64) && r (p - 1))
def stp (r : Nat → Bool) (p : Nat) : Nat := pc (hdp r) (p + 1) - 1
theorem pc_s (f : Nat → Bool) (n : Nat) : pc f (n + 1) = pc f n + (f n).toNat := rfl
theorem hdp_ex {r : Nat → Bool} : ∀ d p, p % 64 = d → r p = true → ∃ h, h ≤ p ∧ hdp r h = true ∧ h / 64 = p / 64 ∧ (∀ q, h ≤ q → q ≤ p → r q = true) ∧ ∀ q, h < q → q ≤ p → hdp r q = false := by
  intro d
  induction d with
  | zero =>
    intro p h1 h2
    exact ⟨p, Nat.le_refl _, by simp [hdp, h1, h2], rfl, fun q h3 h4 => by rw [show q = p by omega]; exact h2, fun q h3 h4 => by omega⟩
  | succ d ih =>
    intro p h1 h2
    by_cases h3 : r (p - 1) = true
    · obtain ⟨h, a1, a2, a3, a4, a5⟩ := ih (p - 1) (by omega) h3
      have hp : hdp r p = false := by
        have : 1 ≤ p % 64 := by omega
        simp [hdp, h3, this]
      refine ⟨h, by omega, a2, by omega, fun q h4 h5 => ?_, fun q h4 h5 => ?_⟩
      · by_cases hq : q = p
        · rw [hq]
          exact h2
        · exact a4 q h4 (by omega)
      · by_cases hq : q = p
        · rw [hq]
          exact hp
        · exact a5 q h4 (by omega)
    · refine ⟨p, Nat.le_refl _, by simp [hdp, h2, h3], rfl, fun q h4 h5 => by rw [show q = p by omega]; exact h2, fun q h4 h5 => by omega⟩
theorem pc_flat {f : Nat → Bool} {a b : Nat} (hab : a ≤ b) (h : ∀ q, a ≤ q → q < b → f q = false) : pc f b = pc f a := by
  obtain ⟨d, rfl⟩ := Nat.le.dest hab
  rw [pc_add, pc_false (fun i hi => h (a + i) (by omega) (by omega))]
  rfl
theorem stp_hd {r : Nat → Bool} {p : Nat} (h : hdp r p = true) : stp r p = pc (hdp r) p := by
  unfold stp
  rw [pc_s, h]
  rfl
/-- each place that is set lies in a run, which has a head -/
theorem stp_ex {r : Nat → Bool} {p : Nat} (h : r p = true) : ∃ q, q ≤ p ∧ hdp r q = true ∧ q / 64 = p / 64 ∧ (∀ x, q ≤ x → x ≤ p → r x = true) ∧ stp r p = pc (hdp r) q ∧ pc (hdp r) (p + 1) = pc (hdp r) q + 1 := by
  obtain ⟨q, a1, a2, a3, a4, a5⟩ := hdp_ex (p % 64) p rfl h
  have e1 : pc (hdp r) (p + 1) = pc (hdp r) (q + 1) := pc_flat (by omega) (fun x h1 h2 => a5 x (by omega) (by omega))
  have e2 : pc (hdp r) (q + 1) = pc (hdp r) q + 1 := by
    rw [pc_s, a2]
    rfl
  refine ⟨q, a1, a2, a3, a4, ?_, by omega⟩
  unfold stp
  omega
theorem stp_mono {r : Nat → Bool} {p q : Nat} (h : p ≤ q) : stp r p ≤ stp r q := by
  unfold stp
  have := pc_mono (hdp r) (show p + 1 ≤ q + 1 by omega)
  omega
theorem stp_left {r : Nat → Bool} {p : Nat} (h1 : r p = true) (h2 : r (p - 1) = true) (h3 : 1 ≤ p % 64) : stp r (p - 1) = stp r p := by
  have hp : hdp r p = false := by simp [hdp, h2, h3]
  unfold stp
  rw [pc_s (hdp r) p, hp, show p - 1 + 1 = p by omega]
  rfl
/-- side by side in a line -/
def Ah (r : Nat → Bool) (a b : Nat) : Prop := b = a + 1 ∧ a / 64 = b / 64 ∧ r a = true ∧ r b = true
theorem stp_run {r : Nat → Bool} {p q : Nat} (hp : r p = true) (hq : r q = true) (h : stp r p = stp r q) : Cn (Ah r) p q := by
  have key : ∀ p q, p ≤ q → r p = true → r q = true → stp r p = stp r q → Cn (Ah r) p q := by
    intro p q hpq hp hq h
    obtain ⟨x, a1, a2, a3, a4, a5, a6⟩ := stp_ex hp
    obtain ⟨y, b1, b2, b3, b4, b5, b6⟩ := stp_ex hq
    have hyx : y ≤ p := by
      apply Classical.byContradiction
      intro hn
      have := pc_mono (hdp r) (show p + 1 ≤ y by omega)
      omega
    obtain ⟨d, rfl⟩ := Nat.le.dest hpq
    have hc : ∀ e, e ≤ d → Cn (Ah r) p (p + e) := by
      intro e
      induction e with
      | zero => intro _; exact Cn_rf p
      | succ e ih =>
        intro he
        refine Cn_tr (ih (by omega)) (Cn_of ⟨by omega, ?_, b4 _ (by omega) (by omega), b4 _ (by omega) (by omega)⟩)
        have h1 : y / 64 ≤ (p + e) / 64 := Nat.div_le_div_right (by omega)
        have h2 : (p + (e + 1)) / 64 ≤ (p + d) / 64 := Nat.div_le_div_right (by omega)
        have h3 : (p + e) / 64 ≤ (p + (e + 1)) / 64 := Nat.div_le_div_right (by omega)
        omega
    exact hc d (Nat.le_refl _)
  rcases Nat.le_total p q with hpq | hpq
  · exact key p q hpq hp hq h
  · exact Cn_sy (key q p hpq hq hp h.symm)
theorem pc_inj {f : Nat → Bool} {a b : Nat} (ha : f a = true) (hb : f b = true) (h : pc f a = pc f b) : a = b := by
  rcases Nat.lt_trichotomy a b with h1 | h1 | h1
  · have := pc_lt h1 ha
    omega
  · exact h1
  · have := pc_lt h1 hb
    omega
/-- the number of ones gives each its place -/
theorem pc_nth {f : Nat → Bool} : ∀ n k, k < pc f n → ∃ p, p < n ∧ f p = true ∧ pc f p = k := by
  intro n
  induction n with
  | zero => intro k h; exact absurd h (Nat.not_lt_zero _)
  | succ n ih =>
    intro k h
    by_cases h1 : k < pc f n
    · obtain ⟨p, a, b, c⟩ := ih k h1
      exact ⟨p, by omega, b, c⟩
    · rw [pc_s] at h
      cases hb : f n with
      | false =>
        rw [hb] at h
        exact absurd h h1
      | true =>
        rw [hb] at h
        have h2 : k < pc f n + 1 := h
        exact ⟨n, by omega, hb, by omega⟩
/-! the least of what hangs together -/
noncomputable def bP (p : Prop) : Bool := @decide p (Classical.propDecidable p)
theorem bP_t {p : Prop} : bP p = true ↔ p := by
  unfold bP
  exact @decide_eq_true_iff p (Classical.propDecidable p)
theorem bP_f {p : Prop} : bP p = false ↔ ¬ p := by
  unfold bP
  exact @decide_eq_false_iff_not p (Classical.propDecidable p)
noncomputable def ldr (r : Nat → Bool) (C : Nat → Nat → Prop) (d : Nat) : Bool := bP (r d = true ∧ ∀ q, q < d → r q = true → ¬ C q d)
theorem ldr_ex {r : Nat → Bool} {C : Nat → Nat → Prop} (hs : ∀ a b, C a b → C b a) (ht : ∀ a b c, C a b → C b c → C a c) (hr : ∀ a, C a a) : ∀ q, r q = true → ∃ d, d ≤ q ∧ ldr r C d = true ∧ C q d := by
  intro q
  induction q using Nat.strongRecOn with
  | ind q ih =>
    intro hq
    by_cases h : ∃ x, x < q ∧ r x = true ∧ C x q
    · obtain ⟨x, a, b, c⟩ := h
      obtain ⟨d, e1, e2, e3⟩ := ih x a b
      exact ⟨d, by omega, e2, ht _ _ _ (hs _ _ c) e3⟩
    · refine ⟨q, Nat.le_refl _, bP_t.mpr ⟨hq, fun x h1 h2 h3 => h ⟨x, h1, h2, h3⟩⟩, hr q⟩
theorem ldr_un {r : Nat → Bool} {C : Nat → Nat → Prop} (hs : ∀ a b, C a b → C b a) {a b : Nat} (ha : ldr r C a = true) (hb : ldr r C b = true) (h : C a b) : a = b := by
  have ha := bP_t.mp ha
  have hb := bP_t.mp hb
  rcases Nat.lt_trichotomy a b with h1 | h1 | h1
  · exact absurd h (hb.2 a h1 ha.1)
  · exact h1
  · exact absurd (hs _ _ h) (ha.2 b h1 hb.1)
/-- labels: by the number of the leader -/
def Lab (r : Nat → Bool) (C : Nat → Nat → Prop) (M : Nat) (lab : Nat → Int) (count : Nat) : Prop :=
  (∀ q, q < M → r q = false → lab q = -1) ∧ (∀ q, q < M → r q = true → ∃ d, d ≤ q ∧ ldr r C d = true ∧ C q d ∧ lab q = (pc (ldr r C) d : Nat)) ∧ count = pc (ldr r C) M
theorem Lab_un {r : Nat → Bool} {C : Nat → Nat → Prop} {M : Nat} {l1 l2 : Nat → Int} {c1 c2 : Nat} (hs : ∀ a b, C a b → C b a) (ht : ∀ a b c, C a b → C b c → C a c) (h1 : Lab r C M l1 c1) (h2 : Lab r C M l2 c2) : c1 = c2 ∧ ∀ q, q < M → l1 q = l2 q := by
  refine ⟨by rw [h1.2.2, h2.2.2], fun q hq => ?_⟩
  cases hr : r q with
  | false => rw [h1.1 q hq hr, h2.1 q hq hr]
  | true =>
    obtain ⟨d, a1, a2, a3, a4⟩ := h1.2.1 q hq hr
    obtain ⟨e, b1, b2, b3, b4⟩ := h2.2.1 q hq hr
    have : d = e := ldr_un hs a2 b2 (ht _ _ _ (hs _ _ a3) b3)
    rw [a4, b4, this]
theorem Lab_rng {r : Nat → Bool} {C : Nat → Nat → Prop} {M : Nat} {l : Nat → Int} {c : Nat} (h : Lab r C M l c) {q : Nat} (hq : q < M) : -1 ≤ l q ∧ l q < c ∧ (0 ≤ l q ↔ r q = true) := by
  cases hr : r q with
  | false =>
    rw [h.1 q hq hr]
    refine ⟨by omega, by omega, ?_⟩
    simp
  | true =>
    obtain ⟨d, a1, a2, a3, a4⟩ := h.2.1 q hq hr
    have := pc_lt (f := ldr r C) (show d < M by omega) a2
    rw [a4, h.2.2]
    refine ⟨by omega, by omega, ?_⟩
    simp
theorem Lab_eq {r : Nat → Bool} {C : Nat → Nat → Prop} {M : Nat} {l : Nat → Int} {c : Nat} (hs : ∀ a b, C a b → C b a) (ht : ∀ a b c, C a b → C b c → C a c) (h : Lab r C M l c) {p q : Nat} (hp : p < M) (hq : q < M) (rp : r p = true) (rq : r q = true) : l p = l q ↔ C p q := by
  obtain ⟨d, a1, a2, a3, a4⟩ := h.2.1 p hp rp
  obtain ⟨e, b1, b2, b3, b4⟩ := h.2.1 q hq rq
  constructor
  · intro he
    have : d = e := pc_inj a2 b2 (by omega)
    rw [← this] at b3
    exact ht _ _ _ a3 (hs _ _ b3)
  · intro hc
    have : d = e := ldr_un hs a2 b2 (ht _ _ _ (hs _ _ a3) (ht _ _ _ hc b3))
    rw [a4, b4, this]
theorem pc_one {f g : Nat → Bool} {k n : Nat} (hk : k < n) (h : ∀ i, i ≠ k → g i = f i) (h1 : f k = false) (h2 : g k = true) : pc g n = pc f n + 1 := by
  obtain ⟨d, rfl⟩ := Nat.le.dest (show k + 1 ≤ n by omega)
  rw [pc_add f (k + 1) d, pc_add g (k + 1) d, pc_s f k, pc_s g k, h1, h2, pc_congr (f := g) (g := f) (n := k) (fun i hi => h i (by omega)), pc_congr (f := fun i => g (k + 1 + i)) (g := fun i => f (k + 1 + i)) (n := d) (fun i hi => h _ (by omega))]
  show pc f k + 1 + _ = pc f k + 0 + _ + 1
  omega
theorem pc_run {f g : Nat → Bool} {k s n : Nat} (hk : k + s ≤ n) (h : ∀ i, i < k ∨ k + s ≤ i → g i = f i) (h1 : ∀ i, k ≤ i → i < k + s → f i = false) (h2 : ∀ i, k ≤ i → i < k + s → g i = true) : pc g n = pc f n + s := by
  induction s generalizing g with
  | zero => exact pc_congr (fun i _ => h i (by omega))
  | succ s ih =>
    have e := pc_one (f := fun i => if i = k + s then false else g i) (g := g) (k := k + s) (n := n) (by omega) (fun i hi => by simp [hi]) (by simp) (h2 _ (by omega) (by omega))
    rw [e, ih (by omega) (fun i hi => ?_) (fun i h3 h4 => h1 i h3 (by omega)) (fun i h3 h4 => ?_)]
    · omega
    · show (if i = k + s then false else g i) = f i
      by_cases hik : i = k + s
      · rw [if_pos hik, hik, h1 (k + s) (by omega) (by omega)]
      · rw [if_neg hik]
        exact h i (by omega)
    · show (if i = k + s then false else g i) = true
      rw [if_neg (by omega)]
      exact h2 i h3 (by omega)
