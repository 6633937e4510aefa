/-! Groups.gather -/
def gN (o Y : Nat) : Prop := o + 6 ∈ cl_dy ∧ 128 * Y ≤ cap (o + 6) ∧ Y ≤ 1024 ∧ 1 ≤ Y ∧ ∀ N, cl_N N → N (o + 1) = Y ∧ N (o + 5) = Y
/-- what holds of a group's rows, firsts and links -/
def gG (S : ca) (o Y : Nat) (r : Nat → Bool) (lk : Nat → Nat) : Prop :=
  gR S.1 o Y r ∧ gF S.1 o Y r ∧ gL S.1 o (pc (hdp r) (64 * Y)) lk ∧ S.1.1 o 7 = zI ((pc (hdp r) (64 * Y) : Nat) : Int) ∧ pc (hdp r) (64 * Y) ≤ S.2 (o + 6) ∧ dn lk ∧ cO S.2
def fr (S S' : ca) (P : Nat → Nat → Prop) : Prop := ∀ m k, ¬ P m k → S'.1.1 m k = S.1.1 m k
theorem fr_rf (S : ca) (P : Nat → Nat → Prop) : fr S S P := fun _ _ _ => rfl
theorem fr_tr {S S1 S2 : ca} {P : Nat → Nat → Prop} (h1 : fr S S1 P) (h2 : fr S1 S2 P) : fr S S2 P := fun m k h => (h2 m k h).trans (h1 m k h)
theorem fr_mono {S S' : ca} {P Q : Nat → Nat → Prop} (h : fr S S' P) (hPQ : ∀ m k, P m k → Q m k) : fr S S' Q := fun m k hq => h m k (fun hp => hq (hPQ m k hp))
theorem fr_up {S : ca} {n k : Nat} {v : Int32} {P : Nat → Nat → Prop} (h : P n k) : fr S ((nm_up S.1.1 n k v, S.1.2), S.2) P := by
  intro m j hm
  show nm_up S.1.1 n k v m j = _
  rw [nm_up_ap, if_neg]
  rintro ⟨rfl, rfl⟩
  exact hm h
def gV (r : Nat → Bool) (Y : Nat) (k : Int) (lk : Nat → Nat) : Prop := ∀ y x, ((y + 1 : Nat) : Int) < k → y + 1 < Y → (y + 1) % 64 ≠ 0 → x < 64 → r (64 * y + x) = true → r (64 * (y + 1) + x) = true → rt lk (stp r (64 * y + x)) = rt lk (stp r (64 * (y + 1) + x))
theorem rt_id (i : Nat) : rt (fun j => j) i = i := rt_fix rfl
set_option maxHeartbeats 4000000 in
theorem w_gather {o Y : Nat} (ho : gN o Y) {r : Nat → Bool} {C : Nat → Nat → Prop} (hrf : ∀ a, C a a) (hs9 : ∀ a b, C a b → C b a) (ht9 : ∀ a b c, C a b → C b c → C a c) (hCh : ∀ p q, Ah r p q → C p q) (hCv : ∀ y x, y + 1 < Y → (y + 1) % 64 ≠ 0 → x < 64 → r (64 * y + x) = true → r (64 * (y + 1) + x) = true → C (64 * y + x) (64 * (y + 1) + x)) {S : ca} (hc : cO S.2) (hR : gR S.1 o Y r) :
    wc sN (f_X4_gather o S) S.2 (fun S' => ∃ lk, gG S' o Y r lk ∧ gS r C Y lk ∧ gV r Y Y lk ∧ S'.1.2 = S.1.2 ∧ (∀ x, x ≠ o + 6 → S'.2 x = S.2 x) ∧ fr S S' (fun m k => (m = o ∧ k = 7) ∨ m = o + 5 ∨ m = o + 6)) := by
  obtain ⟨ho6, hcap, hY, hY1, hoN⟩ := ho
  have hpcb : ∀ k, k ≤ Y → pc (hdp r) (64 * k) ≤ 64 * Y := fun k hk => pc_le2 (by omega)
  unfold f_X4_gather
  simp only [nm_l_eq]
  -- the firsts
  refine wc_s1 (fun S1 => S1.2 = S.2 ∧ S1.1.2 = S.1.2 ∧ S1.1.1 o 7 = zI ((pc (hdp r) (64 * Y) : Nat) : Int) ∧ gF S1.1 o Y r ∧ fr S S1 (fun m k => (m = o ∧ k = 7) ∨ m = o + 5 ∨ m = o + 6)) ?_ ?_
  · rw [zI_lit]
    refine lpc (fun f => f_X4_gather_L7 o f) _ Y (fun k S1 => 0 ≤ k ∧ S1.2 = S.2 ∧ S1.1.2 = S.1.2 ∧ S1.1.1 o 7 = zI ((pc (hdp r) (64 * k.toNat) : Nat) : Int) ∧ (∀ y : Nat, (y : Int) < k → S1.1.1 (o + 5) y = zI ((pc (hdp r) (64 * y) : Nat) : Int)) ∧ fr S S1 (fun m k => (m = o ∧ k = 7) ∨ m = o + 5 ∨ m = o + 6)) ?_ ?_ nm_F 0 _ (by omega) (by rw [nm_F_eq]; omega) ⟨by omega, rfl, rfl, ?_, fun y hy => by omega, ?_⟩
    · rintro f k S1 hk ⟨h0, e1, e2, e3, e4, e5⟩ hn
      show wp (f_X4_gather_L7 o (f + 1) _ _) _
      obtain ⟨k', rfl⟩ := Int.eq_ofNat_of_zero_le h0
      have hkY : k' < Y := by omega
      have hl := hoN _ hc.1
      rw [f_X4_gather_L7, e1, hl.1, zI_nI]
      simp (disch := omega) only [zI_le, nm_cz, zI_cl, nm_l_eq, hl.2, zI_lit, zI_add]
      rw [if_neg (by omega)]
      have ek : ((k' : Nat) : Int).toNat = k' := rfl
      rw [ek] at e3
      rw [ek, e2, bc_eq]
      have hb := hpcb (k' + 1) (by omega)
      have hcnt := gR_cnt (o := o) hR hkY (Nat.le_refl 64)
      rw [show 64 * k' + 64 = 64 * (k' + 1) by omega] at hcnt
      refine hn _ ⟨by omega, rfl, rfl, ?_, ?_, ?_⟩
      · show nm_up _ _ _ _ _ _ = _
        rw [nm_up_ap, if_pos ⟨rfl, rfl⟩, nm_up_ap, if_neg (by omega), e3, zI_add, show ((k' : Nat) : Int) + 1 = ((k' + 1 : Nat) : Int) from rfl]
        show zI _ = zI ((pc (hdp r) (64 * (k' + 1)) : Nat) : Int)
        rw [hcnt]
        rfl
      · intro y hy
        show nm_up _ _ _ _ _ _ = _
        rw [nm_up_ap, if_neg (by omega), nm_up_ap]
        by_cases hyk : y = k'
        · subst hyk
          rw [if_pos ⟨rfl, rfl⟩, e3]
        · rw [if_neg (fun h => hyk h.2)]
          exact e4 y (by omega)
      · refine fr_tr e5 ?_
        intro m j hm
        show nm_up _ _ _ _ _ _ = _
        rw [nm_up_ap, if_neg (fun h => hm (Or.inl h)), nm_up_ap, if_neg (fun h => hm (Or.inr (Or.inl h.1)))]
    · rintro f S1 ⟨h0, e1, e2, e3, e4, e5⟩
      show wp (f_X4_gather_L7 o (f + 1) _ _) _
      have hl := hoN _ hc.1
      rw [f_X4_gather_L7, e1, hl.1, zI_nI]
      simp (disch := omega) only [zI_le, Int.le_refl, if_true]
      exact wp_r ⟨e1, e2, e3, fun y hy => e4 y (by omega), e5⟩
    · show nm_up _ _ _ _ _ _ = _
      rw [nm_up_ap, if_pos ⟨rfl, rfl⟩]
      rfl
    · exact fr_up (Or.inl ⟨rfl, rfl⟩)
  rintro S1 ⟨e1, e2, e3, e4, e5⟩
  -- room for the links
  have hn64 := hpcb Y (Nat.le_refl _)
  rw [e3]
  generalize hn : pc (hdp r) (64 * Y) = n at *
  rw [← e1] at hc ⊢
  refine wc_a1 _ (w_grow ho6 (m := n) (by omega) hc) ?_
  rintro S2 ⟨a1, a2, a3, a4, a5⟩
  -- each links to itself
  refine wc_s1 (fun S3 => S3.2 = S2.2 ∧ S3.1.2 = S2.1.2 ∧ (∀ i, i < n → S3.1.1 (o + 6) i = zI ((i : Nat) : Int)) ∧ fr S2 S3 (fun m k => m = o + 6)) ?_ ?_
  · rw [zI_lit]
    have h7 : S2.1.1 o 7 = zI ((n : Nat) : Int) := by rw [a5 o (by omega), e3]
    refine lpc (fun f => f_X4_gather_L70 o f) _ n (fun k S3 => 0 ≤ k ∧ S3.2 = S2.2 ∧ S3.1.2 = S2.1.2 ∧ (∀ i : Nat, (i : Int) < k → S3.1.1 (o + 6) i = zI ((i : Nat) : Int)) ∧ fr S2 S3 (fun m k => m = o + 6)) ?_ ?_ nm_F 0 _ (by omega) (by rw [nm_F_eq]; omega) ⟨by omega, rfl, rfl, fun i hi => by omega, fr_rf _ _⟩
    · rintro f k S3 hk ⟨h0, b1, b2, b3, b4⟩ hn9
      show wp (f_X4_gather_L70 o (f + 1) _ _) _
      obtain ⟨k', rfl⟩ := Int.eq_ofNat_of_zero_le h0
      rw [f_X4_gather_L70, b4 o 7 (by omega), h7, b1]
      simp (disch := omega) only [zI_le, nm_cz, zI_cl, nm_l_eq, zI_lit, zI_add]
      rw [if_neg (by omega)]
      refine hn9 _ ⟨by omega, rfl, b2, ?_, ?_⟩
      · intro i hi
        show nm_up _ _ _ _ _ _ = _
        rw [nm_up_ap]
        by_cases hik : i = k'
        · subst hik
          rw [if_pos ⟨rfl, rfl⟩]
        · rw [if_neg (fun h => hik h.2)]
          exact b3 i (by omega)
      · refine fr_tr b4 ?_
        intro m j hm
        show nm_up _ _ _ _ _ _ = _
        rw [nm_up_ap, if_neg (fun h => hm h.1)]
    · rintro f S3 ⟨h0, b1, b2, b3, b4⟩
      show wp (f_X4_gather_L70 o (f + 1) _ _) _
      rw [f_X4_gather_L70, b4 o 7 (by omega), h7]
      simp (disch := omega) only [zI_le, Int.le_refl, if_true]
      exact wp_r ⟨b1, b2, fun i hi => b3 i (by omega), b4⟩
  rintro S3 ⟨b1, b2, b3, b4⟩
  -- each with those above it
  have hR3 : gR S3.1 o Y r := by
    intro y x hy hx
    rw [b2, a4, e2]
    exact hR y x hy hx
  have hF3 : gF S3.1 o Y r := by
    intro y hy
    rw [b4 _ _ (by omega), a5 _ (by omega)]
    exact e4 y hy
  have h73 : S3.1.1 o 7 = zI ((n : Nat) : Int) := by rw [b4 o 7 (by omega), a5 o (by omega), e3]
  have hfr3 : fr S S3 (fun m k => (m = o ∧ k = 7) ∨ m = o + 5 ∨ m = o + 6) := by
    intro m j hm
    rw [b4 _ _ (fun h => hm (Or.inr (Or.inr h))), a5 _ (fun h => hm (Or.inr (Or.inr h)))]
    exact e5 m j hm
  rw [show sN S2 = S2.2 from rfl, ← b1] 
  rw [← b1] at a1 a2
  refine wc_s1 (fun S4 => ∃ lk, gG S4 o Y r lk ∧ gS r C Y lk ∧ gV r Y Y lk ∧ S4.2 = S3.2 ∧ S4.1.2 = S3.1.2 ∧ fr S3 S4 (fun m k => m = o + 6)) ?_ ?_
  · rw [zI_lit]
    refine lpc (fun f => f_X4_gather_L93 o f) _ Y (fun k S4 => 1 ≤ k ∧ ∃ lk, gG S4 o Y r lk ∧ gS r C Y lk ∧ gV r Y k lk ∧ S4.2 = S3.2 ∧ S4.1.2 = S3.1.2 ∧ fr S3 S4 (fun m k => m = o + 6)) ?_ ?_ nm_F 1 _ (by omega) (by rw [nm_F_eq]; omega) ⟨by omega, fun j => j, ⟨hR3, hF3, by rw [hn]; exact b3, by rw [hn]; exact h73, by rw [hn]; exact a1, fun i => Nat.le_refl _, a2⟩, ?_, ?_, rfl, rfl, fr_rf _ _⟩
    · rintro f k S4 hk ⟨h0, lk, ⟨g1, g2, g3, g4, g5, g6, g7⟩, k1, k2, k3, k4, k5⟩ hn9
      show wp (f_X4_gather_L93 o (f + 1) _ _) _
      obtain ⟨k', rfl⟩ : ∃ k' : Nat, k = ((k' + 1 : Nat) : Int) := ⟨k.toNat - 1, by omega⟩
      have hl := hoN _ g7.1
      rw [hn] at g3 g4 g5
      rw [f_X4_gather_L93, hl.1, zI_nI]
      simp (disch := omega) only [zI_le, nm_cz, zI_cl, nm_l_eq, zI_lit, zI_add, zI_sub, zI_div, zI_mul, zI_eq]
      rw [if_neg (by omega)]
      refine wp_if (fun h => ?_) (fun h => ?_)
      · unfold f_X4_gather_J132
        rw [zI_lit, zI_add]
        refine hn9 _ ⟨by omega, lk, ⟨g1, g2, by rw [hn]; exact g3, by rw [hn]; exact g4, by rw [hn]; exact g5, g6, g7⟩, k1, ?_, k3, k4, k5⟩
        intro y x h1 h2 h3 hx r1 r2
        by_cases hyk : y = k'
        · omega
        · exact k2 y x (by omega) h2 h3 hx r1 r2
      · have et : (((k' + 1 : Nat) : Int) - 1).toNat = k' := by omega
        have et2 : (((k' + 1 : Nat) : Int)).toNat = k' + 1 := rfl
        rw [et, et2, show (((k' + 1 : Nat) : Int) - 1) = ((k' : Nat) : Int) by omega]
        have hw : ∀ x, x < 64 → bx (S4.1.2 (o + 1) k' &&& S4.1.2 (o + 1) (k' + 1)) x = true → r (64 * k' + x) = true ∧ r (64 * (k' + 1) + x) = true ∧ C (64 * k' + x) (64 * (k' + 1) + x) := by
          intro x hx hb
          rw [bx_and, g1 k' x (by omega) hx, g1 (k' + 1) x (by omega) hx] at hb
          have hb2 : r (64 * k' + x) = true ∧ r (64 * (k' + 1) + x) = true := by simpa using hb
          exact ⟨hb2.1, hb2.2, hCv k' x (by omega) (by omega) hx hb2.1 hb2.2⟩
        refine wp_s1 _ (w_unite hs9 ht9 hY hl.1 hl.2 g5 hn.symm g4 g1 g2 g3 g6 (by omega) (by omega) hw k1) ?_
        rintro M5 ⟨lk5, c1, c2, c3, c4, c5, c6⟩
        simp only [f_X4_gather_J132]
        rw [zI_lit, zI_add]
        refine hn9 _ ⟨by omega, lk5, ⟨gO_R c3 g1, gO_F c3 g2, by rw [hn]; exact c2, by rw [hn]; show M5.1 o 7 = _; rw [c3.2 _ _ (Or.inl (by omega))]; exact g4, by rw [hn]; exact g5, c1, g7⟩, c4, ?_, k3, c3.1.trans k4, ?_⟩
        · intro y x h1 h2 h3 hx r1 r2
          by_cases hyk : y = k'
          · subst hyk
            exact c6 x hx (by rw [bx_and, g1 y x (by omega) hx, g1 (y + 1) x (by omega) hx, r1, r2]; rfl)
          · exact c5 _ _ (k2 y x (by omega) h2 h3 hx r1 r2)
        · refine fr_tr k5 ?_
          intro m j hm
          exact c3.2 m j (Or.inl hm)
    · rintro f S4 ⟨h0, lk, g, k1, k2, k3, k4, k5⟩
      show wp (f_X4_gather_L93 o (f + 1) _ _) _
      have hl := hoN _ g.2.2.2.2.2.2.1
      rw [f_X4_gather_L93, hl.1, zI_nI]
      simp (disch := omega) only [zI_le, Int.le_refl, if_true]
      exact wp_r ⟨lk, g, k1, k2, k3, k4, k5⟩
    · intro p q hp hq r1 r2 h
      rw [rt_id, rt_id] at h
      exact Cn_set (fun z => C p z) (fun a b hab => ⟨fun h => ht9 _ _ _ h (hCh a b hab), fun h => ht9 _ _ _ h (hs9 _ _ (hCh a b hab))⟩) (stp_run r1 r2 h) (hrf p)
    · intro y x h1
      omega
  rintro S4 ⟨lk, g, k1, k2, k3, k4, k5⟩
  rw [← k3]
  refine wc_r ⟨lk, g, k1, k2, by rw [k4, b2, a4, e2], fun x hx => by rw [k3, b1, a3 x hx, e1], ?_⟩
  intro m j hm
  rw [k5 _ _ (fun h => hm (Or.inr (Or.inr h)))]
  exact hfr3 m j hm
