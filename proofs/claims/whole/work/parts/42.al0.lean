def f_X4_gather_L7 (o : Nat) : Nat → Int32 → ca → Option (ca)
  | 0, _, _ => none
  | n7 + 1, x1, S2 =>
    (if (nI (S2.2 (o + 1))) ≤ x1 then
    some S2
    else
    nm_c x1 (S2.2 (o + 5)) (
    nm_l (((nm_up S2.1.1 (o + 5) x1.toNatClampNeg (S2.1.1 o 7), S2.1.2), S2.2)) fun S5 =>
    nm_c x1 (S5.2 (o + 1)) (
    nm_l (((nm_up S5.1.1 o 7 ((S5.1.1 o 7) + (f_J13_bitCount_95d88 (f_X0_heads (S5.1.2 (o + 1) x1.toNatClampNeg)))), S5.1.2), S5.2)) fun S7 =>
    f_X4_gather_L7 o n7 (x1 + 1) S7)))
def f_X4_gather_L70 (o : Nat) : Nat → Int32 → ca → Option (ca)
  | 0, _, _ => none
  | n70 + 1, x1, S13 =>
    (if (S13.1.1 o 7) ≤ x1 then
    some S13
    else
    nm_c x1 (S13.2 (o + 6)) (
    nm_l (((nm_up S13.1.1 (o + 6) x1.toNatClampNeg x1, S13.1.2), S13.2)) fun S16 =>
    f_X4_gather_L70 o n70 (x1 + 1) S16))
def f_X4_gather_J132 (o : Nat) (x1 : Int32) (S20 : ca) (k : Int32 → ca → Option (ca)) : Option (ca) :=
k (x1 + 1) S20
def f_X4_gather_L93 (o : Nat) : Nat → Int32 → ca → Option (ca)
  | 0, _, _ => none
  | n93 + 1, x1, S18 =>
    (if (nI (S18.2 (o + 1))) ≤ x1 then
    some S18
    else
    (if (x1 - x1 / (64 : Int32) * (64 : Int32)) = 0 then
    f_X4_gather_J132 o x1 S18 (f_X4_gather_L93 o n93)
    else
    nm_c (x1 - (1 : Int32)) (S18.2 (o + 1)) (
    nm_c x1 (S18.2 (o + 1)) (
    nm_s1 (f_X4_unite o S18.2 (x1 - (1 : Int32)) x1 ((S18.1.2 (o + 1) (x1 - (1 : Int32)).toNatClampNeg) &&& (S18.1.2 (o + 1) x1.toNatClampNeg)) S18.1) fun M24 =>
    nm_l (M24, S18.2) fun S26 =>
    f_X4_gather_J132 o x1 S26 (f_X4_gather_L93 o n93)))))
def f_X4_gather (o : Nat) (S : ca) : Option (ca × Nat × Nat) :=
nm_l (((nm_up S.1.1 o 7 (0 : Int32), S.1.2), S.2)) fun S1 =>
nm_s1 (f_X4_gather_L7 o nm_F (0 : Int32) S1) fun S8 =>
nm_a1 (cl_grow (o + 6) (S8.1.1 o 7) S8) fun S9 =>
nm_s1 (f_X4_gather_L70 o nm_F (0 : Int32) S9) fun S17 =>
nm_s1 (f_X4_gather_L93 o nm_F (1 : Int32) S17) fun S27 =>
some (S27, 0, 0)
set_option maxHeartbeats 4000000 in
set_option maxRecDepth 100000 in
theorem k_X4_gather {l : Launch} {D : va_G} {Y : nm_Y} {s0 : Nat} {X : va_W} {ad : Nat → Nat} {nl : List Nat} {K : Nat → Nat} (hL : cl_L nl K) {o : Nat} (ho : cl_o o)  {S M0 : ca} {dc ds : Nat} (hN : cl_N S.2) (hf : f_X4_gather o S = some (M0, dc, ds)) :
    nm_Met l yX4_gather cX4_gather 2 none { frames := 3, cells := dc, slots := ds, locals := 76 } [.ref (ad o)] D Y s0 (nm_W Y X nl ad (S.1.1, S.1.2, S.2, K)) (nm_QvA D Y s0 X nl ad (M0.1.1, M0.1.2, M0.2, K)) dc ds := by
  refine nm_of (by decide) (Nat.le_of_ble_eq_true rfl) ?_
  intro p e R s m args below meth c Q ls hx hb hr hlocks hml hown hts hs0 hK hZ hRf hRl hRc hRs hQ hP hD hl
  have hH : nm_H D Y (fun q => s0 ≤ q) s.heap X nl ad (S.1.1, S.1.2, S.2, K) s.heap [] := ⟨hP, hD, va_S.rf⟩
  have hl : lv_has ls 2 [(0, .ref (ad o))] := hl
  obtain ⟨ad0, had0⟩ : ∃ y, y = ad := ⟨_, rfl⟩
  have hAd : cl_a ad0 ad := by rw [had0]; exact cl_a.rf
  rw [← had0] at hQ
  obtain ⟨cells, ecells⟩ : ∃ y, y = 0 := ⟨_, rfl⟩
  obtain ⟨slots, eslots⟩ : ∃ y, y = 0 := ⟨_, rfl⟩
  have hC : cells + dc ≤ R.cells ∧ slots + ds ≤ R.slots := ⟨by omega, by omega⟩
  refine W.widen (k := cells) (n := slots) (Nat.zero_le _) (Nat.zero_le _) ?_
  obtain ⟨mc, emc⟩ : ∃ y, y = dc := ⟨_, rfl⟩
  obtain ⟨ms, ems⟩ : ∃ y, y = ds := ⟨_, rfl⟩
  rw [← emc] at hRc hQ
  rw [← ems] at hRs hQ
  obtain ⟨tc, htc⟩ : ∃ y, y = cells + dc := ⟨_, rfl⟩
  obtain ⟨tsl, htsl⟩ : ∃ y, y = slots + ds := ⟨_, rfl⟩
  unfold f_X4_gather at hf
  refine lv_aload_n hx hb dX4_gather_0 rfl (lv_at hl 0 rfl) ?_
  refine lv_iconst (v := 0) hx hb dX4_gather_1 (by decide) ?_
  obtain ⟨S1, eS1, hf⟩ := nm_let hf
  refine pf_4_7 hK hx hb hts hown hH (cl_no0 hL ho) (cl_ko0 hL ho) (hts _ tw_57) (fun _ h9 => h9) dX4_gather_2 (fun H locs hH => ?_)
  have hH : nm_H D Y (fun q => s0 ≤ q) s.heap X nl ad (S1.1.1, S1.1.2, S1.2, K) H locs := by rw [eS1]; exact hH
  have hN : cl_N S1.2 := by rw [eS1]; exact hN
  refine lv_iconst (v := 0) hx hb dX4_gather_5 (by decide) ?_
  refine lv_istore_n (lv' := [(1, .int (0 : Int32)), (0, .ref (ad o))]) hx hb dX4_gather_6 rfl hl (by decide) rfl (fun ls hl => ?_)
  have hL7 : ∀ (n7 : Nat) (x1 : Int32) (S2 : ca) (H : Heap) (locs : List Loc) (ls : Array Slot) (o7 : ca), cl_N S2.2 → nm_H D Y (fun q => s0 ≤ q) s.heap X nl ad (S2.1.1, S2.1.2, S2.2, K) H locs → lv_has ls 2 [(0, .ref (ad o)), (1, .int x1)] → f_X4_gather_L7 o n7 x1 S2 = some o7 → (∀ (H : Heap) (locs : List Loc) (ls : Array Slot), cl_N o7.2 → nm_H D Y (fun q => s0 ≤ q) s.heap X nl ad (o7.1.1, o7.1.2, o7.2, K) H locs → lv_has ls 2 [(0, .ref (ad o))] → W p l e R s m args below meth c H locs cells slots Q (F0 m 53 ls [])) → W p l e R s m args below meth c H locs cells slots Q (F0 m 7 ls []) := by
    intro n7
    induction n7 with
    | zero =>
      intro x1 S2 H locs ls o7 hN hH hl hf hX7
      cases hf
    | succ n7 ih7 =>
      intro x1 S2 H locs ls o7 hN hH hl hf hX7
      rw [f_X4_gather_L7] at hf
      refine lv_iload_n hx hb dX4_gather_7 rfl (lv_at hl 1 rfl) ?_
      refine lv_aload_n hx hb dX4_gather_8 rfl (lv_at hl 0 rfl) ?_
      refine gf_4_0 hK hx hb hts hown hH (cl_no0 hL ho) (cl_ko0 hL ho) (hts _ tw_40) (fun _ h9 => h9) dX4_gather_9 ?_
      refine nm_alen hx hb hK hH (cl_no1 hL ho) (Or.inr (cl_ko1 hL ho)) rfl dX4_gather_12 ?_
      refine lv_icmp_ge (tgt := 53) hx hb dX4_gather_13 (by decide) (fun c3 => ?_) (fun c3 => ?_)
      · have hf := nm_it c3 hf
        cases hf
        exact hX7 _ _ _ hN hH (lv_sub hl [0] rfl)
      · have hf := nm_ie c3 hf
        refine lv_aload_n hx hb dX4_gather_16 rfl (lv_at hl 0 rfl) ?_
        refine gf_4_5 hK hx hb hts hown hH (cl_no0 hL ho) (cl_ko0 hL ho) (hts _ tw_55) (fun _ h9 => h9) dX4_gather_17 ?_
        refine lv_iload_n hx hb dX4_gather_20 rfl (lv_at hl 1 rfl) ?_
        refine lv_aload_n hx hb dX4_gather_21 rfl (lv_at hl 0 rfl) ?_
        refine gf_4_7 hK hx hb hts hown hH (cl_no0 hL ho) (cl_ko0 hL ho) (hts _ tw_57) (fun _ h9 => h9) dX4_gather_22 ?_
        obtain ⟨hi4, hf⟩ := nm_chk hf
        obtain ⟨S5, eS5, hf⟩ := nm_let hf
        refine nm_iast hx hb hK hH (cl_no5 hL ho) (cl_ko5 hL ho) rfl hi4 dX4_gather_25 (fun H locs hH => ?_)
        have hH : nm_H D Y (fun q => s0 ≤ q) s.heap X nl ad (S5.1.1, S5.1.2, S5.2, K) H locs := by rw [eS5]; exact hH
        have hN : cl_N S5.2 := by rw [eS5]; exact hN
        refine lv_aload_n hx hb dX4_gather_26 rfl (lv_at hl 0 rfl) ?_
        refine lv_dup hx hb dX4_gather_27 rfl ?_
        refine gf_4_7 hK hx hb hts hown hH (cl_no0 hL ho) (cl_ko0 hL ho) (hts _ tw_57) (fun _ h9 => h9) dX4_gather_28 ?_
        refine lv_aload_n hx hb dX4_gather_31 rfl (lv_at hl 0 rfl) ?_
        refine gf_4_0 hK hx hb hts hown hH (cl_no0 hL ho) (cl_ko0 hL ho) (hts _ tw_40) (fun _ h9 => h9) dX4_gather_32 ?_
        refine lv_iload_n hx hb dX4_gather_35 rfl (lv_at hl 1 rfl) ?_
        obtain ⟨hi6, hf⟩ := nm_chk hf
        refine nm_lald hx hb hK hH (cl_no1 hL ho) (cl_ko1 hL ho) rfl hi6 dX4_gather_36 ?_
        refine nm_calll (nm_runS (X := X) (nl := nl) (k_X0_heads hL hN (hf := (rfl : f_X0_heads (S5.1.2 (o + 1) x1.toNatClampNeg) = _))) hx hb hml hown hts hs0 hK hZ hH tw_608 tw_606 tw_607 tw_13 hd_X0_heads rfl rfl ⟨Nat.le_trans (Nat.le_of_ble_eq_true rfl) hRf, Nat.le_trans (Nat.le_of_ble_eq_true rfl) hRl⟩ rfl hl.1 rfl (Nat.le_of_ble_eq_true rfl) dX4_gather_37 ⟨Nat.le_trans (Nat.le_add_right _ _) hC.1, Nat.le_trans (Nat.le_add_right _ _) hC.2⟩) hH (fun H locs hH => ?_)
        have hH : nm_H D Y (fun q => s0 ≤ q) s.heap X nl ad (S5.1.1, S5.1.2, S5.2, K) H locs := hH
        refine nm_calli (nm_runS (X := X) (nl := nl) (k_J13_bitCount_95d88 hL hN (hf := (rfl : f_J13_bitCount_95d88 (f_X0_heads (S5.1.2 (o + 1) x1.toNatClampNeg)) = _))) hx hb hml hown hts hs0 hK hZ hH tw_611 tw_609 tw_610 tw_17 hd_J13_bitCount_95d88 rfl rfl ⟨Nat.le_trans (Nat.le_of_ble_eq_true rfl) hRf, Nat.le_trans (Nat.le_of_ble_eq_true rfl) hRl⟩ rfl hl.1 rfl (Nat.le_of_ble_eq_true rfl) dX4_gather_40 ⟨Nat.le_trans (Nat.le_add_right _ _) hC.1, Nat.le_trans (Nat.le_add_right _ _) hC.2⟩) hH (fun H locs hH => ?_)
        have hH : nm_H D Y (fun q => s0 ≤ q) s.heap X nl ad (S5.1.1, S5.1.2, S5.2, K) H locs := hH
        refine lv_iadd hx hb dX4_gather_43 ?_
        obtain ⟨S7, eS7, hf⟩ := nm_let hf
        refine pf_4_7 hK hx hb hts hown hH (cl_no0 hL ho) (cl_ko0 hL ho) (hts _ tw_57) (fun _ h9 => h9) dX4_gather_44 (fun H locs hH => ?_)
        have hH : nm_H D Y (fun q => s0 ≤ q) s.heap X nl ad (S7.1.1, S7.1.2, S7.2, K) H locs := by rw [eS7]; exact hH
        have hN : cl_N S7.2 := by rw [eS7]; exact hN
        refine lv_iinc (v := x1 + 1) (lv' := [(1, .int (x1 + 1)), (0, .ref (ad o))]) hx hb dX4_gather_47 hl (k := 1) rfl rfl (by decide) rfl (fun ls hl => ?_)
        refine lv_goto (tgt := 7) hx hb dX4_gather_50 (by decide) ?_
        exact ih7 (x1 + 1) S7 _ _ _ _ hN hH (lv_sub hl [1, 0] rfl) hf hX7
  obtain ⟨S8, hl30, hf⟩ := nm_sd1 hf
  refine hL7 nm_F (0 : Int32) S1 _ _ _ _ hN hH (lv_sub hl [1, 0] rfl) hl30 (fun H locs ls hN hH hl => ?_)
  have hl : lv_has ls 2 [(0, .ref (ad o))] := hl
  have hH : nm_H D Y (fun q => s0 ≤ q) s.heap X nl ad (S8.1.1, S8.1.2, S8.2, K) H locs := hH
  have hN : cl_N S8.2 := hN
  refine lv_aload_n hx hb dX4_gather_53 rfl (lv_at hl 0 rfl) ?_
  refine lv_aload_n hx hb dX4_gather_54 rfl (lv_at hl 0 rfl) ?_
  refine gf_4_6 hK hx hb hts hown hH (cl_no0 hL ho) (cl_ko0 hL ho) (hts _ tw_56) (fun _ h9 => h9) dX4_gather_55 ?_
  refine lv_aload_n hx hb dX4_gather_58 rfl (lv_at hl 0 rfl) ?_
  refine gf_4_7 hK hx hb hts hown hH (cl_no0 hL ho) (cl_ko0 hL ho) (hts _ tw_57) (fun _ h9 => h9) dX4_gather_59 ?_
  obtain ⟨S9, c11, s12, dc, ds, hc10, hf, edc, eds⟩ := nm_ad1 hf
  refine gw_4_6 hx hb hml hL ho hown hts hs0 hK hZ hH hN tw_615 (hts _ tw_56) (fun _ h9 => h9) hc10 (Nat.le_trans (Nat.le_of_ble_eq_true rfl) hRf) (Nat.le_trans (Nat.le_of_ble_eq_true rfl) hRl) hl.1 (Nat.le_of_ble_eq_true rfl) dX4_gather_62 dX4_gather_65 ⟨by omega, by omega⟩ (fun ad hu H locs cells slots ec es hN hH => ?_)
  have hH : nm_H D Y (fun q => s0 ≤ q) s.heap X nl ad (S9.1.1, S9.1.2, S9.2, K) H locs := hH
  have hN : cl_N S9.2 := hN
  have hl : lv_has ls 2 [(0, .ref (ad o))] := by rw [hu o (cl_so ho)]; exact hl
  have hAd : cl_a ad0 ad := cl_a.tr hAd hu
  have hC : cells + dc ≤ R.cells ∧ slots + ds ≤ R.slots := ⟨by omega, by omega⟩
  refine lv_iconst (v := 0) hx hb dX4_gather_68 (by decide) ?_
  refine lv_istore_n (lv' := [(1, .int (0 : Int32)), (0, .ref (ad o))]) hx hb dX4_gather_69 rfl hl (by decide) rfl (fun ls hl => ?_)
  have hL70 : ∀ (n70 : Nat) (x1 : Int32) (S13 : ca) (H : Heap) (locs : List Loc) (ls : Array Slot) (o70 : ca), cl_N S13.2 → nm_H D Y (fun q => s0 ≤ q) s.heap X nl ad (S13.1.1, S13.1.2, S13.2, K) H locs → lv_has ls 2 [(0, .ref (ad o)), (1, .int x1)] → f_X4_gather_L70 o n70 x1 S13 = some o70 → (∀ (H : Heap) (locs : List Loc) (ls : Array Slot), cl_N o70.2 → nm_H D Y (fun q => s0 ≤ q) s.heap X nl ad (o70.1.1, o70.1.2, o70.2, K) H locs → lv_has ls 2 [(0, .ref (ad o))] → W p l e R s m args below meth c H locs cells slots Q (F0 m 91 ls [])) → W p l e R s m args below meth c H locs cells slots Q (F0 m 70 ls []) := by
    intro n70
    induction n70 with
    | zero =>
      intro x1 S13 H locs ls o70 hN hH hl hf hX70
      cases hf
    | succ n70 ih70 =>
      intro x1 S13 H locs ls o70 hN hH hl hf hX70
      rw [f_X4_gather_L70] at hf
      refine lv_iload_n hx hb dX4_gather_70 rfl (lv_at hl 1 rfl) ?_
      refine lv_aload_n hx hb dX4_gather_71 rfl (lv_at hl 0 rfl) ?_
      refine gf_4_7 hK hx hb hts hown hH (cl_no0 hL ho) (cl_ko0 hL ho) (hts _ tw_57) (fun _ h9 => h9) dX4_gather_72 ?_
      refine lv_icmp_ge (tgt := 91) hx hb dX4_gather_75 (by decide) (fun c14 => ?_) (fun c14 => ?_)
      · have hf := nm_it c14 hf
        cases hf
        exact hX70 _ _ _ hN hH (lv_sub hl [0] rfl)
      · have hf := nm_ie c14 hf
        refine lv_aload_n hx hb dX4_gather_78 rfl (lv_at hl 0 rfl) ?_
        refine gf_4_6 hK hx hb hts hown hH (cl_no0 hL ho) (cl_ko0 hL ho) (hts _ tw_56) (fun _ h9 => h9) dX4_gather_79 ?_
        refine lv_iload_n hx hb dX4_gather_82 rfl (lv_at hl 1 rfl) ?_
        refine lv_iload_n hx hb dX4_gather_83 rfl (lv_at hl 1 rfl) ?_
        obtain ⟨hi15, hf⟩ := nm_chk hf
        obtain ⟨S16, eS16, hf⟩ := nm_let hf
        refine nm_iast hx hb hK hH (cl_no6 hL ho) (cl_ko6 hL ho) rfl hi15 dX4_gather_84 (fun H locs hH => ?_)
        have hH : nm_H D Y (fun q => s0 ≤ q) s.heap X nl ad (S16.1.1, S16.1.2, S16.2, K) H locs := by rw [eS16]; exact hH
        have hN : cl_N S16.2 := by rw [eS16]; exact hN
        refine lv_iinc (v := x1 + 1) (lv' := [(1, .int (x1 + 1)), (0, .ref (ad o))]) hx hb dX4_gather_85 hl (k := 1) rfl rfl (by decide) rfl (fun ls hl => ?_)
        refine lv_goto (tgt := 70) hx hb dX4_gather_88 (by decide) ?_
        exact ih70 (x1 + 1) S16 _ _ _ _ hN hH (lv_sub hl [1, 0] rfl) hf hX70
  obtain ⟨S17, hl29, hf⟩ := nm_sd1 hf
  refine hL70 nm_F (0 : Int32) S9 _ _ _ _ hN hH (lv_sub hl [1, 0] rfl) hl29 (fun H locs ls hN hH hl => ?_)
  have hl : lv_has ls 2 [(0, .ref (ad o))] := hl
  have hH : nm_H D Y (fun q => s0 ≤ q) s.heap X nl ad (S17.1.1, S17.1.2, S17.2, K) H locs := hH
  have hN : cl_N S17.2 := hN
  refine lv_iconst (v := 1) hx hb dX4_gather_91 (by decide) ?_
  refine lv_istore_n (lv' := [(1, .int (1 : Int32)), (0, .ref (ad o))]) hx hb dX4_gather_92 rfl hl (by decide) rfl (fun ls hl => ?_)
  have hL93 : ∀ (n93 : Nat) (x1 : Int32) (S18 : ca) (H : Heap) (locs : List Loc) (ls : Array Slot) (o93 : ca), cl_N S18.2 → nm_H D Y (fun q => s0 ≤ q) s.heap X nl ad (S18.1.1, S18.1.2, S18.2, K) H locs → lv_has ls 2 [(0, .ref (ad o)), (1, .int x1)] → f_X4_gather_L93 o n93 x1 S18 = some o93 → (∀ (H : Heap) (locs : List Loc) (ls : Array Slot), cl_N o93.2 → nm_H D Y (fun q => s0 ≤ q) s.heap X nl ad (o93.1.1, o93.1.2, o93.2, K) H locs → lv_has ls 2 [] → W p l e R s m args below meth c H locs cells slots Q (F0 m 138 ls [])) → W p l e R s m args below meth c H locs cells slots Q (F0 m 93 ls []) := by
    intro n93
    induction n93 with
    | zero =>
      intro x1 S18 H locs ls o93 hN hH hl hf hX93
      cases hf
    | succ n93 ih93 =>
      intro x1 S18 H locs ls o93 hN hH hl hf hX93
      rw [f_X4_gather_L93] at hf
      refine lv_iload_n hx hb dX4_gather_93 rfl (lv_at hl 1 rfl) ?_
      refine lv_aload_n hx hb dX4_gather_94 rfl (lv_at hl 0 rfl) ?_
      refine gf_4_0 hK hx hb hts hown hH (cl_no0 hL ho) (cl_ko0 hL ho) (hts _ tw_40) (fun _ h9 => h9) dX4_gather_95 ?_
      refine nm_alen hx hb hK hH (cl_no1 hL ho) (Or.inr (cl_ko1 hL ho)) rfl dX4_gather_98 ?_
      refine lv_icmp_ge (tgt := 138) hx hb dX4_gather_99 (by decide) (fun c19 => ?_) (fun c19 => ?_)
      · have hf := nm_it c19 hf
        cases hf
        exact hX93 _ _ _ hN hH (lv_sub hl [] rfl)
      · have hf := nm_ie c19 hf
        refine lv_iload_n hx hb dX4_gather_102 rfl (lv_at hl 1 rfl) ?_
        refine lv_bipush (v := 64) hx hb dX4_gather_103 (by decide) ?_
        refine lv_irem hx hb dX4_gather_105 (by decide) ?_
        have hJ132 : ∀ (S20 : ca) (H : Heap) (locs : List Loc) (ls : Array Slot), cl_N S20.2 → nm_H D Y (fun q => s0 ≤ q) s.heap X nl ad (S20.1.1, S20.1.2, S20.2, K) H locs → lv_has ls 2 [(0, .ref (ad o)), (1, .int x1)] → f_X4_gather_J132 o x1 S20 (f_X4_gather_L93 o n93) = some o93 → W p l e R s m args below meth c H locs cells slots Q (F0 m 132 ls []) := by
          intro S20 H locs ls hN hH hl hf
          unfold f_X4_gather_J132 at hf
          refine lv_iinc (v := x1 + 1) (lv' := [(1, .int (x1 + 1)), (0, .ref (ad o))]) hx hb dX4_gather_132 hl (k := 1) rfl rfl (by decide) rfl (fun ls hl => ?_)
          refine lv_goto (tgt := 93) hx hb dX4_gather_135 (by decide) ?_
          exact ih93 (x1 + 1) S20 _ _ _ _ hN hH (lv_sub hl [1, 0] rfl) hf hX93
        refine lv_if_eq (tgt := 132) hx hb dX4_gather_106 (by decide) (fun c21 => ?_) (fun c21 => ?_)
        · have hf := nm_it c21 hf
          exact hJ132 S18 _ _ _ hN hH (lv_sub hl [0, 1] rfl) hf
        · have hf := nm_ie c21 hf
          refine lv_aload_n hx hb dX4_gather_109 rfl (lv_at hl 0 rfl) ?_
          refine lv_iload_n hx hb dX4_gather_110 rfl (lv_at hl 1 rfl) ?_
          refine lv_iconst (v := 1) hx hb dX4_gather_111 (by decide) ?_
          refine lv_isub hx hb dX4_gather_112 ?_
          refine lv_iload_n hx hb dX4_gather_113 rfl (lv_at hl 1 rfl) ?_
          refine lv_aload_n hx hb dX4_gather_114 rfl (lv_at hl 0 rfl) ?_
          refine gf_4_0 hK hx hb hts hown hH (cl_no0 hL ho) (cl_ko0 hL ho) (hts _ tw_40) (fun _ h9 => h9) dX4_gather_115 ?_
          refine lv_iload_n hx hb dX4_gather_118 rfl (lv_at hl 1 rfl) ?_
          refine lv_iconst (v := 1) hx hb dX4_gather_119 (by decide) ?_
          refine lv_isub hx hb dX4_gather_120 ?_
          obtain ⟨hi22, hf⟩ := nm_chk hf
          refine nm_lald hx hb hK hH (cl_no1 hL ho) (cl_ko1 hL ho) rfl hi22 dX4_gather_121 ?_
          refine lv_aload_n hx hb dX4_gather_122 rfl (lv_at hl 0 rfl) ?_
          refine gf_4_0 hK hx hb hts hown hH (cl_no0 hL ho) (cl_ko0 hL ho) (hts _ tw_40) (fun _ h9 => h9) dX4_gather_123 ?_
          refine lv_iload_n hx hb dX4_gather_126 rfl (lv_at hl 1 rfl) ?_
          obtain ⟨hi23, hf⟩ := nm_chk hf
          refine nm_lald hx hb hK hH (cl_no1 hL ho) (cl_ko1 hL ho) rfl hi23 dX4_gather_127 ?_
          refine lv_land hx hb dX4_gather_128 ?_
          obtain ⟨M24, hc25, hf⟩ := nm_sd1 hf
          obtain ⟨S26, eS26, hf⟩ := nm_let hf
          refine nm_callv (nm_runV (X := X) (nl := nl) (k_X4_unite hL hN ho (hf := hc25)) hx hb hml hown hts hs0 hK hZ hH tw_622 tw_619 tw_620 (sw_X4_unite) tw_3 hd_X4_unite (cl_no0 hL ho) (cl_ko0 hL ho) (by decide) rfl rfl rfl ⟨Nat.le_trans (Nat.le_of_ble_eq_true rfl) hRf, Nat.le_trans (Nat.le_of_ble_eq_true rfl) hRl⟩ rfl hl.1 rfl (Nat.le_of_ble_eq_true rfl) dX4_gather_129 ⟨Nat.le_trans (Nat.le_add_right _ _) hC.1, Nat.le_trans (Nat.le_add_right _ _) hC.2⟩) hH (fun H locs hH => ?_)
          have hH : nm_H D Y (fun q => s0 ≤ q) s.heap X nl ad (S26.1.1, S26.1.2, S26.2, K) H locs := by rw [eS26]; exact hH
          have hN : cl_N S26.2 := by rw [eS26]; exact hN
          exact hJ132 S26 _ _ _ hN hH (lv_sub hl [0, 1] rfl) hf
  obtain ⟨S27, hl28, hf⟩ := nm_sd1 hf
  refine hL93 nm_F (1 : Int32) S17 _ _ _ _ hN hH (lv_sub hl [1, 0] rfl) hl28 (fun H locs ls hN hH hl => ?_)
  have hl : lv_has ls 2 [] := hl
  have hH : nm_H D Y (fun q => s0 ≤ q) s.heap X nl ad (S27.1.1, S27.1.2, S27.2, K) H locs := hH
  have hN : cl_N S27.2 := hN
  exact nm_vretA hx hb hr hlocks hQ hRc hRs hC hN hAd hH hf dX4_gather_138
def f_X4_measure_L80 (o : Nat) (x1 : Int32) (v20 : Int32) : Nat → Int64 → Int32 → ca → Option (ca)
  | 0, _, _, _ => none
  | n80 + 1, x2, x5, S21 =>
    (if v20 ≤ x5 then
    some S21
    else
    nm_l (f_X0_lowest x2) fun v23 =>
    nm_c x1 (S21.2 (o + 5)) (
    nm_c ((S21.1.1 (o + 5) x1.toNatClampNeg) + x5) (S21.2 (o + 6)) (
    nm_c x1 (S21.2 (o + 1)) (
    nm_s1 (f_X4_measureStretch o S21.2 (S21.1.1 (o + 6) ((S21.1.1 (o + 5) x1.toNatClampNeg) + x5).toNatClampNeg) (((64 : Int32) * x1) + v23) (f_X0_stretch (S21.1.2 (o + 1) x1.toNatClampNeg) v23) S21.1) fun M27 =>
    nm_l (M27, S21.2) fun S29 =>
    nm_l (x2 &&& (x2 - (1 : Int64))) fun v30 =>
    f_X4_measure_L80 o x1 v20 n80 v30 (x5 + 1) S29))))
def f_X4_measure_L55 (o : Nat) : Nat → Int32 → ca → Option (ca)
  | 0, _, _ => none
  | n55 + 1, x1, S16 =>
    (if (64 : Int32) ≤ x1 then
    some S16
    else
    nm_c x1 (S16.2 (o + 1)) (
    nm_l (f_X0_heads (S16.1.2 (o + 1) x1.toNatClampNeg)) fun v19 =>
    nm_l (f_J13_bitCount_95d88 v19) fun v20 =>
    nm_s1 (f_X4_measure_L80 o x1 v20 nm_F v19 (0 : Int32) S16) fun S31 =>
    f_X4_measure_L55 o n55 (x1 + 1) S31))
def f_X4_measure (o : Nat) (S : ca) : Option (ca × Nat × Nat) :=
nm_a1 (cl_grow (o + 2) (S.1.1 o 1) S) fun S1 =>
nm_a1 (cl_grow (o + 3) (S1.1.1 o 1) S1) fun S5 =>
nm_a1 (cl_grow (o + 4) (S5.1.1 o 1) S5) fun S9 =>
nm_s1 (f_J7_fill_53178 (o + 2) S9.2 (0 : Int32) S9.1) fun M13 =>
nm_l (M13, S9.2) fun S15 =>
nm_s1 (f_X4_measure_L55 o nm_F (0 : Int32) S15) fun S33 =>
some (S33, 0, 0)
set_option maxHeartbeats 4000000 in
set_option maxRecDepth 100000 in
theorem k_X4_measure {l : Launch} {D : va_G} {Y : nm_Y} {s0 : Nat} {X : va_W} {ad : Nat → Nat} {nl : List Nat} {K : Nat → Nat} (hL : cl_L nl K) {o : Nat} (ho : cl_o o)  {S M0 : ca} {dc ds : Nat} (hN : cl_N S.2) (hf : f_X4_measure o S = some (M0, dc, ds)) :
    nm_Met l yX4_measure cX4_measure 7 none { frames := 3, cells := dc, slots := ds, locals := 64 } [.ref (ad o)] D Y s0 (nm_W Y X nl ad (S.1.1, S.1.2, S.2, K)) (nm_QvA D Y s0 X nl ad (M0.1.1, M0.1.2, M0.2, K)) dc ds := by
  refine nm_of (by decide) (Nat.le_of_ble_eq_true rfl) ?_
  intro p e R s m args below meth c Q ls hx hb hr hlocks hml hown hts hs0 hK hZ hRf hRl hRc hRs hQ hP hD hl
  have hH : nm_H D Y (fun q => s0 ≤ q) s.heap X nl ad (S.1.1, S.1.2, S.2, K) s.heap [] := ⟨hP, hD, va_S.rf⟩
  have hl : lv_has ls 7 [(0, .ref (ad o))] := hl
  obtain ⟨ad0, had0⟩ : ∃ y, y = ad := ⟨_, rfl⟩
  have hAd : cl_a ad0 ad := by rw [had0]; exact cl_a.rf
  rw [← had0] at hQ
  obtain ⟨cells, ecells⟩ : ∃ y, y = 0 := ⟨_, rfl⟩
  obtain ⟨slots, eslots⟩ : ∃ y, y = 0 := ⟨_, rfl⟩
  have hC : cells + dc ≤ R.cells ∧ slots + ds ≤ R.slots := ⟨by omega, by omega⟩
  refine W.widen (k := cells) (n := slots) (Nat.zero_le _) (Nat.zero_le _) ?_
  obtain ⟨mc, emc⟩ : ∃ y, y = dc := ⟨_, rfl⟩
  obtain ⟨ms, ems⟩ : ∃ y, y = ds := ⟨_, rfl⟩
  rw [← emc] at hRc hQ
  rw [← ems] at hRs hQ
  obtain ⟨tc, htc⟩ : ∃ y, y = cells + dc := ⟨_, rfl⟩
  obtain ⟨tsl, htsl⟩ : ∃ y, y = slots + ds := ⟨_, rfl⟩
  unfold f_X4_measure at hf
  refine lv_aload_n hx hb dX4_measure_0 rfl (lv_at hl 0 rfl) ?_
  refine lv_aload_n hx hb dX4_measure_1 rfl (lv_at hl 0 rfl) ?_
  refine gf_4_2 hK hx hb hts hown hH (cl_no0 hL ho) (cl_ko0 hL ho) (hts _ tw_46) (fun _ h9 => h9) dX4_measure_2 ?_
  refine lv_aload_n hx hb dX4_measure_5 rfl (lv_at hl 0 rfl) ?_
  refine gf_4_1 hK hx hb hts hown hH (cl_no0 hL ho) (cl_ko0 hL ho) (hts _ tw_42) (fun _ h9 => h9) dX4_measure_6 ?_
  obtain ⟨S1, c3, s4, dc, ds, hc2, hf, edc, eds⟩ := nm_ad1 hf
  refine gw_4_2 hx hb hml hL ho hown hts hs0 hK hZ hH hN tw_615 (hts _ tw_46) (fun _ h9 => h9) hc2 (Nat.le_trans (Nat.le_of_ble_eq_true rfl) hRf) (Nat.le_trans (Nat.le_of_ble_eq_true rfl) hRl) hl.1 (Nat.le_of_ble_eq_true rfl) dX4_measure_9 dX4_measure_12 ⟨by omega, by omega⟩ (fun ad hu H locs cells slots ec es hN hH => ?_)
  have hH : nm_H D Y (fun q => s0 ≤ q) s.heap X nl ad (S1.1.1, S1.1.2, S1.2, K) H locs := hH
  have hN : cl_N S1.2 := hN
  have hl : lv_has ls 7 [(0, .ref (ad o))] := by rw [hu o (cl_so ho)]; exact hl
  have hAd : cl_a ad0 ad := cl_a.tr hAd hu
  have hC : cells + dc ≤ R.cells ∧ slots + ds ≤ R.slots := ⟨by omega, by omega⟩
  refine lv_aload_n hx hb dX4_measure_15 rfl (lv_at hl 0 rfl) ?_
  refine lv_aload_n hx hb dX4_measure_16 rfl (lv_at hl 0 rfl) ?_
  refine gf_4_3 hK hx hb hts hown hH (cl_no0 hL ho) (cl_ko0 hL ho) (hts _ tw_50) (fun _ h9 => h9) dX4_measure_17 ?_
  refine lv_aload_n hx hb dX4_measure_20 rfl (lv_at hl 0 rfl) ?_
  refine gf_4_1 hK hx hb hts hown hH (cl_no0 hL ho) (cl_ko0 hL ho) (hts _ tw_42) (fun _ h9 => h9) dX4_measure_21 ?_
  obtain ⟨S5, c7, s8, dc, ds, hc6, hf, edc, eds⟩ := nm_ad1 hf
  refine gw_4_3 hx hb hml hL ho hown hts hs0 hK hZ hH hN tw_615 (hts _ tw_50) (fun _ h9 => h9) hc6 (Nat.le_trans (Nat.le_of_ble_eq_true rfl) hRf) (Nat.le_trans (Nat.le_of_ble_eq_true rfl) hRl) hl.1 (Nat.le_of_ble_eq_true rfl) dX4_measure_24 dX4_measure_27 ⟨by omega, by omega⟩ (fun ad hu H locs cells slots ec es hN hH => ?_)
  have hH : nm_H D Y (fun q => s0 ≤ q) s.heap X nl ad (S5.1.1, S5.1.2, S5.2, K) H locs := hH
  have hN : cl_N S5.2 := hN
  have hl : lv_has ls 7 [(0, .ref (ad o))] := by rw [hu o (cl_so ho)]; exact hl
  have hAd : cl_a ad0 ad := cl_a.tr hAd hu
  have hC : cells + dc ≤ R.cells ∧ slots + ds ≤ R.slots := ⟨by omega, by omega⟩
  refine lv_aload_n hx hb dX4_measure_30 rfl (lv_at hl 0 rfl) ?_
  refine lv_aload_n hx hb dX4_measure_31 rfl (lv_at hl 0 rfl) ?_
  refine gf_4_4 hK hx hb hts hown hH (cl_no0 hL ho) (cl_ko0 hL ho) (hts _ tw_53) (fun _ h9 => h9) dX4_measure_32 ?_
  refine lv_aload_n hx hb dX4_measure_35 rfl (lv_at hl 0 rfl) ?_
  refine gf_4_1 hK hx hb hts hown hH (cl_no0 hL ho) (cl_ko0 hL ho) (hts _ tw_42) (fun _ h9 => h9) dX4_measure_36 ?_
  obtain ⟨S9, c11, s12, dc, ds, hc10, hf, edc, eds⟩ := nm_ad1 hf
  refine gw_4_4 hx hb hml hL ho hown hts hs0 hK hZ hH hN tw_615 (hts _ tw_53) (fun _ h9 => h9) hc10 (Nat.le_trans (Nat.le_of_ble_eq_true rfl) hRf) (Nat.le_trans (Nat.le_of_ble_eq_true rfl) hRl) hl.1 (Nat.le_of_ble_eq_true rfl) dX4_measure_39 dX4_measure_42 ⟨by omega, by omega⟩ (fun ad hu H locs cells slots ec es hN hH => ?_)
  have hH : nm_H D Y (fun q => s0 ≤ q) s.heap X nl ad (S9.1.1, S9.1.2, S9.2, K) H locs := hH
  have hN : cl_N S9.2 := hN
  have hl : lv_has ls 7 [(0, .ref (ad o))] := by rw [hu o (cl_so ho)]; exact hl
  have hAd : cl_a ad0 ad := cl_a.tr hAd hu
  have hC : cells + dc ≤ R.cells ∧ slots + ds ≤ R.slots := ⟨by omega, by omega⟩
  refine lv_aload_n hx hb dX4_measure_45 rfl (lv_at hl 0 rfl) ?_
  refine gf_4_2 hK hx hb hts hown hH (cl_no0 hL ho) (cl_ko0 hL ho) (hts _ tw_46) (fun _ h9 => h9) dX4_measure_46 ?_
  refine lv_iconst (v := 0) hx hb dX4_measure_49 (by decide) ?_
  obtain ⟨M13, hc14, hf⟩ := nm_sd1 hf
  obtain ⟨S15, eS15, hf⟩ := nm_let hf
  refine nm_callv (nm_runS (X := X) (nl := nl) (k_J7_fill_53178 hL hN (cl_no2 hL ho) (cl_ko2 hL ho) (hf := hc14)) hx hb hml hown hts hs0 hK hZ hH tw_82 tw_646 tw_81 tw_4 hd_J7_fill_53178 rfl rfl ⟨Nat.le_trans (Nat.le_of_ble_eq_true rfl) hRf, Nat.le_trans (Nat.le_of_ble_eq_true rfl) hRl⟩ rfl hl.1 rfl (Nat.le_of_ble_eq_true rfl) dX4_measure_50 ⟨Nat.le_trans (Nat.le_add_right _ _) hC.1, Nat.le_trans (Nat.le_add_right _ _) hC.2⟩) hH (fun H locs hH => ?_)
  have hH : nm_H D Y (fun q => s0 ≤ q) s.heap X nl ad (S15.1.1, S15.1.2, S15.2, K) H locs := by rw [eS15]; exact hH
  have hN : cl_N S15.2 := by rw [eS15]; exact hN
  refine lv_iconst (v := 0) hx hb dX4_measure_53 (by decide) ?_
  refine lv_istore_n (lv' := [(1, .int (0 : Int32)), (0, .ref (ad o))]) hx hb dX4_measure_54 rfl hl (by decide) rfl (fun ls hl => ?_)
  have hL55 : ∀ (n55 : Nat) (x1 : Int32) (S16 : ca) (H : Heap) (locs : List Loc) (ls : Array Slot) (o55 : ca), cl_N S16.2 → nm_H D Y (fun q => s0 ≤ q) s.heap X nl ad (S16.1.1, S16.1.2, S16.2, K) H locs → lv_has ls 7 [(0, .ref (ad o)), (1, .int x1)] → f_X4_measure_L55 o n55 x1 S16 = some o55 → (∀ (H : Heap) (locs : List Loc) (ls : Array Slot), cl_N o55.2 → nm_H D Y (fun q => s0 ≤ q) s.heap X nl ad (o55.1.1, o55.1.2, o55.2, K) H locs → lv_has ls 7 [] → W p l e R s m args below meth c H locs cells slots Q (F0 m 147 ls [])) → W p l e R s m args below meth c H locs cells slots Q (F0 m 55 ls []) := by
    intro n55
    induction n55 with
    | zero =>
      intro x1 S16 H locs ls o55 hN hH hl hf hX55
      cases hf
    | succ n55 ih55 =>
      intro x1 S16 H locs ls o55 hN hH hl hf hX55
      rw [f_X4_measure_L55] at hf
      refine lv_iload_n hx hb dX4_measure_55 rfl (lv_at hl 1 rfl) ?_
      refine lv_bipush (v := 64) hx hb dX4_measure_56 (by decide) ?_
      refine lv_icmp_ge (tgt := 147) hx hb dX4_measure_58 (by decide) (fun c17 => ?_) (fun c17 => ?_)
      · have hf := nm_it c17 hf
        cases hf
        exact hX55 _ _ _ hN hH (lv_sub hl [] rfl)
      · have hf := nm_ie c17 hf
        refine lv_aload_n hx hb dX4_measure_61 rfl (lv_at hl 0 rfl) ?_
        refine gf_4_0 hK hx hb hts hown hH (cl_no0 hL ho) (cl_ko0 hL ho) (hts _ tw_40) (fun _ h9 => h9) dX4_measure_62 ?_
        refine lv_iload_n hx hb dX4_measure_65 rfl (lv_at hl 1 rfl) ?_
        obtain ⟨hi18, hf⟩ := nm_chk hf
        refine nm_lald hx hb hK hH (cl_no1 hL ho) (cl_ko1 hL ho) rfl hi18 dX4_measure_66 ?_
        refine nm_calll (nm_runS (X := X) (nl := nl) (k_X0_heads hL hN (hf := (rfl : f_X0_heads (S16.1.2 (o + 1) x1.toNatClampNeg) = _))) hx hb hml hown hts hs0 hK hZ hH tw_608 tw_606 tw_607 tw_13 hd_X0_heads rfl rfl ⟨Nat.le_trans (Nat.le_of_ble_eq_true rfl) hRf, Nat.le_trans (Nat.le_of_ble_eq_true rfl) hRl⟩ rfl hl.1 rfl (Nat.le_of_ble_eq_true rfl) dX4_measure_67 ⟨Nat.le_trans (Nat.le_add_right _ _) hC.1, Nat.le_trans (Nat.le_add_right _ _) hC.2⟩) hH (fun H locs hH => ?_)
        have hH : nm_H D Y (fun q => s0 ≤ q) s.heap X nl ad (S16.1.1, S16.1.2, S16.2, K) H locs := hH
        obtain ⟨v19, ev19, hf⟩ := nm_let hf
        refine nm_topl ev19 ?_
        refine lv_lstore_n (lv' := [(2, .long v19), (0, .ref (ad o)), (1, .int x1)]) hx hb dX4_measure_70 rfl hl (by decide) rfl (fun ls hl => ?_)
        refine lv_lload_n hx hb dX4_measure_71 rfl (lv_at hl 0 rfl) ?_
        refine nm_calli (nm_runS (X := X) (nl := nl) (k_J13_bitCount_95d88 hL hN (hf := (rfl : f_J13_bitCount_95d88 v19 = _))) hx hb hml hown hts hs0 hK hZ hH tw_611 tw_609 tw_610 tw_17 hd_J13_bitCount_95d88 rfl rfl ⟨Nat.le_trans (Nat.le_of_ble_eq_true rfl) hRf, Nat.le_trans (Nat.le_of_ble_eq_true rfl) hRl⟩ rfl hl.1 rfl (Nat.le_of_ble_eq_true rfl) dX4_measure_72 ⟨Nat.le_trans (Nat.le_add_right _ _) hC.1, Nat.le_trans (Nat.le_add_right _ _) hC.2⟩) hH (fun H locs hH => ?_)
        have hH : nm_H D Y (fun q => s0 ≤ q) s.heap X nl ad (S16.1.1, S16.1.2, S16.2, K) H locs := hH
        obtain ⟨v20, ev20, hf⟩ := nm_let hf
        refine nm_topi ev20 ?_
        refine lv_istore (lv' := [(4, .int v20), (2, .long v19), (0, .ref (ad o)), (1, .int x1)]) hx hb dX4_measure_75 hl (by decide) rfl (fun ls hl => ?_)
        refine lv_iconst (v := 0) hx hb dX4_measure_77 (by decide) ?_
        refine lv_istore (lv' := [(5, .int (0 : Int32)), (4, .int v20), (2, .long v19), (0, .ref (ad o)), (1, .int x1)]) hx hb dX4_measure_78 hl (by decide) rfl (fun ls hl => ?_)
        have hL80 : ∀ (n80 : Nat) (x2 : Int64) (x5 : Int32) (S21 : ca) (H : Heap) (locs : List Loc) (ls : Array Slot) (o80 : ca), cl_N S21.2 → nm_H D Y (fun q => s0 ≤ q) s.heap X nl ad (S21.1.1, S21.1.2, S21.2, K) H locs → lv_has ls 7 [(0, .ref (ad o)), (1, .int x1), (2, .long x2), (4, .int v20), (5, .int x5)] → f_X4_measure_L80 o x1 v20 n80 x2 x5 S21 = some o80 → (∀ (H : Heap) (locs : List Loc) (ls : Array Slot), cl_N o80.2 → nm_H D Y (fun q => s0 ≤ q) s.heap X nl ad (o80.1.1, o80.1.2, o80.2, K) H locs → lv_has ls 7 [(0, .ref (ad o)), (1, .int x1)] → W p l e R s m args below meth c H locs cells slots Q (F0 m 141 ls [])) → W p l e R s m args below meth c H locs cells slots Q (F0 m 80 ls []) := by
          intro n80
          induction n80 with
          | zero =>
            intro x2 x5 S21 H locs ls o80 hN hH hl hf hX80
            cases hf
          | succ n80 ih80 =>
            intro x2 x5 S21 H locs ls o80 hN hH hl hf hX80
            rw [f_X4_measure_L80] at hf
            refine lv_iload hx hb dX4_measure_80 (lv_at hl 4 rfl) ?_
            refine lv_iload hx hb dX4_measure_82 (lv_at hl 3 rfl) ?_
            refine lv_icmp_ge (tgt := 141) hx hb dX4_measure_84 (by decide) (fun c22 => ?_) (fun c22 => ?_)
            · have hf := nm_it c22 hf
              cases hf
              exact hX80 _ _ _ hN hH (lv_sub hl [0, 1] rfl)
            · have hf := nm_ie c22 hf
              refine lv_lload_n hx hb dX4_measure_87 rfl (lv_at hl 2 rfl) ?_
              refine nm_calli (nm_runS (X := X) (nl := nl) (k_X0_lowest hL hN (hf := (rfl : f_X0_lowest x2 = _))) hx hb hml hown hts hs0 hK hZ hH tw_625 tw_623 tw_624 tw_13 hd_X0_lowest rfl rfl ⟨Nat.le_trans (Nat.le_of_ble_eq_true rfl) hRf, Nat.le_trans (Nat.le_of_ble_eq_true rfl) hRl⟩ rfl hl.1 rfl (Nat.le_of_ble_eq_true rfl) dX4_measure_88 ⟨Nat.le_trans (Nat.le_add_right _ _) hC.1, Nat.le_trans (Nat.le_add_right _ _) hC.2⟩) hH (fun H locs hH => ?_)
              have hH : nm_H D Y (fun q => s0 ≤ q) s.heap X nl ad (S21.1.1, S21.1.2, S21.2, K) H locs := hH
              obtain ⟨v23, ev23, hf⟩ := nm_let hf
              refine nm_topi ev23 ?_
              refine lv_istore (lv' := [(6, .int v23), (0, .ref (ad o)), (1, .int x1), (2, .long x2), (4, .int v20), (5, .int x5)]) hx hb dX4_measure_91 hl (by decide) rfl (fun ls hl => ?_)
              refine lv_aload_n hx hb dX4_measure_93 rfl (lv_at hl 1 rfl) ?_
              refine lv_aload_n hx hb dX4_measure_94 rfl (lv_at hl 1 rfl) ?_
              refine gf_4_6 hK hx hb hts hown hH (cl_no0 hL ho) (cl_ko0 hL ho) (hts _ tw_56) (fun _ h9 => h9) dX4_measure_95 ?_
              refine lv_aload_n hx hb dX4_measure_98 rfl (lv_at hl 1 rfl) ?_
              refine gf_4_5 hK hx hb hts hown hH (cl_no0 hL ho) (cl_ko0 hL ho) (hts _ tw_55) (fun _ h9 => h9) dX4_measure_99 ?_
              refine lv_iload_n hx hb dX4_measure_102 rfl (lv_at hl 2 rfl) ?_
              obtain ⟨hi24, hf⟩ := nm_chk hf
              refine nm_iald hx hb hK hH (cl_no5 hL ho) (cl_ko5 hL ho) rfl hi24 dX4_measure_103 ?_
              refine lv_iload hx hb dX4_measure_104 (lv_at hl 5 rfl) ?_
              refine lv_iadd hx hb dX4_measure_106 ?_
              obtain ⟨hi25, hf⟩ := nm_chk hf
              refine nm_iald hx hb hK hH (cl_no6 hL ho) (cl_ko6 hL ho) rfl hi25 dX4_measure_107 ?_
              refine lv_bipush (v := 64) hx hb dX4_measure_108 (by decide) ?_
              refine lv_iload_n hx hb dX4_measure_110 rfl (lv_at hl 2 rfl) ?_
              refine lv_imul hx hb dX4_measure_111 ?_
              refine lv_iload hx hb dX4_measure_112 (lv_at hl 0 rfl) ?_
              refine lv_iadd hx hb dX4_measure_114 ?_
              refine lv_aload_n hx hb dX4_measure_115 rfl (lv_at hl 1 rfl) ?_
              refine gf_4_0 hK hx hb hts hown hH (cl_no0 hL ho) (cl_ko0 hL ho) (hts _ tw_40) (fun _ h9 => h9) dX4_measure_116 ?_
              refine lv_iload_n hx hb dX4_measure_119 rfl (lv_at hl 2 rfl) ?_
              obtain ⟨hi26, hf⟩ := nm_chk hf
              refine nm_lald hx hb hK hH (cl_no1 hL ho) (cl_ko1 hL ho) rfl hi26 dX4_measure_120 ?_
              refine lv_iload hx hb dX4_measure_121 (lv_at hl 0 rfl) ?_
              refine nm_calli (nm_runS (X := X) (nl := nl) (k_X0_stretch hL hN (hf := (rfl : f_X0_stretch (S21.1.2 (o + 1) x1.toNatClampNeg) v23 = _))) hx hb hml hown hts hs0 hK hZ hH tw_649 tw_647 tw_648 tw_13 hd_X0_stretch rfl rfl ⟨Nat.le_trans (Nat.le_of_ble_eq_true rfl) hRf, Nat.le_trans (Nat.le_of_ble_eq_true rfl) hRl⟩ rfl hl.1 rfl (Nat.le_of_ble_eq_true rfl) dX4_measure_123 ⟨Nat.le_trans (Nat.le_add_right _ _) hC.1, Nat.le_trans (Nat.le_add_right _ _) hC.2⟩) hH (fun H locs hH => ?_)
              have hH : nm_H D Y (fun q => s0 ≤ q) s.heap X nl ad (S21.1.1, S21.1.2, S21.2, K) H locs := hH
              obtain ⟨M27, hc28, hf⟩ := nm_sd1 hf
              obtain ⟨S29, eS29, hf⟩ := nm_let hf
              refine nm_callv (nm_runV (X := X) (nl := nl) (k_X4_measureStretch hL hN ho (hf := hc28)) hx hb hml hown hts hs0 hK hZ hH tw_654 tw_651 tw_653 (sw_X4_measureStretch) tw_3 hd_X4_measureStretch (cl_no0 hL ho) (cl_ko0 hL ho) (by decide) rfl rfl rfl ⟨Nat.le_trans (Nat.le_of_ble_eq_true rfl) hRf, Nat.le_trans (Nat.le_of_ble_eq_true rfl) hRl⟩ rfl hl.1 rfl (Nat.le_of_ble_eq_true rfl) dX4_measure_126 ⟨Nat.le_trans (Nat.le_add_right _ _) hC.1, Nat.le_trans (Nat.le_add_right _ _) hC.2⟩) hH (fun H locs hH => ?_)
              have hH : nm_H D Y (fun q => s0 ≤ q) s.heap X nl ad (S29.1.1, S29.1.2, S29.2, K) H locs := by rw [eS29]; exact hH
              have hN : cl_N S29.2 := by rw [eS29]; exact hN
              refine lv_lload_n hx hb dX4_measure_129 rfl (lv_at hl 3 rfl) ?_
              refine lv_lload_n hx hb dX4_measure_130 rfl (lv_at hl 3 rfl) ?_
              refine lv_lconst (v := 1) hx hb dX4_measure_131 (by decide) ?_
              refine lv_lsub hx hb dX4_measure_132 ?_
              refine lv_land hx hb dX4_measure_133 ?_
              obtain ⟨v30, ev30, hf⟩ := nm_let hf
              refine nm_topl ev30 ?_
              refine lv_lstore_n (lv' := [(2, .long v30), (6, .int v23), (0, .ref (ad o)), (1, .int x1), (4, .int v20), (5, .int x5)]) hx hb dX4_measure_134 rfl hl (by decide) rfl (fun ls hl => ?_)
              refine lv_iinc (v := x5 + 1) (lv' := [(5, .int (x5 + 1)), (2, .long v30), (6, .int v23), (0, .ref (ad o)), (1, .int x1), (4, .int v20)]) hx hb dX4_measure_135 hl (k := 5) rfl rfl (by decide) rfl (fun ls hl => ?_)
              refine lv_goto (tgt := 80) hx hb dX4_measure_138 (by decide) ?_
              exact ih80 v30 (x5 + 1) S29 _ _ _ _ hN hH (lv_sub hl [3, 4, 1, 5, 0] rfl) hf hX80
        obtain ⟨S31, hl32, hf⟩ := nm_sd1 hf
        refine hL80 nm_F v19 (0 : Int32) S16 _ _ _ _ hN hH (lv_sub hl [3, 4, 2, 1, 0] rfl) hl32 (fun H locs ls hN hH hl => ?_)
        have hl : lv_has ls 7 [(0, .ref (ad o)), (1, .int x1)] := hl
        have hH : nm_H D Y (fun q => s0 ≤ q) s.heap X nl ad (S31.1.1, S31.1.2, S31.2, K) H locs := hH
        have hN : cl_N S31.2 := hN
        refine lv_iinc (v := x1 + 1) (lv' := [(1, .int (x1 + 1)), (0, .ref (ad o))]) hx hb dX4_measure_141 hl (k := 1) rfl rfl (by decide) rfl (fun ls hl => ?_)
        refine lv_goto (tgt := 55) hx hb dX4_measure_144 (by decide) ?_
        exact ih55 (x1 + 1) S31 _ _ _ _ hN hH (lv_sub hl [1, 0] rfl) hf hX55
  obtain ⟨S33, hl34, hf⟩ := nm_sd1 hf
  refine hL55 nm_F (0 : Int32) S15 _ _ _ _ hN hH (lv_sub hl [1, 0] rfl) hl34 (fun H locs ls hN hH hl => ?_)
  have hl : lv_has ls 7 [] := hl
  have hH : nm_H D Y (fun q => s0 ≤ q) s.heap X nl ad (S33.1.1, S33.1.2, S33.2, K) H locs := hH
  have hN : cl_N S33.2 := hN
  exact nm_vretA hx hb hr hlocks hQ hRc hRs hC hN hAd hH hf dX4_measure_147
def f_X4_touch_L58 (o : Nat) (x3 : Int32) (v13 : Int32) : Nat → Int64 → Int32 → ca → Option (ca)
  | 0, _, _, _ => none
  | n58 + 1, x4, x7, S14 =>
    (if v13 ≤ x7 then
    some S14
    else
    nm_s1 (f_X4_stretchAt o S14.2 x3 (f_X0_lowest x4) S14.1) fun r16 =>
    nm_c r16 (S14.2 (o + 6)) (
    nm_c (S14.1.1 (o + 6) r16.toNatClampNeg) (S14.2 (o + 7)) (
    nm_l (((nm_up S14.1.1 (o + 7) ((S14.1.1 (o + 6) r16.toNatClampNeg).toNatClampNeg) (1 : Int32), S14.1.2), S14.2)) fun S20 =>
    nm_l (x4 &&& (x4 - (1 : Int64))) fun v21 =>
    f_X4_touch_L58 o x3 v13 n58 v21 (x7 + 1) S20)))
def f_X4_touch_L25 (o : Nat) (x2 : Int32) : Nat → Int32 → ca → Option (ca)
  | 0, _, _ => none
  | n25 + 1, x3, S8 =>
    (if (64 : Int32) ≤ x3 then
    some S8
    else
    nm_c x3 (S8.2 (o + 1)) (
    nm_c (x2 + x3) 1024 (
    nm_l (f_X0_heads ((S8.1.2 (o + 1) x3.toNatClampNeg) &&& (S8.1.2 101 (x2 + x3).toNatClampNeg))) fun v12 =>
    nm_l (f_J13_bitCount_95d88 v12) fun v13 =>
    nm_s1 (f_X4_touch_L58 o x3 v13 nm_F v12 (0 : Int32) S8) fun S22 =>
    f_X4_touch_L25 o x2 n25 (x3 + 1) S22)))
def f_X4_touch (o : Nat) (x2 : Int32) (S : ca) : Option (ca × Nat × Nat) :=
nm_a1 (cl_grow (o + 7) (S.1.1 o 1) S) fun S1 =>
nm_s1 (f_J7_fill_53178 (o + 7) S1.2 (0 : Int32) S1.1) fun M5 =>
nm_l (M5, S1.2) fun S7 =>
nm_s1 (f_X4_touch_L25 o x2 nm_F (0 : Int32) S7) fun S24 =>
some (S24, 0, 0)
set_option maxHeartbeats 4000000 in
set_option maxRecDepth 100000 in
theorem k_X4_touch {l : Launch} {D : va_G} {Y : nm_Y} {s0 : Nat} {X : va_W} {ad : Nat → Nat} {nl : List Nat} {K : Nat → Nat} (hL : cl_L nl K) {o : Nat} (ho : cl_o o) {x2 : Int32} {S M0 : ca} {dc ds : Nat} (hN : cl_N S.2) (hf : f_X4_touch o x2 S = some (M0, dc, ds)) :
    nm_Met l yX4_touch cX4_touch 8 none { frames := 2, cells := dc, slots := ds, locals := 45 } [.ref (ad o), .ref (ad 101), .int x2] D Y s0 (nm_W Y X nl ad (S.1.1, S.1.2, S.2, K)) (nm_QvA D Y s0 X nl ad (M0.1.1, M0.1.2, M0.2, K)) dc ds := by
  refine nm_of (by decide) (Nat.le_of_ble_eq_true rfl) ?_
  intro p e R s m args below meth c Q ls hx hb hr hlocks hml hown hts hs0 hK hZ hRf hRl hRc hRs hQ hP hD hl
  have hH : nm_H D Y (fun q => s0 ≤ q) s.heap X nl ad (S.1.1, S.1.2, S.2, K) s.heap [] := ⟨hP, hD, va_S.rf⟩
  have hl : lv_has ls 8 [(0, .ref (ad o)), (1, .ref (ad 101)), (2, .int x2)] := hl
  obtain ⟨ad0, had0⟩ : ∃ y, y = ad := ⟨_, rfl⟩
  have hAd : cl_a ad0 ad := by rw [had0]; exact cl_a.rf
  rw [← had0] at hQ
  obtain ⟨cells, ecells⟩ : ∃ y, y = 0 := ⟨_, rfl⟩
  obtain ⟨slots, eslots⟩ : ∃ y, y = 0 := ⟨_, rfl⟩
  have hC : cells + dc ≤ R.cells ∧ slots + ds ≤ R.slots := ⟨by omega, by omega⟩
  refine W.widen (k := cells) (n := slots) (Nat.zero_le _) (Nat.zero_le _) ?_
  obtain ⟨mc, emc⟩ : ∃ y, y = dc := ⟨_, rfl⟩
  obtain ⟨ms, ems⟩ : ∃ y, y = ds := ⟨_, rfl⟩
  rw [← emc] at hRc hQ
  rw [← ems] at hRs hQ
  obtain ⟨tc, htc⟩ : ∃ y, y = cells + dc := ⟨_, rfl⟩
  obtain ⟨tsl, htsl⟩ : ∃ y, y = slots + ds := ⟨_, rfl⟩
  unfold f_X4_touch at hf
  refine lv_aload_n hx hb dX4_touch_0 rfl (lv_at hl 0 rfl) ?_
  refine lv_aload_n hx hb dX4_touch_1 rfl (lv_at hl 0 rfl) ?_
  refine gf_4_8 hK hx hb hts hown hH (cl_no0 hL ho) (cl_ko0 hL ho) (hts _ tw_58) (fun _ h9 => h9) dX4_touch_2 ?_
  refine lv_aload_n hx hb dX4_touch_5 rfl (lv_at hl 0 rfl) ?_
  refine gf_4_1 hK hx hb hts hown hH (cl_no0 hL ho) (cl_ko0 hL ho) (hts _ tw_42) (fun _ h9 => h9) dX4_touch_6 ?_
  obtain ⟨S1, c3, s4, dc, ds, hc2, hf, edc, eds⟩ := nm_ad1 hf
  refine gw_4_8 hx hb hml hL ho hown hts hs0 hK hZ hH hN tw_615 (hts _ tw_58) (fun _ h9 => h9) hc2 (Nat.le_trans (Nat.le_of_ble_eq_true rfl) hRf) (Nat.le_trans (Nat.le_of_ble_eq_true rfl) hRl) hl.1 (Nat.le_of_ble_eq_true rfl) dX4_touch_9 dX4_touch_12 ⟨by omega, by omega⟩ (fun ad hu H locs cells slots ec es hN hH => ?_)
  have hH : nm_H D Y (fun q => s0 ≤ q) s.heap X nl ad (S1.1.1, S1.1.2, S1.2, K) H locs := hH
  have hN : cl_N S1.2 := hN
  have hl : lv_has ls 8 [(0, .ref (ad o)), (1, .ref (ad 101)), (2, .int x2)] := by rw [hu o (cl_so ho), hu 101 (by decide)]; exact hl
  have hAd : cl_a ad0 ad := cl_a.tr hAd hu
  have hC : cells + dc ≤ R.cells ∧ slots + ds ≤ R.slots := ⟨by omega, by omega⟩
  refine lv_aload_n hx hb dX4_touch_15 rfl (lv_at hl 0 rfl) ?_
  refine gf_4_8 hK hx hb hts hown hH (cl_no0 hL ho) (cl_ko0 hL ho) (hts _ tw_58) (fun _ h9 => h9) dX4_touch_16 ?_
  refine lv_iconst (v := 0) hx hb dX4_touch_19 (by decide) ?_
  obtain ⟨M5, hc6, hf⟩ := nm_sd1 hf
  obtain ⟨S7, eS7, hf⟩ := nm_let hf
  refine nm_callv (nm_runS (X := X) (nl := nl) (k_J7_fill_53178 hL hN (cl_no7 hL ho) (cl_ko7 hL ho) (hf := hc6)) hx hb hml hown hts hs0 hK hZ hH tw_82 tw_646 tw_81 tw_4 hd_J7_fill_53178 rfl rfl ⟨Nat.le_trans (Nat.le_of_ble_eq_true rfl) hRf, Nat.le_trans (Nat.le_of_ble_eq_true rfl) hRl⟩ rfl hl.1 rfl (Nat.le_of_ble_eq_true rfl) dX4_touch_20 ⟨Nat.le_trans (Nat.le_add_right _ _) hC.1, Nat.le_trans (Nat.le_add_right _ _) hC.2⟩) hH (fun H locs hH => ?_)
  have hH : nm_H D Y (fun q => s0 ≤ q) s.heap X nl ad (S7.1.1, S7.1.2, S7.2, K) H locs := by rw [eS7]; exact hH
  have hN : cl_N S7.2 := by rw [eS7]; exact hN
  refine lv_iconst (v := 0) hx hb dX4_touch_23 (by decide) ?_
  refine lv_istore_n (lv' := [(3, .int (0 : Int32)), (0, .ref (ad o)), (1, .ref (ad 101)), (2, .int x2)]) hx hb dX4_touch_24 rfl hl (by decide) rfl (fun ls hl => ?_)
  have hL25 : ∀ (n25 : Nat) (x3 : Int32) (S8 : ca) (H : Heap) (locs : List Loc) (ls : Array Slot) (o25 : ca), cl_N S8.2 → nm_H D Y (fun q => s0 ≤ q) s.heap X nl ad (S8.1.1, S8.1.2, S8.2, K) H locs → lv_has ls 8 [(0, .ref (ad o)), (1, .ref (ad 101)), (2, .int x2), (3, .int x3)] → f_X4_touch_L25 o x2 n25 x3 S8 = some o25 → (∀ (H : Heap) (locs : List Loc) (ls : Array Slot), cl_N o25.2 → nm_H D Y (fun q => s0 ≤ q) s.heap X nl ad (o25.1.1, o25.1.2, o25.2, K) H locs → lv_has ls 8 [] → W p l e R s m args below meth c H locs cells slots Q (F0 m 107 ls [])) → W p l e R s m args below meth c H locs cells slots Q (F0 m 25 ls []) := by
    intro n25
    induction n25 with
    | zero =>
      intro x3 S8 H locs ls o25 hN hH hl hf hX25
      cases hf
    | succ n25 ih25 =>
      intro x3 S8 H locs ls o25 hN hH hl hf hX25
      rw [f_X4_touch_L25] at hf
      refine lv_iload_n hx hb dX4_touch_25 rfl (lv_at hl 3 rfl) ?_
      refine lv_bipush (v := 64) hx hb dX4_touch_26 (by decide) ?_
      refine lv_icmp_ge (tgt := 107) hx hb dX4_touch_28 (by decide) (fun c9 => ?_) (fun c9 => ?_)
      · have hf := nm_it c9 hf
        cases hf
        exact hX25 _ _ _ hN hH (lv_sub hl [] rfl)
      · have hf := nm_ie c9 hf
        refine lv_aload_n hx hb dX4_touch_31 rfl (lv_at hl 0 rfl) ?_
        refine gf_4_0 hK hx hb hts hown hH (cl_no0 hL ho) (cl_ko0 hL ho) (hts _ tw_40) (fun _ h9 => h9) dX4_touch_32 ?_
        refine lv_iload_n hx hb dX4_touch_35 rfl (lv_at hl 3 rfl) ?_
        obtain ⟨hi10, hf⟩ := nm_chk hf
        refine nm_lald hx hb hK hH (cl_no1 hL ho) (cl_ko1 hL ho) rfl hi10 dX4_touch_36 ?_
        refine lv_aload_n hx hb dX4_touch_37 rfl (lv_at hl 1 rfl) ?_
        refine lv_iload_n hx hb dX4_touch_38 rfl (lv_at hl 2 rfl) ?_
        refine lv_iload_n hx hb dX4_touch_39 rfl (lv_at hl 3 rfl) ?_
        refine lv_iadd hx hb dX4_touch_40 ?_
        obtain ⟨hi11, hf⟩ := nm_chk hf
        refine nm_lald hx hb hK hH (cl_n101 hL) (cl_k101 hL) (cl_l101 hN) hi11 dX4_touch_41 ?_
        refine lv_land hx hb dX4_touch_42 ?_
        refine nm_calll (nm_runS (X := X) (nl := nl) (k_X0_heads hL hN (hf := (rfl : f_X0_heads ((S8.1.2 (o + 1) x3.toNatClampNeg) &&& (S8.1.2 101 (x2 + x3).toNatClampNeg)) = _))) hx hb hml hown hts hs0 hK hZ hH tw_608 tw_606 tw_607 tw_13 hd_X0_heads rfl rfl ⟨Nat.le_trans (Nat.le_of_ble_eq_true rfl) hRf, Nat.le_trans (Nat.le_of_ble_eq_true rfl) hRl⟩ rfl hl.1 rfl (Nat.le_of_ble_eq_true rfl) dX4_touch_43 ⟨Nat.le_trans (Nat.le_add_right _ _) hC.1, Nat.le_trans (Nat.le_add_right _ _) hC.2⟩) hH (fun H locs hH => ?_)
        have hH : nm_H D Y (fun q => s0 ≤ q) s.heap X nl ad (S8.1.1, S8.1.2, S8.2, K) H locs := hH
        obtain ⟨v12, ev12, hf⟩ := nm_let hf
        refine nm_topl ev12 ?_
        refine lv_lstore (lv' := [(4, .long v12), (0, .ref (ad o)), (1, .ref (ad 101)), (2, .int x2), (3, .int x3)]) hx hb dX4_touch_46 hl (by decide) rfl (fun ls hl => ?_)
        refine lv_lload hx hb dX4_touch_48 (lv_at hl 0 rfl) ?_
        refine nm_calli (nm_runS (X := X) (nl := nl) (k_J13_bitCount_95d88 hL hN (hf := (rfl : f_J13_bitCount_95d88 v12 = _))) hx hb hml hown hts hs0 hK hZ hH tw_611 tw_609 tw_610 tw_17 hd_J13_bitCount_95d88 rfl rfl ⟨Nat.le_trans (Nat.le_of_ble_eq_true rfl) hRf, Nat.le_trans (Nat.le_of_ble_eq_true rfl) hRl⟩ rfl hl.1 rfl (Nat.le_of_ble_eq_true rfl) dX4_touch_50 ⟨Nat.le_trans (Nat.le_add_right _ _) hC.1, Nat.le_trans (Nat.le_add_right _ _) hC.2⟩) hH (fun H locs hH => ?_)
        have hH : nm_H D Y (fun q => s0 ≤ q) s.heap X nl ad (S8.1.1, S8.1.2, S8.2, K) H locs := hH
        obtain ⟨v13, ev13, hf⟩ := nm_let hf
        refine nm_topi ev13 ?_
        refine lv_istore (lv' := [(6, .int v13), (4, .long v12), (0, .ref (ad o)), (1, .ref (ad 101)), (2, .int x2), (3, .int x3)]) hx hb dX4_touch_53 hl (by decide) rfl (fun ls hl => ?_)
        refine lv_iconst (v := 0) hx hb dX4_touch_55 (by decide) ?_
        refine lv_istore (lv' := [(7, .int (0 : Int32)), (6, .int v13), (4, .long v12), (0, .ref (ad o)), (1, .ref (ad 101)), (2, .int x2), (3, .int x3)]) hx hb dX4_touch_56 hl (by decide) rfl (fun ls hl => ?_)
        have hL58 : ∀ (n58 : Nat) (x4 : Int64) (x7 : Int32) (S14 : ca) (H : Heap) (locs : List Loc) (ls : Array Slot) (o58 : ca), cl_N S14.2 → nm_H D Y (fun q => s0 ≤ q) s.heap X nl ad (S14.1.1, S14.1.2, S14.2, K) H locs → lv_has ls 8 [(0, .ref (ad o)), (1, .ref (ad 101)), (2, .int x2), (3, .int x3), (4, .long x4), (6, .int v13), (7, .int x7)] → f_X4_touch_L58 o x3 v13 n58 x4 x7 S14 = some o58 → (∀ (H : Heap) (locs : List Loc) (ls : Array Slot), cl_N o58.2 → nm_H D Y (fun q => s0 ≤ q) s.heap X nl ad (o58.1.1, o58.1.2, o58.2, K) H locs → lv_has ls 8 [(0, .ref (ad o)), (1, .ref (ad 101)), (2, .int x2), (3, .int x3)] → W p l e R s m args below meth c H locs cells slots Q (F0 m 101 ls [])) → W p l e R s m args below meth c H locs cells slots Q (F0 m 58 ls []) := by
          intro n58
          induction n58 with
          | zero =>
            intro x4 x7 S14 H locs ls o58 hN hH hl hf hX58
            cases hf
          | succ n58 ih58 =>
            intro x4 x7 S14 H locs ls o58 hN hH hl hf hX58
            rw [f_X4_touch_L58] at hf
            refine lv_iload hx hb dX4_touch_58 (lv_at hl 6 rfl) ?_
            refine lv_iload hx hb dX4_touch_60 (lv_at hl 5 rfl) ?_
            refine lv_icmp_ge (tgt := 101) hx hb dX4_touch_62 (by decide) (fun c15 => ?_) (fun c15 => ?_)
            · have hf := nm_it c15 hf
              cases hf
              exact hX58 _ _ _ hN hH (lv_sub hl [0, 1, 2, 3] rfl)
            · have hf := nm_ie c15 hf
              refine lv_aload_n hx hb dX4_touch_65 rfl (lv_at hl 0 rfl) ?_
              refine gf_4_8 hK hx hb hts hown hH (cl_no0 hL ho) (cl_ko0 hL ho) (hts _ tw_58) (fun _ h9 => h9) dX4_touch_66 ?_
              refine lv_aload_n hx hb dX4_touch_69 rfl (lv_at hl 0 rfl) ?_
              refine gf_4_6 hK hx hb hts hown hH (cl_no0 hL ho) (cl_ko0 hL ho) (hts _ tw_56) (fun _ h9 => h9) dX4_touch_70 ?_
              refine lv_aload_n hx hb dX4_touch_73 rfl (lv_at hl 0 rfl) ?_
              refine lv_iload_n hx hb dX4_touch_74 rfl (lv_at hl 3 rfl) ?_
              refine lv_lload hx hb dX4_touch_75 (lv_at hl 4 rfl) ?_
              refine nm_calli (nm_runS (X := X) (nl := nl) (k_X0_lowest hL hN (hf := (rfl : f_X0_lowest x4 = _))) hx hb hml hown hts hs0 hK hZ hH tw_625 tw_623 tw_624 tw_13 hd_X0_lowest rfl rfl ⟨Nat.le_trans (Nat.le_of_ble_eq_true rfl) hRf, Nat.le_trans (Nat.le_of_ble_eq_true rfl) hRl⟩ rfl hl.1 rfl (Nat.le_of_ble_eq_true rfl) dX4_touch_77 ⟨Nat.le_trans (Nat.le_add_right _ _) hC.1, Nat.le_trans (Nat.le_add_right _ _) hC.2⟩) hH (fun H locs hH => ?_)
              have hH : nm_H D Y (fun q => s0 ≤ q) s.heap X nl ad (S14.1.1, S14.1.2, S14.2, K) H locs := hH
              obtain ⟨r16, hc17, hf⟩ := nm_sd1 hf
              refine nm_calli (nm_runV (X := X) (nl := nl) (k_X4_stretchAt hL hN ho (hf := hc17)) hx hb hml hown hts hs0 hK hZ hH tw_630 tw_627 tw_629 (sw_X4_stretchAt) tw_3 hd_X4_stretchAt (cl_no0 hL ho) (cl_ko0 hL ho) (by decide) rfl rfl rfl ⟨Nat.le_trans (Nat.le_of_ble_eq_true rfl) hRf, Nat.le_trans (Nat.le_of_ble_eq_true rfl) hRl⟩ rfl hl.1 rfl (Nat.le_of_ble_eq_true rfl) dX4_touch_80 ⟨Nat.le_trans (Nat.le_add_right _ _) hC.1, Nat.le_trans (Nat.le_add_right _ _) hC.2⟩) hH (fun H locs hH => ?_)
              have hH : nm_H D Y (fun q => s0 ≤ q) s.heap X nl ad (S14.1.1, S14.1.2, S14.2, K) H locs := hH
              obtain ⟨hi18, hf⟩ := nm_chk hf
              refine nm_iald hx hb hK hH (cl_no6 hL ho) (cl_ko6 hL ho) rfl hi18 dX4_touch_83 ?_
              refine lv_iconst (v := 1) hx hb dX4_touch_84 (by decide) ?_
              obtain ⟨hi19, hf⟩ := nm_chk hf
              obtain ⟨S20, eS20, hf⟩ := nm_let hf
              refine nm_iast hx hb hK hH (cl_no7 hL ho) (cl_ko7 hL ho) rfl hi19 dX4_touch_85 (fun H locs hH => ?_)
              have hH : nm_H D Y (fun q => s0 ≤ q) s.heap X nl ad (S20.1.1, S20.1.2, S20.2, K) H locs := by rw [eS20]; exact hH
              have hN : cl_N S20.2 := by rw [eS20]; exact hN
              refine lv_lload hx hb dX4_touch_86 (lv_at hl 4 rfl) ?_
              refine lv_lload hx hb dX4_touch_88 (lv_at hl 4 rfl) ?_
              refine lv_lconst (v := 1) hx hb dX4_touch_90 (by decide) ?_
              refine lv_lsub hx hb dX4_touch_91 ?_
              refine lv_land hx hb dX4_touch_92 ?_
              obtain ⟨v21, ev21, hf⟩ := nm_let hf
              refine nm_topl ev21 ?_
              refine lv_lstore (lv' := [(4, .long v21), (0, .ref (ad o)), (1, .ref (ad 101)), (2, .int x2), (3, .int x3), (6, .int v13), (7, .int x7)]) hx hb dX4_touch_93 hl (by decide) rfl (fun ls hl => ?_)
              refine lv_iinc (v := x7 + 1) (lv' := [(7, .int (x7 + 1)), (4, .long v21), (0, .ref (ad o)), (1, .ref (ad 101)), (2, .int x2), (3, .int x3), (6, .int v13)]) hx hb dX4_touch_95 hl (k := 6) rfl rfl (by decide) rfl (fun ls hl => ?_)
              refine lv_goto (tgt := 58) hx hb dX4_touch_98 (by decide) ?_
              exact ih58 v21 (x7 + 1) S20 _ _ _ _ hN hH (lv_sub hl [2, 3, 4, 5, 1, 6, 0] rfl) hf hX58
        obtain ⟨S22, hl23, hf⟩ := nm_sd1 hf
        refine hL58 nm_F v12 (0 : Int32) S8 _ _ _ _ hN hH (lv_sub hl [3, 4, 5, 6, 2, 1, 0] rfl) hl23 (fun H locs ls hN hH hl => ?_)
        have hl : lv_has ls 8 [(0, .ref (ad o)), (1, .ref (ad 101)), (2, .int x2), (3, .int x3)] := hl
        have hH : nm_H D Y (fun q => s0 ≤ q) s.heap X nl ad (S22.1.1, S22.1.2, S22.2, K) H locs := hH
        have hN : cl_N S22.2 := hN
        refine lv_iinc (v := x3 + 1) (lv' := [(3, .int (x3 + 1)), (0, .ref (ad o)), (1, .ref (ad 101)), (2, .int x2)]) hx hb dX4_touch_101 hl (k := 3) rfl rfl (by decide) rfl (fun ls hl => ?_)
        refine lv_goto (tgt := 25) hx hb dX4_touch_104 (by decide) ?_
        exact ih25 (x3 + 1) S22 _ _ _ _ hN hH (lv_sub hl [1, 2, 3, 0] rfl) hf hX25
  obtain ⟨S24, hl25, hf⟩ := nm_sd1 hf
  refine hL25 nm_F (0 : Int32) S7 _ _ _ _ hN hH (lv_sub hl [1, 2, 3, 0] rfl) hl25 (fun H locs ls hN hH hl => ?_)
  have hl : lv_has ls 8 [] := hl
  have hH : nm_H D Y (fun q => s0 ≤ q) s.heap X nl ad (S24.1.1, S24.1.2, S24.2, K) H locs := hH
  have hN : cl_N S24.2 := hN
  exact nm_vretA hx hb hr hlocks hQ hRc hRs hC hN hAd hH hf dX4_touch_107
def f_X4_find (o : Nat) (x2 : Int32) (S : ca) : Option (ca × Nat × Nat) :=
nm_cp x2 (0 : Int32) (64 : Int32) 1024 (S.2 (o + 1)) (
nm_l (((S.1.1, va_up S.1.2 (o + 1) (va_cpy (S.1.2 101) (S.1.2 (o + 1)) x2.toNatClampNeg (0 : Int32).toNatClampNeg (64 : Int32).toNatClampNeg)), S.2)) fun S2 =>
nm_a1 (f_X4_gather o S2) fun S3 =>
nm_s1 (f_X4_number o S3.2 S3.1) fun M7 =>
nm_l (M7, S3.2) fun S9 =>
nm_a1 (f_X4_measure o S9) fun S10 =>
some (S10, 0, 0))
set_option maxHeartbeats 4000000 in
set_option maxRecDepth 100000 in
theorem k_X4_find {l : Launch} {D : va_G} {Y : nm_Y} {s0 : Nat} {X : va_W} {ad : Nat → Nat} {nl : List Nat} {K : Nat → Nat} (hL : cl_L nl K) {o : Nat} (ho : cl_o o) {x2 : Int32} {S M0 : ca} {dc ds : Nat} (hN : cl_N S.2) (hf : f_X4_find o x2 S = some (M0, dc, ds)) :
    nm_Met l yX4_find cX4_find 3 none { frames := 4, cells := dc, slots := ds, locals := 97 } [.ref (ad o), .ref (ad 101), .int x2] D Y s0 (nm_W Y X nl ad (S.1.1, S.1.2, S.2, K)) (nm_QvA D Y s0 X nl ad (M0.1.1, M0.1.2, M0.2, K)) dc ds := by
  refine nm_of (by decide) (Nat.le_of_ble_eq_true rfl) ?_
  intro p e R s m args below meth c Q ls hx hb hr hlocks hml hown hts hs0 hK hZ hRf hRl hRc hRs hQ hP hD hl
  have hH : nm_H D Y (fun q => s0 ≤ q) s.heap X nl ad (S.1.1, S.1.2, S.2, K) s.heap [] := ⟨hP, hD, va_S.rf⟩
  have hl : lv_has ls 3 [(0, .ref (ad o)), (1, .ref (ad 101)), (2, .int x2)] := hl
  obtain ⟨ad0, had0⟩ : ∃ y, y = ad := ⟨_, rfl⟩
  have hAd : cl_a ad0 ad := by rw [had0]; exact cl_a.rf
  rw [← had0] at hQ
  obtain ⟨cells, ecells⟩ : ∃ y, y = 0 := ⟨_, rfl⟩
  obtain ⟨slots, eslots⟩ : ∃ y, y = 0 := ⟨_, rfl⟩
  have hC : cells + dc ≤ R.cells ∧ slots + ds ≤ R.slots := ⟨by omega, by omega⟩
  refine W.widen (k := cells) (n := slots) (Nat.zero_le _) (Nat.zero_le _) ?_
  obtain ⟨mc, emc⟩ : ∃ y, y = dc := ⟨_, rfl⟩
  obtain ⟨ms, ems⟩ : ∃ y, y = ds := ⟨_, rfl⟩
  rw [← emc] at hRc hQ
  rw [← ems] at hRs hQ
  obtain ⟨tc, htc⟩ : ∃ y, y = cells + dc := ⟨_, rfl⟩
  obtain ⟨tsl, htsl⟩ : ∃ y, y = slots + ds := ⟨_, rfl⟩
  unfold f_X4_find at hf
  refine lv_aload_n hx hb dX4_find_0 rfl (lv_at hl 1 rfl) ?_
  refine lv_iload_n hx hb dX4_find_1 rfl (lv_at hl 2 rfl) ?_
  refine lv_aload_n hx hb dX4_find_2 rfl (lv_at hl 0 rfl) ?_
  refine gf_4_0 hK hx hb hts hown hH (cl_no0 hL ho) (cl_ko0 hL ho) (hts _ tw_40) (fun _ h9 => h9) dX4_find_3 ?_
  refine lv_iconst (v := 0) hx hb dX4_find_6 (by decide) ?_
  refine lv_bipush (v := 64) hx hb dX4_find_7 (by decide) ?_
  obtain ⟨hi1, hf⟩ := nm_cpk hf
  obtain ⟨S2, eS2, hf⟩ := nm_let hf
  refine nm_copyJ hx hb (hml.trans hl.1.symm) hown hts tw_601 hK hH (cl_n101 hL) (cl_k101 hL) (cl_no1 hL ho) (cl_ko1 hL ho) (cl_l101 hN) rfl hi1 (Nat.le_trans (Nat.le_of_ble_eq_true rfl) hRf) (Nat.le_trans (by decide) hRl) dX4_find_9 (fun H locs hH => ?_)
  have hH : nm_H D Y (fun q => s0 ≤ q) s.heap X nl ad (S2.1.1, S2.1.2, S2.2, K) H locs := by rw [eS2]; exact hH
  have hN : cl_N S2.2 := by rw [eS2]; exact hN
  refine lv_aload_n hx hb dX4_find_12 rfl (lv_at hl 0 rfl) ?_
  obtain ⟨S3, c5, s6, dc, ds, hc4, hf, edc, eds⟩ := nm_ad1 hf
  refine nm_callvA (nm_runV (X := X) (nl := nl) (k_X4_gather hL ho (hN := hN) (hf := hc4)) hx hb hml hown hts hs0 hK hZ hH tw_605 tw_602 tw_603 (sw_X4_gather) tw_3 hd_X4_gather (cl_no0 hL ho) (cl_ko0 hL ho) (by decide) rfl rfl rfl ⟨Nat.le_trans (Nat.le_of_ble_eq_true rfl) hRf, Nat.le_trans (Nat.le_of_ble_eq_true rfl) hRl⟩ rfl hl.1 rfl (Nat.le_of_ble_eq_true rfl) dX4_find_13 ⟨by omega, by omega⟩) hH (fun ad hu H locs cells slots ec es hN hH => ?_)
  have hH : nm_H D Y (fun q => s0 ≤ q) s.heap X nl ad (S3.1.1, S3.1.2, S3.2, K) H locs := hH
  have hN : cl_N S3.2 := hN
  have hl : lv_has ls 3 [(0, .ref (ad o)), (1, .ref (ad 101)), (2, .int x2)] := by rw [hu o (cl_so ho), hu 101 (by decide)]; exact hl
  have hAd : cl_a ad0 ad := cl_a.tr hAd hu
  have hC : cells + dc ≤ R.cells ∧ slots + ds ≤ R.slots := ⟨by omega, by omega⟩
  refine lv_aload_n hx hb dX4_find_16 rfl (lv_at hl 0 rfl) ?_
  obtain ⟨M7, hc8, hf⟩ := nm_sd1 hf
  obtain ⟨S9, eS9, hf⟩ := nm_let hf
  refine nm_callv (nm_runV (X := X) (nl := nl) (k_X4_number hL hN ho (hf := hc8)) hx hb hml hown hts hs0 hK hZ hH tw_641 tw_638 tw_639 (sw_X4_number) tw_3 hd_X4_number (cl_no0 hL ho) (cl_ko0 hL ho) (by decide) rfl rfl rfl ⟨Nat.le_trans (Nat.le_of_ble_eq_true rfl) hRf, Nat.le_trans (Nat.le_of_ble_eq_true rfl) hRl⟩ rfl hl.1 rfl (Nat.le_of_ble_eq_true rfl) dX4_find_17 ⟨Nat.le_trans (Nat.le_add_right _ _) hC.1, Nat.le_trans (Nat.le_add_right _ _) hC.2⟩) hH (fun H locs hH => ?_)
  have hH : nm_H D Y (fun q => s0 ≤ q) s.heap X nl ad (S9.1.1, S9.1.2, S9.2, K) H locs := by rw [eS9]; exact hH
  have hN : cl_N S9.2 := by rw [eS9]; exact hN
  refine lv_aload_n hx hb dX4_find_20 rfl (lv_at hl 0 rfl) ?_
  obtain ⟨S10, c12, s13, dc, ds, hc11, hf, edc, eds⟩ := nm_ad1 hf
  refine nm_callvA (nm_runV (X := X) (nl := nl) (k_X4_measure hL ho (hN := hN) (hf := hc11)) hx hb hml hown hts hs0 hK hZ hH tw_645 tw_642 tw_644 (sw_X4_measure) tw_3 hd_X4_measure (cl_no0 hL ho) (cl_ko0 hL ho) (by decide) rfl rfl rfl ⟨Nat.le_trans (Nat.le_of_ble_eq_true rfl) hRf, Nat.le_trans (Nat.le_of_ble_eq_true rfl) hRl⟩ rfl hl.1 rfl (Nat.le_of_ble_eq_true rfl) dX4_find_21 ⟨by omega, by omega⟩) hH (fun ad hu H locs cells slots ec es hN hH => ?_)
  have hH : nm_H D Y (fun q => s0 ≤ q) s.heap X nl ad (S10.1.1, S10.1.2, S10.2, K) H locs := hH
  have hN : cl_N S10.2 := hN
  have hl : lv_has ls 3 [(0, .ref (ad o)), (1, .ref (ad 101)), (2, .int x2)] := by rw [hu o (cl_so ho), hu 101 (by decide)]; exact hl
  have hAd : cl_a ad0 ad := cl_a.tr hAd hu
  have hC : cells + dc ≤ R.cells ∧ slots + ds ≤ R.slots := ⟨by omega, by omega⟩
  exact nm_vretA hx hb hr hlocks hQ hRc hRs hC hN hAd hH hf dX4_find_24
def f_X4_findCommon_L3 (o : Nat) (x2 : Int32) (x3 : Int32) : Nat → Int32 → ca → Option (ca)
  | 0, _, _ => none
  | n3 + 1, x4, S1 =>
    (if (64 : Int32) ≤ x4 then
    some S1
    else
    nm_c (x2 + x4) 1024 (
    nm_c (x3 + x4) 1024 (
    nm_c x4 (S1.2 (o + 1)) (
    nm_l (((S1.1.1, nm_upJ S1.1.2 (o + 1) x4.toNatClampNeg ((S1.1.2 101 (x2 + x4).toNatClampNeg) &&& (S1.1.2 101 (x3 + x4).toNatClampNeg))), S1.2)) fun S6 =>
    f_X4_findCommon_L3 o x2 x3 n3 (x4 + 1) S6))))
def f_X4_findCommon (o : Nat) (x2 : Int32) (x3 : Int32) (S : ca) : Option (ca × Nat × Nat) :=
nm_s1 (f_X4_findCommon_L3 o x2 x3 nm_F (0 : Int32) S) fun S7 =>
nm_a1 (f_X4_gather o S7) fun S8 =>
nm_s1 (f_X4_number o S8.2 S8.1) fun M12 =>
nm_l (M12, S8.2) fun S14 =>
nm_a1 (f_X4_measure o S14) fun S15 =>
some (S15, 0, 0)
set_option maxHeartbeats 4000000 in
set_option maxRecDepth 100000 in
theorem k_X4_findCommon {l : Launch} {D : va_G} {Y : nm_Y} {s0 : Nat} {X : va_W} {ad : Nat → Nat} {nl : List Nat} {K : Nat → Nat} (hL : cl_L nl K) {o : Nat} (ho : cl_o o) {x2 : Int32} {x3 : Int32} {S M0 : ca} {dc ds : Nat} (hN : cl_N S.2) (hf : f_X4_findCommon o x2 x3 S = some (M0, dc, ds)) :
    nm_Met l yX4_findCommon cX4_findCommon 5 none { frames := 4, cells := dc, slots := ds, locals := 97 } [.ref (ad o), .ref (ad 101), .int x2, .int x3] D Y s0 (nm_W Y X nl ad (S.1.1, S.1.2, S.2, K)) (nm_QvA D Y s0 X nl ad (M0.1.1, M0.1.2, M0.2, K)) dc ds := by
  refine nm_of (by decide) (Nat.le_of_ble_eq_true rfl) ?_
  intro p e R s m args below meth c Q ls hx hb hr hlocks hml hown hts hs0 hK hZ hRf hRl hRc hRs hQ hP hD hl
  have hH : nm_H D Y (fun q => s0 ≤ q) s.heap X nl ad (S.1.1, S.1.2, S.2, K) s.heap [] := ⟨hP, hD, va_S.rf⟩
  have hl : lv_has ls 5 [(0, .ref (ad o)), (1, .ref (ad 101)), (2, .int x2), (3, .int x3)] := hl
  obtain ⟨ad0, had0⟩ : ∃ y, y = ad := ⟨_, rfl⟩
  have hAd : cl_a ad0 ad := by rw [had0]; exact cl_a.rf
  rw [← had0] at hQ
  obtain ⟨cells, ecells⟩ : ∃ y, y = 0 := ⟨_, rfl⟩
  obtain ⟨slots, eslots⟩ : ∃ y, y = 0 := ⟨_, rfl⟩
  have hC : cells + dc ≤ R.cells ∧ slots + ds ≤ R.slots := ⟨by omega, by omega⟩
  refine W.widen (k := cells) (n := slots) (Nat.zero_le _) (Nat.zero_le _) ?_
  obtain ⟨mc, emc⟩ : ∃ y, y = dc := ⟨_, rfl⟩
  obtain ⟨ms, ems⟩ : ∃ y, y = ds := ⟨_, rfl⟩
  rw [← emc] at hRc hQ
  rw [← ems] at hRs hQ
  obtain ⟨tc, htc⟩ : ∃ y, y = cells + dc := ⟨_, rfl⟩
  obtain ⟨tsl, htsl⟩ : ∃ y, y = slots + ds := ⟨_, rfl⟩
  unfold f_X4_findCommon at hf
  refine lv_iconst (v := 0) hx hb dX4_findCommon_0 (by decide) ?_
  refine lv_istore (lv' := [(4, .int (0 : Int32)), (0, .ref (ad o)), (1, .ref (ad 101)), (2, .int x2), (3, .int x3)]) hx hb dX4_findCommon_1 hl (by decide) rfl (fun ls hl => ?_)
  have hL3 : ∀ (n3 : Nat) (x4 : Int32) (S1 : ca) (H : Heap) (locs : List Loc) (ls : Array Slot) (o3 : ca), cl_N S1.2 → nm_H D Y (fun q => s0 ≤ q) s.heap X nl ad (S1.1.1, S1.1.2, S1.2, K) H locs → lv_has ls 5 [(0, .ref (ad o)), (1, .ref (ad 101)), (2, .int x2), (3, .int x3), (4, .int x4)] → f_X4_findCommon_L3 o x2 x3 n3 x4 S1 = some o3 → (∀ (H : Heap) (locs : List Loc) (ls : Array Slot), cl_N o3.2 → nm_H D Y (fun q => s0 ≤ q) s.heap X nl ad (o3.1.1, o3.1.2, o3.2, K) H locs → lv_has ls 5 [(0, .ref (ad o))] → W p l e R s m args below meth c H locs cells slots Q (F0 m 36 ls [])) → W p l e R s m args below meth c H locs cells slots Q (F0 m 3 ls []) := by
    intro n3
    induction n3 with
    | zero =>
      intro x4 S1 H locs ls o3 hN hH hl hf hX3
      cases hf
    | succ n3 ih3 =>
      intro x4 S1 H locs ls o3 hN hH hl hf hX3
      rw [f_X4_findCommon_L3] at hf
      refine lv_iload hx hb dX4_findCommon_3 (lv_at hl 4 rfl) ?_
      refine lv_bipush (v := 64) hx hb dX4_findCommon_5 (by decide) ?_
      refine lv_icmp_ge (tgt := 36) hx hb dX4_findCommon_7 (by decide) (fun c2 => ?_) (fun c2 => ?_)
      · have hf := nm_it c2 hf
        cases hf
        exact hX3 _ _ _ hN hH (lv_sub hl [0] rfl)
      · have hf := nm_ie c2 hf
        refine lv_aload_n hx hb dX4_findCommon_10 rfl (lv_at hl 0 rfl) ?_
        refine gf_4_0 hK hx hb hts hown hH (cl_no0 hL ho) (cl_ko0 hL ho) (hts _ tw_40) (fun _ h9 => h9) dX4_findCommon_11 ?_
        refine lv_iload hx hb dX4_findCommon_14 (lv_at hl 4 rfl) ?_
        refine lv_aload_n hx hb dX4_findCommon_16 rfl (lv_at hl 1 rfl) ?_
        refine lv_iload_n hx hb dX4_findCommon_17 rfl (lv_at hl 2 rfl) ?_
        refine lv_iload hx hb dX4_findCommon_18 (lv_at hl 4 rfl) ?_
        refine lv_iadd hx hb dX4_findCommon_20 ?_
        obtain ⟨hi3, hf⟩ := nm_chk hf
        refine nm_lald hx hb hK hH (cl_n101 hL) (cl_k101 hL) (cl_l101 hN) hi3 dX4_findCommon_21 ?_
        refine lv_aload_n hx hb dX4_findCommon_22 rfl (lv_at hl 1 rfl) ?_
        refine lv_iload_n hx hb dX4_findCommon_23 rfl (lv_at hl 3 rfl) ?_
        refine lv_iload hx hb dX4_findCommon_24 (lv_at hl 4 rfl) ?_
        refine lv_iadd hx hb dX4_findCommon_26 ?_
        obtain ⟨hi4, hf⟩ := nm_chk hf
        refine nm_lald hx hb hK hH (cl_n101 hL) (cl_k101 hL) (cl_l101 hN) hi4 dX4_findCommon_27 ?_
        refine lv_land hx hb dX4_findCommon_28 ?_
        obtain ⟨hi5, hf⟩ := nm_chk hf
        obtain ⟨S6, eS6, hf⟩ := nm_let hf
        refine nm_last hx hb hK hH (cl_no1 hL ho) (cl_ko1 hL ho) rfl hi5 dX4_findCommon_29 (fun H locs hH => ?_)
        have hH : nm_H D Y (fun q => s0 ≤ q) s.heap X nl ad (S6.1.1, S6.1.2, S6.2, K) H locs := by rw [eS6]; exact hH
        have hN : cl_N S6.2 := by rw [eS6]; exact hN
        refine lv_iinc (v := x4 + 1) (lv' := [(4, .int (x4 + 1)), (0, .ref (ad o)), (1, .ref (ad 101)), (2, .int x2), (3, .int x3)]) hx hb dX4_findCommon_30 hl (k := 4) rfl rfl (by decide) rfl (fun ls hl => ?_)
        refine lv_goto (tgt := 3) hx hb dX4_findCommon_33 (by decide) ?_
        exact ih3 (x4 + 1) S6 _ _ _ _ hN hH (lv_sub hl [1, 2, 3, 4, 0] rfl) hf hX3
  obtain ⟨S7, hl19, hf⟩ := nm_sd1 hf
  refine hL3 nm_F (0 : Int32) S _ _ _ _ hN hH (lv_sub hl [1, 2, 3, 4, 0] rfl) hl19 (fun H locs ls hN hH hl => ?_)
  have hl : lv_has ls 5 [(0, .ref (ad o))] := hl
  have hH : nm_H D Y (fun q => s0 ≤ q) s.heap X nl ad (S7.1.1, S7.1.2, S7.2, K) H locs := hH
  have hN : cl_N S7.2 := hN
  refine lv_aload_n hx hb dX4_findCommon_36 rfl (lv_at hl 0 rfl) ?_
  obtain ⟨S8, c10, s11, dc, ds, hc9, hf, edc, eds⟩ := nm_ad1 hf
  refine nm_callvA (nm_runV (X := X) (nl := nl) (k_X4_gather hL ho (hN := hN) (hf := hc9)) hx hb hml hown hts hs0 hK hZ hH tw_605 tw_602 tw_603 (sw_X4_gather) tw_3 hd_X4_gather (cl_no0 hL ho) (cl_ko0 hL ho) (by decide) rfl rfl rfl ⟨Nat.le_trans (Nat.le_of_ble_eq_true rfl) hRf, Nat.le_trans (Nat.le_of_ble_eq_true rfl) hRl⟩ rfl hl.1 rfl (Nat.le_of_ble_eq_true rfl) dX4_findCommon_37 ⟨by omega, by omega⟩) hH (fun ad hu H locs cells slots ec es hN hH => ?_)
  have hH : nm_H D Y (fun q => s0 ≤ q) s.heap X nl ad (S8.1.1, S8.1.2, S8.2, K) H locs := hH
  have hN : cl_N S8.2 := hN
  have hl : lv_has ls 5 [(0, .ref (ad o))] := by rw [hu o (cl_so ho)]; exact hl
  have hAd : cl_a ad0 ad := cl_a.tr hAd hu
  have hC : cells + dc ≤ R.cells ∧ slots + ds ≤ R.slots := ⟨by omega, by omega⟩
  refine lv_aload_n hx hb dX4_findCommon_40 rfl (lv_at hl 0 rfl) ?_
  obtain ⟨M12, hc13, hf⟩ := nm_sd1 hf
  obtain ⟨S14, eS14, hf⟩ := nm_let hf
  refine nm_callv (nm_runV (X := X) (nl := nl) (k_X4_number hL hN ho (hf := hc13)) hx hb hml hown hts hs0 hK hZ hH tw_641 tw_638 tw_639 (sw_X4_number) tw_3 hd_X4_number (cl_no0 hL ho) (cl_ko0 hL ho) (by decide) rfl rfl rfl ⟨Nat.le_trans (Nat.le_of_ble_eq_true rfl) hRf, Nat.le_trans (Nat.le_of_ble_eq_true rfl) hRl⟩ rfl hl.1 rfl (Nat.le_of_ble_eq_true rfl) dX4_findCommon_41 ⟨Nat.le_trans (Nat.le_add_right _ _) hC.1, Nat.le_trans (Nat.le_add_right _ _) hC.2⟩) hH (fun H locs hH => ?_)
  have hH : nm_H D Y (fun q => s0 ≤ q) s.heap X nl ad (S14.1.1, S14.1.2, S14.2, K) H locs := by rw [eS14]; exact hH
  have hN : cl_N S14.2 := by rw [eS14]; exact hN
  refine lv_aload_n hx hb dX4_findCommon_44 rfl (lv_at hl 0 rfl) ?_
  obtain ⟨S15, c17, s18, dc, ds, hc16, hf, edc, eds⟩ := nm_ad1 hf
  refine nm_callvA (nm_runV (X := X) (nl := nl) (k_X4_measure hL ho (hN := hN) (hf := hc16)) hx hb hml hown hts hs0 hK hZ hH tw_645 tw_642 tw_644 (sw_X4_measure) tw_3 hd_X4_measure (cl_no0 hL ho) (cl_ko0 hL ho) (by decide) rfl rfl rfl ⟨Nat.le_trans (Nat.le_of_ble_eq_true rfl) hRf, Nat.le_trans (Nat.le_of_ble_eq_true rfl) hRl⟩ rfl hl.1 rfl (Nat.le_of_ble_eq_true rfl) dX4_findCommon_45 ⟨by omega, by omega⟩) hH (fun ad hu H locs cells slots ec es hN hH => ?_)
  have hH : nm_H D Y (fun q => s0 ≤ q) s.heap X nl ad (S15.1.1, S15.1.2, S15.2, K) H locs := hH
  have hN : cl_N S15.2 := hN
  have hl : lv_has ls 5 [(0, .ref (ad o))] := by rw [hu o (cl_so ho)]; exact hl
  have hAd : cl_a ad0 ad := cl_a.tr hAd hu
  have hC : cells + dc ≤ R.cells ∧ slots + ds ≤ R.slots := ⟨by omega, by omega⟩
  exact nm_vretA hx hb hr hlocks hQ hRc hRs hC hN hAd hH hf dX4_findCommon_48
def f_X3_make_J39 (t39_5 : Int32) (t39_4 : Int32) (t39_3 : Int32) (t39_1 : Int32) (S3 : ca) : Option (ca × Nat × Nat) :=
nm_s1 (f_X0_spread 101 S3.2 t39_1 t39_3 t39_4 t39_5 S3.1) fun M4 =>
nm_l (M4, S3.2) fun S6 =>
some (S6, 0, 0)
def f_X3_make_J16 (x2 : Int32) (x3 : Int32) (x4 : Int32) (v1 : Int32) (S2 : ca) : Option (ca × Nat × Nat) :=
(if x2 = (3 : Int32) then
f_X3_make_J39 (1 : Int32) x4 v1 x3 S2
else
f_X3_make_J39 (0 : Int32) x4 v1 x3 S2)
def f_X3_make_J170 (x6 : Int32) (t170_2 : Int64) (t170_1 : Int32) (S13 : ca) (k : Int32 → ca → Option (ca)) : Option (ca) :=
nm_c t170_1 1024 (
nm_l (((S13.1.1, nm_upJ S13.1.2 101 t170_1.toNatClampNeg t170_2), S13.2)) fun S15 =>
k (x6 + 1) S15)
def f_X3_make_L119 (x2 : Int32) (x3 : Int32) (x4 : Int32) (v1 : Int32) : Nat → Int32 → ca → Option (ca)
  | 0, _, _ => none
  | n119 + 1, x6, S11 =>
    (if (64 : Int32) ≤ x6 then
    some S11
    else
    (if x2 = (-1 : Int32) then
    f_X3_make_J170 x6 (0 : Int64) (v1 + x6) S11 (f_X3_make_L119 x2 x3 x4 v1 n119)
    else
    nm_c (x3 + x6) 1024 (
    nm_c (((64 : Int32) * x4) + x6) 1024 (
    f_X3_make_J170 x6 (f_X3_mixed x2 (S11.1.2 101 (x3 + x6).toNatClampNeg) (S11.1.2 101 (((64 : Int32) * x4) + x6).toNatClampNeg)) (v1 + x6) S11 (f_X3_make_L119 x2 x3 x4 v1 n119)))))
def f_X3_make_L81 (v1 : Int32) : Nat → Int32 → ca → Option (ca)
  | 0, _, _ => none
  | n81 + 1, x6, S29 =>
    (if (64 : Int32) ≤ x6 then
    some S29
    else
    nm_s1 (f_X4_touchedIn 110 S29.2 x6 S29.1) fun r31 =>
    nm_c (v1 + x6) 1024 (
    nm_l (((S29.1.1, nm_upJ S29.1.2 101 ((v1 + x6).toNatClampNeg) r31), S29.2)) fun S34 =>
    f_X3_make_L81 v1 n81 (x6 + 1) S34))
def f_X3_make (x1 : Int32) (x2 : Int32) (x3 : Int32) (x4 : Int32) (S : ca) : Option (ca × Nat × Nat) :=
nm_l ((64 : Int32) * x1) fun v1 =>
(if x2 = (3 : Int32) then
f_X3_make_J16 x2 x3 x4 v1 S
else
(if x2 = (4 : Int32) then
f_X3_make_J16 x2 x3 x4 v1 S
else
(if x2 = (5 : Int32) then
nm_a1 (f_X4_find 110 x3 S) fun S21 =>
nm_a1 (f_X4_touch 110 ((64 : Int32) * x4) S21) fun S25 =>
nm_s1 (f_X3_make_L81 v1 nm_F (0 : Int32) S25) fun S35 =>
some (S35, 0, 0)
else
nm_s1 (f_X3_make_L119 x2 x3 x4 v1 nm_F (0 : Int32) S) fun S19 =>
some (S19, 0, 0))))
set_option maxHeartbeats 4000000 in
set_option maxRecDepth 100000 in
theorem k_X3_make {l : Launch} {D : va_G} {Y : nm_Y} {s0 : Nat} {X : va_W} {ad : Nat → Nat} {nl : List Nat} {K : Nat → Nat} (hL : cl_L nl K) {x1 : Int32} {x2 : Int32} {x3 : Int32} {x4 : Int32} {S M0 : ca} {dc ds : Nat} (hN : cl_N S.2) (hf : f_X3_make x1 x2 x3 x4 S = some (M0, dc, ds)) :
    nm_Met l yX3_make cX3_make 7 none { frames := 5, cells := dc, slots := ds, locals := 119 } [.ref (ad 100), .int x1, .int x2, .int x3, .int x4] D Y s0 (nm_W Y X nl ad (S.1.1, S.1.2, S.2, K)) (nm_QvA D Y s0 X nl ad (M0.1.1, M0.1.2, M0.2, K)) dc ds := by
  refine nm_of (by decide) (Nat.le_of_ble_eq_true rfl) ?_
  intro p e R s m args below meth c Q ls hx hb hr hlocks hml hown hts hs0 hK hZ hRf hRl hRc hRs hQ hP hD hl
  have hH : nm_H D Y (fun q => s0 ≤ q) s.heap X nl ad (S.1.1, S.1.2, S.2, K) s.heap [] := ⟨hP, hD, va_S.rf⟩
  have hl : lv_has ls 7 [(0, .ref (ad 100)), (1, .int x1), (2, .int x2), (3, .int x3), (4, .int x4)] := hl
  obtain ⟨ad0, had0⟩ : ∃ y, y = ad := ⟨_, rfl⟩
  have hAd : cl_a ad0 ad := by rw [had0]; exact cl_a.rf
  rw [← had0] at hQ
  obtain ⟨cells, ecells⟩ : ∃ y, y = 0 := ⟨_, rfl⟩
  obtain ⟨slots, eslots⟩ : ∃ y, y = 0 := ⟨_, rfl⟩
  have hC : cells + dc ≤ R.cells ∧ slots + ds ≤ R.slots := ⟨by omega, by omega⟩
  refine W.widen (k := cells) (n := slots) (Nat.zero_le _) (Nat.zero_le _) ?_
  obtain ⟨mc, emc⟩ : ∃ y, y = dc := ⟨_, rfl⟩
  obtain ⟨ms, ems⟩ : ∃ y, y = ds := ⟨_, rfl⟩
  rw [← emc] at hRc hQ
  rw [← ems] at hRs hQ
  obtain ⟨tc, htc⟩ : ∃ y, y = cells + dc := ⟨_, rfl⟩
  obtain ⟨tsl, htsl⟩ : ∃ y, y = slots + ds := ⟨_, rfl⟩
  unfold f_X3_make at hf
  refine lv_bipush (v := 64) hx hb dX3_make_0 (by decide) ?_
  refine lv_iload_n hx hb dX3_make_2 rfl (lv_at hl 1 rfl) ?_
  refine lv_imul hx hb dX3_make_3 ?_
  obtain ⟨v1, ev1, hf⟩ := nm_let hf
  refine nm_topi ev1 ?_
  refine lv_istore (lv' := [(5, .int v1), (0, .ref (ad 100)), (1, .int x1), (2, .int x2), (3, .int x3), (4, .int x4)]) hx hb dX3_make_4 hl (by decide) rfl (fun ls hl => ?_)
  refine lv_iload_n hx hb dX3_make_6 rfl (lv_at hl 3 rfl) ?_
  refine lv_iconst (v := 3) hx hb dX3_make_7 (by decide) ?_
  have hJ16 : ∀ (S2 : ca) (ad : Nat → Nat) (H : Heap) (locs : List Loc) (ls : Array Slot) (cells slots dc ds : Nat), cl_N S2.2 → cl_a ad0 ad → cells + dc ≤ R.cells ∧ slots + ds ≤ R.slots → cells + dc = tc ∧ slots + ds = tsl → nm_H D Y (fun q => s0 ≤ q) s.heap X nl ad (S2.1.1, S2.1.2, S2.2, K) H locs → lv_has ls 7 [(0, .ref (ad 100)), (2, .int x2), (3, .int x3), (4, .int x4), (5, .int v1)] → f_X3_make_J16 x2 x3 x4 v1 S2 = some (M0, dc, ds) → W p l e R s m args below meth c H locs cells slots Q (F0 m 16 ls []) := by
    intro S2 ad H locs ls cells slots dc ds hN hAd hC hT hH hl hf
    unfold f_X3_make_J16 at hf
    refine lv_aload_n hx hb dX3_make_16 rfl (lv_at hl 0 rfl) ?_
    refine gf_3_1 hK hx hb hts hown hH (cl_n100 hL) (cl_k100 hL) (hts _ tw_85) (fun _ h9 => h9) dX3_make_17 ?_
    refine lv_iload_n hx hb dX3_make_20 rfl (lv_at hl 2 rfl) ?_
    refine lv_aload_n hx hb dX3_make_21 rfl (lv_at hl 0 rfl) ?_
    refine gf_3_1 hK hx hb hts hown hH (cl_n100 hL) (cl_k100 hL) (hts _ tw_85) (fun _ h9 => h9) dX3_make_22 ?_
    refine lv_iload hx hb dX3_make_25 (lv_at hl 4 rfl) ?_
    refine lv_iload hx hb dX3_make_27 (lv_at hl 3 rfl) ?_
    refine lv_iload_n hx hb dX3_make_29 rfl (lv_at hl 1 rfl) ?_
    refine lv_iconst (v := 3) hx hb dX3_make_30 (by decide) ?_
    have hJ39 : ∀ (t39_5 : Int32) (t39_4 : Int32) (t39_3 : Int32) (t39_1 : Int32) (S3 : ca) (ad : Nat → Nat) (H : Heap) (locs : List Loc) (ls : Array Slot) (cells slots dc ds : Nat), cl_N S3.2 → cl_a ad0 ad → cells + dc ≤ R.cells ∧ slots + ds ≤ R.slots → cells + dc = tc ∧ slots + ds = tsl → nm_H D Y (fun q => s0 ≤ q) s.heap X nl ad (S3.1.1, S3.1.2, S3.2, K) H locs → lv_has ls 7 [] → f_X3_make_J39 t39_5 t39_4 t39_3 t39_1 S3 = some (M0, dc, ds) → W p l e R s m args below meth c H locs cells slots Q (F0 m 39 ls [.int t39_5, .int t39_4, .int t39_3, .ref (ad 101), .int t39_1, .ref (ad 101)]) := by
      intro t39_5 t39_4 t39_3 t39_1 S3 ad H locs ls cells slots dc ds hN hAd hC hT hH hl hf
      unfold f_X3_make_J39 at hf
      obtain ⟨M4, hc5, hf⟩ := nm_sd1 hf
      obtain ⟨S6, eS6, hf⟩ := nm_let hf
      refine nm_callv (nm_runS (X := X) (nl := nl) (k_X0_spread hL hN (cl_n101 hL) (cl_k101 hL) (hf := hc5)) hx hb hml hown hts hs0 hK hZ hH tw_596 tw_594 tw_595 tw_13 hd_X0_spread rfl rfl ⟨Nat.le_trans (Nat.le_of_ble_eq_true rfl) hRf, Nat.le_trans (Nat.le_of_ble_eq_true rfl) hRl⟩ rfl hl.1 rfl (Nat.le_of_ble_eq_true rfl) dX3_make_39 ⟨Nat.le_trans (Nat.le_add_right _ _) hC.1, Nat.le_trans (Nat.le_add_right _ _) hC.2⟩) hH (fun H locs hH => ?_)
      have hH : nm_H D Y (fun q => s0 ≤ q) s.heap X nl ad (S6.1.1, S6.1.2, S6.2, K) H locs := by rw [eS6]; exact hH
      have hN : cl_N S6.2 := by rw [eS6]; exact hN
      refine lv_goto (tgt := 177) hx hb dX3_make_42 (by decide) ?_
      exact nm_vretA hx hb hr hlocks hQ hRc hRs hC hN hAd hH hf dX3_make_177
    refine lv_icmp_ne (tgt := 38) hx hb dX3_make_31 (by decide) (fun c7 => ?_) (fun c7 => ?_)
    · have hf := nm_ie c7 hf
      refine lv_iconst (v := 0) hx hb dX3_make_38 (by decide) ?_
      exact hJ39 (0 : Int32) x4 v1 x3 S2 _ _ _ _ _ _ _ _ hN hAd hC ⟨by omega, by omega⟩ hH (lv_sub hl [] rfl) hf
    · have hf := nm_it c7 hf
      refine lv_iconst (v := 1) hx hb dX3_make_34 (by decide) ?_
      refine lv_goto (tgt := 39) hx hb dX3_make_35 (by decide) ?_
      exact hJ39 (1 : Int32) x4 v1 x3 S2 _ _ _ _ _ _ _ _ hN hAd hC ⟨by omega, by omega⟩ hH (lv_sub hl [] rfl) hf
  refine lv_icmp_eq (tgt := 16) hx hb dX3_make_8 (by decide) (fun c8 => ?_) (fun c8 => ?_)
  · have hf := nm_it c8 hf
    exact hJ16 S _ _ _ _ _ _ _ _ hN hAd hC ⟨by omega, by omega⟩ hH (lv_sub hl [1, 3, 4, 5, 0] rfl) hf
  · have hf := nm_ie c8 hf
    refine lv_iload_n hx hb dX3_make_11 rfl (lv_at hl 3 rfl) ?_
    refine lv_iconst (v := 4) hx hb dX3_make_12 (by decide) ?_
    refine lv_icmp_ne (tgt := 45) hx hb dX3_make_13 (by decide) (fun c9 => ?_) (fun c9 => ?_)
    · have hf := nm_ie c9 hf
      refine lv_iload_n hx hb dX3_make_45 rfl (lv_at hl 3 rfl) ?_
      refine lv_iconst (v := 5) hx hb dX3_make_46 (by decide) ?_
      refine lv_icmp_ne (tgt := 116) hx hb dX3_make_47 (by decide) (fun c10 => ?_) (fun c10 => ?_)
      · have hf := nm_ie c10 hf
        refine lv_iconst (v := 0) hx hb dX3_make_116 (by decide) ?_
        refine lv_istore (lv' := [(6, .int (0 : Int32)), (5, .int v1), (0, .ref (ad 100)), (1, .int x1), (2, .int x2), (3, .int x3), (4, .int x4)]) hx hb dX3_make_117 hl (by decide) rfl (fun ls hl => ?_)
        have hL119 : ∀ (n119 : Nat) (x6 : Int32) (S11 : ca) (H : Heap) (locs : List Loc) (ls : Array Slot) (o119 : ca), cl_N S11.2 → nm_H D Y (fun q => s0 ≤ q) s.heap X nl ad (S11.1.1, S11.1.2, S11.2, K) H locs → lv_has ls 7 [(0, .ref (ad 100)), (2, .int x2), (3, .int x3), (4, .int x4), (5, .int v1), (6, .int x6)] → f_X3_make_L119 x2 x3 x4 v1 n119 x6 S11 = some o119 → (∀ (H : Heap) (locs : List Loc) (ls : Array Slot), cl_N o119.2 → nm_H D Y (fun q => s0 ≤ q) s.heap X nl ad (o119.1.1, o119.1.2, o119.2, K) H locs → lv_has ls 7 [] → W p l e R s m args below meth c H locs cells slots Q (F0 m 177 ls [])) → W p l e R s m args below meth c H locs cells slots Q (F0 m 119 ls []) := by
          intro n119
          induction n119 with
          | zero =>
            intro x6 S11 H locs ls o119 hN hH hl hf hX119
            cases hf
          | succ n119 ih119 =>
            intro x6 S11 H locs ls o119 hN hH hl hf hX119
            rw [f_X3_make_L119] at hf
            refine lv_iload hx hb dX3_make_119 (lv_at hl 5 rfl) ?_
            refine lv_bipush (v := 64) hx hb dX3_make_121 (by decide) ?_
            refine lv_icmp_ge (tgt := 177) hx hb dX3_make_123 (by decide) (fun c12 => ?_) (fun c12 => ?_)
            · have hf := nm_it c12 hf
              cases hf
              exact hX119 _ _ _ hN hH (lv_sub hl [] rfl)
            · have hf := nm_ie c12 hf
              refine lv_aload_n hx hb dX3_make_126 rfl (lv_at hl 0 rfl) ?_
              refine gf_3_1 hK hx hb hts hown hH (cl_n100 hL) (cl_k100 hL) (hts _ tw_85) (fun _ h9 => h9) dX3_make_127 ?_
              refine lv_iload hx hb dX3_make_130 (lv_at hl 4 rfl) ?_
              refine lv_iload hx hb dX3_make_132 (lv_at hl 5 rfl) ?_
              refine lv_iadd hx hb dX3_make_134 ?_
              refine lv_iload_n hx hb dX3_make_135 rfl (lv_at hl 1 rfl) ?_
              refine lv_iconst (v := -1) hx hb dX3_make_136 (by decide) ?_
              have hJ170 : ∀ (t170_2 : Int64) (t170_1 : Int32) (S13 : ca) (H : Heap) (locs : List Loc) (ls : Array Slot), cl_N S13.2 → nm_H D Y (fun q => s0 ≤ q) s.heap X nl ad (S13.1.1, S13.1.2, S13.2, K) H locs → lv_has ls 7 [(0, .ref (ad 100)), (2, .int x2), (3, .int x3), (4, .int x4), (5, .int v1), (6, .int x6)] → f_X3_make_J170 x6 t170_2 t170_1 S13 (f_X3_make_L119 x2 x3 x4 v1 n119) = some o119 → W p l e R s m args below meth c H locs cells slots Q (F0 m 170 ls [.long t170_2, .int t170_1, .ref (ad 101)]) := by
                intro t170_2 t170_1 S13 H locs ls hN hH hl hf
                unfold f_X3_make_J170 at hf
                obtain ⟨hi14, hf⟩ := nm_chk hf
                obtain ⟨S15, eS15, hf⟩ := nm_let hf
                refine nm_last hx hb hK hH (cl_n101 hL) (cl_k101 hL) (cl_l101 hN) hi14 dX3_make_170 (fun H locs hH => ?_)
                have hH : nm_H D Y (fun q => s0 ≤ q) s.heap X nl ad (S15.1.1, S15.1.2, S15.2, K) H locs := by rw [eS15]; exact hH
                have hN : cl_N S15.2 := by rw [eS15]; exact hN
                refine lv_iinc (v := x6 + 1) (lv' := [(6, .int (x6 + 1)), (0, .ref (ad 100)), (2, .int x2), (3, .int x3), (4, .int x4), (5, .int v1)]) hx hb dX3_make_171 hl (k := 5) rfl rfl (by decide) rfl (fun ls hl => ?_)
                refine lv_goto (tgt := 119) hx hb dX3_make_174 (by decide) ?_
                exact ih119 (x6 + 1) S15 _ _ _ _ hN hH (lv_sub hl [1, 2, 3, 4, 5, 0] rfl) hf hX119
              refine lv_icmp_ne (tgt := 144) hx hb dX3_make_137 (by decide) (fun c16 => ?_) (fun c16 => ?_)
              · have hf := nm_ie c16 hf
                refine lv_iload_n hx hb dX3_make_144 rfl (lv_at hl 1 rfl) ?_
                refine lv_aload_n hx hb dX3_make_145 rfl (lv_at hl 0 rfl) ?_
                refine gf_3_1 hK hx hb hts hown hH (cl_n100 hL) (cl_k100 hL) (hts _ tw_85) (fun _ h9 => h9) dX3_make_146 ?_
                refine lv_iload_n hx hb dX3_make_149 rfl (lv_at hl 2 rfl) ?_
                refine lv_iload hx hb dX3_make_150 (lv_at hl 5 rfl) ?_
                refine lv_iadd hx hb dX3_make_152 ?_
                obtain ⟨hi17, hf⟩ := nm_chk hf
                refine nm_lald hx hb hK hH (cl_n101 hL) (cl_k101 hL) (cl_l101 hN) hi17 dX3_make_153 ?_
                refine lv_aload_n hx hb dX3_make_154 rfl (lv_at hl 0 rfl) ?_
                refine gf_3_1 hK hx hb hts hown hH (cl_n100 hL) (cl_k100 hL) (hts _ tw_85) (fun _ h9 => h9) dX3_make_155 ?_
                refine lv_bipush (v := 64) hx hb dX3_make_158 (by decide) ?_
                refine lv_iload hx hb dX3_make_160 (lv_at hl 3 rfl) ?_
                refine lv_imul hx hb dX3_make_162 ?_
                refine lv_iload hx hb dX3_make_163 (lv_at hl 5 rfl) ?_
                refine lv_iadd hx hb dX3_make_165 ?_
                obtain ⟨hi18, hf⟩ := nm_chk hf
                refine nm_lald hx hb hK hH (cl_n101 hL) (cl_k101 hL) (cl_l101 hN) hi18 dX3_make_166 ?_
                refine nm_calll (nm_runS (X := X) (nl := nl) (k_X3_mixed hL hN (hf := (rfl : f_X3_mixed x2 (S11.1.2 101 (x3 + x6).toNatClampNeg) (S11.1.2 101 (((64 : Int32) * x4) + x6).toNatClampNeg) = _))) hx hb hml hown hts hs0 hK hZ hH tw_666 tw_664 tw_665 tw_2 hd_X3_mixed rfl rfl ⟨Nat.le_trans (Nat.le_of_ble_eq_true rfl) hRf, Nat.le_trans (Nat.le_of_ble_eq_true rfl) hRl⟩ rfl hl.1 rfl (Nat.le_of_ble_eq_true rfl) dX3_make_167 ⟨Nat.le_trans (Nat.le_add_right _ _) hC.1, Nat.le_trans (Nat.le_add_right _ _) hC.2⟩) hH (fun H locs hH => ?_)
                have hH : nm_H D Y (fun q => s0 ≤ q) s.heap X nl ad (S11.1.1, S11.1.2, S11.2, K) H locs := hH
                exact hJ170 (f_X3_mixed x2 (S11.1.2 101 (x3 + x6).toNatClampNeg) (S11.1.2 101 (((64 : Int32) * x4) + x6).toNatClampNeg)) (v1 + x6) S11 _ _ _ hN hH (lv_sub hl [0, 1, 2, 3, 4, 5] rfl) hf
              · have hf := nm_it c16 hf
                refine lv_lconst (v := 0) hx hb dX3_make_140 (by decide) ?_
                refine lv_goto (tgt := 170) hx hb dX3_make_141 (by decide) ?_
                exact hJ170 (0 : Int64) (v1 + x6) S11 _ _ _ hN hH (lv_sub hl [0, 1, 2, 3, 4, 5] rfl) hf
        obtain ⟨S19, hl20, hf⟩ := nm_sd1 hf
        refine hL119 nm_F (0 : Int32) S _ _ _ _ hN hH (lv_sub hl [2, 4, 5, 6, 1, 0] rfl) hl20 (fun H locs ls hN hH hl => ?_)
        have hl : lv_has ls 7 [] := hl
        have hH : nm_H D Y (fun q => s0 ≤ q) s.heap X nl ad (S19.1.1, S19.1.2, S19.2, K) H locs := hH
        have hN : cl_N S19.2 := hN
        exact nm_vretA hx hb hr hlocks hQ hRc hRs hC hN hAd hH hf dX3_make_177
      · have hf := nm_it c10 hf
        refine lv_aload_n hx hb dX3_make_50 rfl (lv_at hl 1 rfl) ?_
        refine gf_3_7 hK hx hb hts hown hH (cl_n100 hL) (cl_k100 hL) (hts _ tw_96) (fun _ h9 => h9) dX3_make_51 ?_
        refine lv_aload_n hx hb dX3_make_54 rfl (lv_at hl 1 rfl) ?_
        refine gf_3_1 hK hx hb hts hown hH (cl_n100 hL) (cl_k100 hL) (hts _ tw_85) (fun _ h9 => h9) dX3_make_55 ?_
        refine lv_iload_n hx hb dX3_make_58 rfl (lv_at hl 4 rfl) ?_
        obtain ⟨S21, c23, s24, dc, ds, hc22, hf, edc, eds⟩ := nm_ad1 hf
        refine nm_callvA (nm_runV (X := X) (nl := nl) (k_X4_find hL cl_o110 (hN := hN) (hf := hc22)) hx hb hml hown hts hs0 hK hZ hH tw_600 tw_597 tw_598 (sw_X4_find) tw_3 hd_X4_find (cl_n110 hL) (cl_k110 hL) (by decide) rfl rfl rfl ⟨Nat.le_trans (Nat.le_of_ble_eq_true rfl) hRf, Nat.le_trans (Nat.le_of_ble_eq_true rfl) hRl⟩ rfl hl.1 rfl (Nat.le_of_ble_eq_true rfl) dX3_make_59 ⟨by omega, by omega⟩) hH (fun ad hu H locs cells slots ec es hN hH => ?_)
        have hH : nm_H D Y (fun q => s0 ≤ q) s.heap X nl ad (S21.1.1, S21.1.2, S21.2, K) H locs := hH
        have hN : cl_N S21.2 := hN
        have hl : lv_has ls 7 [(5, .int v1), (0, .ref (ad 100)), (1, .int x1), (2, .int x2), (3, .int x3), (4, .int x4)] := by rw [hu 100 (by decide)]; exact hl
        have hAd : cl_a ad0 ad := cl_a.tr hAd hu
        have hC : cells + dc ≤ R.cells ∧ slots + ds ≤ R.slots := ⟨by omega, by omega⟩
        refine lv_aload_n hx hb dX3_make_62 rfl (lv_at hl 1 rfl) ?_
        refine gf_3_7 hK hx hb hts hown hH (cl_n100 hL) (cl_k100 hL) (hts _ tw_96) (fun _ h9 => h9) dX3_make_63 ?_
        refine lv_aload_n hx hb dX3_make_66 rfl (lv_at hl 1 rfl) ?_
        refine gf_3_1 hK hx hb hts hown hH (cl_n100 hL) (cl_k100 hL) (hts _ tw_85) (fun _ h9 => h9) dX3_make_67 ?_
        refine lv_bipush (v := 64) hx hb dX3_make_70 (by decide) ?_
        refine lv_iload hx hb dX3_make_72 (lv_at hl 5 rfl) ?_
        refine lv_imul hx hb dX3_make_74 ?_
        obtain ⟨S25, c27, s28, dc, ds, hc26, hf, edc, eds⟩ := nm_ad1 hf
        refine nm_callvA (nm_runV (X := X) (nl := nl) (k_X4_touch hL cl_o110 (hN := hN) (hf := hc26)) hx hb hml hown hts hs0 hK hZ hH tw_658 tw_655 tw_656 (sw_X4_touch) tw_3 hd_X4_touch (cl_n110 hL) (cl_k110 hL) (by decide) rfl rfl rfl ⟨Nat.le_trans (Nat.le_of_ble_eq_true rfl) hRf, Nat.le_trans (Nat.le_of_ble_eq_true rfl) hRl⟩ rfl hl.1 rfl (Nat.le_of_ble_eq_true rfl) dX3_make_75 ⟨by omega, by omega⟩) hH (fun ad hu H locs cells slots ec es hN hH => ?_)
        have hH : nm_H D Y (fun q => s0 ≤ q) s.heap X nl ad (S25.1.1, S25.1.2, S25.2, K) H locs := hH
        have hN : cl_N S25.2 := hN
        have hl : lv_has ls 7 [(5, .int v1), (0, .ref (ad 100)), (1, .int x1), (2, .int x2), (3, .int x3), (4, .int x4)] := by rw [hu 100 (by decide)]; exact hl
        have hAd : cl_a ad0 ad := cl_a.tr hAd hu
        have hC : cells + dc ≤ R.cells ∧ slots + ds ≤ R.slots := ⟨by omega, by omega⟩
        refine lv_iconst (v := 0) hx hb dX3_make_78 (by decide) ?_
        refine lv_istore (lv' := [(6, .int (0 : Int32)), (5, .int v1), (0, .ref (ad 100)), (1, .int x1), (2, .int x2), (3, .int x3), (4, .int x4)]) hx hb dX3_make_79 hl (by decide) rfl (fun ls hl => ?_)
        have hL81 : ∀ (n81 : Nat) (x6 : Int32) (S29 : ca) (H : Heap) (locs : List Loc) (ls : Array Slot) (o81 : ca), cl_N S29.2 → nm_H D Y (fun q => s0 ≤ q) s.heap X nl ad (S29.1.1, S29.1.2, S29.2, K) H locs → lv_has ls 7 [(0, .ref (ad 100)), (5, .int v1), (6, .int x6)] → f_X3_make_L81 v1 n81 x6 S29 = some o81 → (∀ (H : Heap) (locs : List Loc) (ls : Array Slot), cl_N o81.2 → nm_H D Y (fun q => s0 ≤ q) s.heap X nl ad (o81.1.1, o81.1.2, o81.2, K) H locs → lv_has ls 7 [] → W p l e R s m args below meth c H locs cells slots Q (F0 m 113 ls [])) → W p l e R s m args below meth c H locs cells slots Q (F0 m 81 ls []) := by
          intro n81
          induction n81 with
          | zero =>
            intro x6 S29 H locs ls o81 hN hH hl hf hX81
            cases hf
          | succ n81 ih81 =>
            intro x6 S29 H locs ls o81 hN hH hl hf hX81
            rw [f_X3_make_L81] at hf
            refine lv_iload hx hb dX3_make_81 (lv_at hl 2 rfl) ?_
            refine lv_bipush (v := 64) hx hb dX3_make_83 (by decide) ?_
            refine lv_icmp_ge (tgt := 113) hx hb dX3_make_85 (by decide) (fun c30 => ?_) (fun c30 => ?_)
            · have hf := nm_it c30 hf
              cases hf
              exact hX81 _ _ _ hN hH (lv_sub hl [] rfl)
            · have hf := nm_ie c30 hf
              refine lv_aload_n hx hb dX3_make_88 rfl (lv_at hl 0 rfl) ?_
              refine gf_3_1 hK hx hb hts hown hH (cl_n100 hL) (cl_k100 hL) (hts _ tw_85) (fun _ h9 => h9) dX3_make_89 ?_
              refine lv_iload hx hb dX3_make_92 (lv_at hl 1 rfl) ?_
              refine lv_iload hx hb dX3_make_94 (lv_at hl 2 rfl) ?_
              refine lv_iadd hx hb dX3_make_96 ?_
              refine lv_aload_n hx hb dX3_make_97 rfl (lv_at hl 0 rfl) ?_
              refine gf_3_7 hK hx hb hts hown hH (cl_n100 hL) (cl_k100 hL) (hts _ tw_96) (fun _ h9 => h9) dX3_make_98 ?_
              refine lv_iload hx hb dX3_make_101 (lv_at hl 2 rfl) ?_
              obtain ⟨r31, hc32, hf⟩ := nm_sd1 hf
              refine nm_calll (nm_runV (X := X) (nl := nl) (k_X4_touchedIn hL hN cl_o110 (hf := hc32)) hx hb hml hown hts hs0 hK hZ hH tw_662 tw_659 tw_660 (sw_X4_touchedIn) tw_3 hd_X4_touchedIn (cl_n110 hL) (cl_k110 hL) (by decide) rfl rfl rfl ⟨Nat.le_trans (Nat.le_of_ble_eq_true rfl) hRf, Nat.le_trans (Nat.le_of_ble_eq_true rfl) hRl⟩ rfl hl.1 rfl (Nat.le_of_ble_eq_true rfl) dX3_make_103 ⟨Nat.le_trans (Nat.le_add_right _ _) hC.1, Nat.le_trans (Nat.le_add_right _ _) hC.2⟩) hH (fun H locs hH => ?_)
              have hH : nm_H D Y (fun q => s0 ≤ q) s.heap X nl ad (S29.1.1, S29.1.2, S29.2, K) H locs := hH
              obtain ⟨hi33, hf⟩ := nm_chk hf
              obtain ⟨S34, eS34, hf⟩ := nm_let hf
              refine nm_last hx hb hK hH (cl_n101 hL) (cl_k101 hL) (cl_l101 hN) hi33 dX3_make_106 (fun H locs hH => ?_)
              have hH : nm_H D Y (fun q => s0 ≤ q) s.heap X nl ad (S34.1.1, S34.1.2, S34.2, K) H locs := by rw [eS34]; exact hH
              have hN : cl_N S34.2 := by rw [eS34]; exact hN
              refine lv_iinc (v := x6 + 1) (lv' := [(6, .int (x6 + 1)), (0, .ref (ad 100)), (5, .int v1)]) hx hb dX3_make_107 hl (k := 2) rfl rfl (by decide) rfl (fun ls hl => ?_)
              refine lv_goto (tgt := 81) hx hb dX3_make_110 (by decide) ?_
              exact ih81 (x6 + 1) S34 _ _ _ _ hN hH (lv_sub hl [1, 2, 0] rfl) hf hX81
        obtain ⟨S35, hl36, hf⟩ := nm_sd1 hf
        refine hL81 nm_F (0 : Int32) S25 _ _ _ _ hN hH (lv_sub hl [2, 1, 0] rfl) hl36 (fun H locs ls hN hH hl => ?_)
        have hl : lv_has ls 7 [] := hl
        have hH : nm_H D Y (fun q => s0 ≤ q) s.heap X nl ad (S35.1.1, S35.1.2, S35.2, K) H locs := hH
        have hN : cl_N S35.2 := hN
        refine lv_goto (tgt := 177) hx hb dX3_make_113 (by decide) ?_
        exact nm_vretA hx hb hr hlocks hQ hRc hRs hC hN hAd hH hf dX3_make_177
    · have hf := nm_it c9 hf
      exact hJ16 S _ _ _ _ _ _ _ _ hN hAd hC ⟨by omega, by omega⟩ hH (lv_sub hl [1, 3, 4, 5, 0] rfl) hf
