def f_X3_piecesOf (x1 : Int32) (S : ca) : Option (ca × Nat × Nat) :=
nm_a1 (f_X4_find 110 ((64 : Int32) * x1) S) fun S1 =>
some (S1, 0, 0)
set_option maxHeartbeats 4000000 in
set_option maxRecDepth 100000 in
theorem k_X3_piecesOf {l : Launch} {D : va_G} {Y : nm_Y} {s0 : Nat} {X : va_W} {ad : Nat → Nat} {nl : List Nat} {K : Nat → Nat} (hL : cl_L nl K) {x1 : Int32} {S M0 : ca} {dc ds : Nat} (hN : cl_N S.2) (hf : f_X3_piecesOf x1 S = some (M0, dc, ds)) :
    nm_Met l yX3_piecesOf cX3_piecesOf 2 (some (.object "RulePlate$Groups")) { frames := 5, cells := dc, slots := ds, locals := 119 } [.ref (ad 100), .int x1] D Y s0 (nm_W Y X nl ad (S.1.1, S.1.2, S.2, K)) (nm_QrA D Y s0 X nl ad (M0.1.1, M0.1.2, M0.2, K)) dc ds := by
  refine nm_of (by decide) (Nat.le_of_ble_eq_true rfl) ?_
  intro p e R s m args below meth c Q ls hx hb hr hlocks hml hown hts hs0 hK hZ hRf hRl hRc hRs hQ hP hD hl
  have hH : nm_H D Y (fun q => s0 ≤ q) s.heap X nl ad (S.1.1, S.1.2, S.2, K) s.heap [] := ⟨hP, hD, va_S.rf⟩
  have hl : lv_has ls 2 [(0, .ref (ad 100)), (1, .int x1)] := hl
  obtain ⟨ad0, had0⟩ : ∃ y, y = ad := ⟨_, rfl⟩
  have hAd : cl_a ad0 ad := by rw [had0]; exact cl_a.rf
  rw [← had0] at hQ
  obtain ⟨cells, ecells⟩ : ∃ y, y = 0 := ⟨_, rfl⟩
  obtain ⟨slots, eslots⟩ : ∃ y, y = 0 := ⟨_, rfl⟩
  have hC : cells + dc ≤ R.cells ∧ slots + ds ≤ R.slots := ⟨by omega, by omega⟩
  refine W.widen (k := cells) (n := slots) (Nat.zero_le _) (Nat.zero_le _) ?_
  obtain ⟨mc, emc⟩ : ∃ y, y = dc := ⟨_, rfl⟩
  obtain ⟨ms, ems⟩ : ∃ y, y = ds := ⟨_, rfl⟩
  rw [← emc] at hRc hQ
  rw [← ems] at hRs hQ
  obtain ⟨tc, htc⟩ : ∃ y, y = cells + dc := ⟨_, rfl⟩
  obtain ⟨tsl, htsl⟩ : ∃ y, y = slots + ds := ⟨_, rfl⟩
  unfold f_X3_piecesOf at hf
  refine lv_aload_n hx hb dX3_piecesOf_0 rfl (lv_at hl 0 rfl) ?_
  refine gf_3_7 hK hx hb hts hown hH (cl_n100 hL) (cl_k100 hL) (hts _ tw_96) (fun _ h9 => h9) dX3_piecesOf_1 ?_
  refine lv_aload_n hx hb dX3_piecesOf_4 rfl (lv_at hl 0 rfl) ?_
  refine gf_3_1 hK hx hb hts hown hH (cl_n100 hL) (cl_k100 hL) (hts _ tw_85) (fun _ h9 => h9) dX3_piecesOf_5 ?_
  refine lv_bipush (v := 64) hx hb dX3_piecesOf_8 (by decide) ?_
  refine lv_iload_n hx hb dX3_piecesOf_10 rfl (lv_at hl 1 rfl) ?_
  refine lv_imul hx hb dX3_piecesOf_11 ?_
  obtain ⟨S1, c3, s4, dc, ds, hc2, hf, edc, eds⟩ := nm_ad1 hf
  refine nm_callvA (nm_runV (X := X) (nl := nl) (k_X4_find hL cl_o110 (hN := hN) (hf := hc2)) hx hb hml hown hts hs0 hK hZ hH tw_600 tw_597 tw_598 (sw_X4_find) tw_3 hd_X4_find (cl_n110 hL) (cl_k110 hL) (by decide) rfl rfl rfl ⟨Nat.le_trans (Nat.le_of_ble_eq_true rfl) hRf, Nat.le_trans (Nat.le_of_ble_eq_true rfl) hRl⟩ rfl hl.1 rfl (Nat.le_of_ble_eq_true rfl) dX3_piecesOf_12 ⟨by omega, by omega⟩) hH (fun ad hu H locs cells slots ec es hN hH => ?_)
  have hH : nm_H D Y (fun q => s0 ≤ q) s.heap X nl ad (S1.1.1, S1.1.2, S1.2, K) H locs := hH
  have hN : cl_N S1.2 := hN
  have hl : lv_has ls 2 [(0, .ref (ad 100)), (1, .int x1)] := by rw [hu 100 (by decide)]; exact hl
  have hAd : cl_a ad0 ad := cl_a.tr hAd hu
  have hC : cells + dc ≤ R.cells ∧ slots + ds ≤ R.slots := ⟨by omega, by omega⟩
  refine lv_aload_n hx hb dX3_piecesOf_15 rfl (lv_at hl 0 rfl) ?_
  refine gf_3_7 hK hx hb hts hown hH (cl_n100 hL) (cl_k100 hL) (hts _ tw_96) (fun _ h9 => h9) dX3_piecesOf_16 ?_
  exact nm_aretA hx hb hr hlocks hQ hRc hRs hC hN hAd hH hf dX3_piecesOf_19
def f_X3_take_L44 (w : Nat) : Nat → Int32 → ca → Option ((ca) × Nat × Nat)
  | 0, _, _ => none
  | n44 + 1, x2, S6 =>
    (if (16 : Int32) ≤ x2 then
    some (S6, 0, 0)
    else
    nm_c (x2 - (8 : Int32)) 8 (
    nm_c (x2 - (8 : Int32)) 8 (
    nm_c (x2 - (8 : Int32)) 8 (
    nm_a1 (f_X3_make x2 (S6.1.1 103 (x2 - (8 : Int32)).toNatClampNeg) ((64 : Int32) * (S6.1.1 104 (x2 - (8 : Int32)).toNatClampNeg)) (S6.1.1 105 (x2 - (8 : Int32)).toNatClampNeg) S6) fun S11 =>
    f_X3_take_L44 w n44 (x2 + 1) S11))))
def f_X3_take_L100 (w : Nat) : Nat → Int32 → Int32 → ca → Option (Int32 × ca)
  | 0, _, _, _ => none
  | n100 + 1, x2, x3, S17 =>
    (if (8 : Int32) ≤ x3 then
    some (x2, S17)
    else
    nm_s1 (f_X3_squaresOf x3 S17.1) fun r19 =>
    nm_l (x2 + r19) fun v21 =>
    f_X3_take_L100 w n100 v21 (x3 + 1) S17)
def f_X3_take (w : Nat) (S : ca) : Option ((Int32 × ca) × Nat × Nat) :=
nm_cp (0 : Int32) (0 : Int32) (512 : Int32) (S.2 (w + 2)) 1024 (
nm_l (((S.1.1, va_up S.1.2 101 (va_cpy (S.1.2 (w + 2)) (S.1.2 101) (0 : Int32).toNatClampNeg (0 : Int32).toNatClampNeg (512 : Int32).toNatClampNeg)), S.2)) fun S2 =>
nm_cp (0 : Int32) (0 : Int32) (S2.1.1 w 5) (S2.2 (w + 3)) 200 (
nm_l (((va_up S2.1.1 102 (va_cpy (S2.1.1 (w + 3)) (S2.1.1 102) (0 : Int32).toNatClampNeg (0 : Int32).toNatClampNeg (S2.1.1 w 5).toNatClampNeg), S2.1.2), S2.2)) fun S4 =>
nm_l (((nm_up S4.1.1 100 3 (S4.1.1 w 5), S4.1.2), S4.2)) fun S5 =>
nm_a1 (f_X3_take_L44 w nm_F (8 : Int32) S5) fun S15 =>
nm_l (((nm_up S15.1.1 100 0 (1 : Int32), S15.1.2), S15.2)) fun S16 =>
nm_s2 (f_X3_take_L100 w nm_F (0 : Int32) (0 : Int32) S16) fun y22 S23 =>
some ((y22, S23), 0, 0)))
set_option maxHeartbeats 4000000 in
set_option maxRecDepth 100000 in
theorem k_X3_take {l : Launch} {D : va_G} {Y : nm_Y} {s0 : Nat} {X : va_W} {ad : Nat → Nat} {nl : List Nat} {K : Nat → Nat} (hL : cl_L nl K) {w : Nat} (hw : cl_w w)  {S M0 : ca} {r0 : Int32} {dc ds : Nat} (hN : cl_N S.2) (hf : f_X3_take w S = some ((r0, M0), dc, ds)) :
    nm_Met l yX3_take cX3_take 4 (some .int) { frames := 6, cells := dc, slots := ds, locals := 145 } [.ref (ad 100), .ref (ad w)] D Y s0 (nm_W Y X nl ad (S.1.1, S.1.2, S.2, K)) (nm_QiA D Y s0 X nl ad r0 (M0.1.1, M0.1.2, M0.2, K)) dc ds := by
  refine nm_of (by decide) (Nat.le_of_ble_eq_true rfl) ?_
  intro p e R s m args below meth c Q ls hx hb hr hlocks hml hown hts hs0 hK hZ hRf hRl hRc hRs hQ hP hD hl
  have hH : nm_H D Y (fun q => s0 ≤ q) s.heap X nl ad (S.1.1, S.1.2, S.2, K) s.heap [] := ⟨hP, hD, va_S.rf⟩
  have hl : lv_has ls 4 [(0, .ref (ad 100)), (1, .ref (ad w))] := hl
  obtain ⟨ad0, had0⟩ : ∃ y, y = ad := ⟨_, rfl⟩
  have hAd : cl_a ad0 ad := by rw [had0]; exact cl_a.rf
  rw [← had0] at hQ
  obtain ⟨cells, ecells⟩ : ∃ y, y = 0 := ⟨_, rfl⟩
  obtain ⟨slots, eslots⟩ : ∃ y, y = 0 := ⟨_, rfl⟩
  have hC : cells + dc ≤ R.cells ∧ slots + ds ≤ R.slots := ⟨by omega, by omega⟩
  refine W.widen (k := cells) (n := slots) (Nat.zero_le _) (Nat.zero_le _) ?_
  obtain ⟨mc, emc⟩ : ∃ y, y = dc := ⟨_, rfl⟩
  obtain ⟨ms, ems⟩ : ∃ y, y = ds := ⟨_, rfl⟩
  rw [← emc] at hRc hQ
  rw [← ems] at hRs hQ
  obtain ⟨tc, htc⟩ : ∃ y, y = cells + dc := ⟨_, rfl⟩
  obtain ⟨tsl, htsl⟩ : ∃ y, y = slots + ds := ⟨_, rfl⟩
  unfold f_X3_take at hf
  refine lv_aload_n hx hb dX3_take_0 rfl (lv_at hl 1 rfl) ?_
  refine gf_1_3 hK hx hb hts hown hH (cl_nw0 hL hw) (cl_kw0 hL hw) (hts _ tw_269) (fun _ h9 => h9) dX3_take_1 ?_
  refine lv_iconst (v := 0) hx hb dX3_take_4 (by decide) ?_
  refine lv_aload_n hx hb dX3_take_5 rfl (lv_at hl 0 rfl) ?_
  refine gf_3_1 hK hx hb hts hown hH (cl_n100 hL) (cl_k100 hL) (hts _ tw_85) (fun _ h9 => h9) dX3_take_6 ?_
  refine lv_iconst (v := 0) hx hb dX3_take_9 (by decide) ?_
  refine lv_sipush (v := 512) hx hb dX3_take_10 (by decide) ?_
  obtain ⟨hi1, hf⟩ := nm_cpk hf
  obtain ⟨S2, eS2, hf⟩ := nm_let hf
  refine nm_copyJ hx hb (hml.trans hl.1.symm) hown hts tw_589 hK hH (cl_nw2 hL hw) (cl_kw2 hL hw) (cl_n101 hL) (cl_k101 hL) rfl (cl_l101 hN) hi1 (Nat.le_trans (Nat.le_of_ble_eq_true rfl) hRf) (Nat.le_trans (by decide) hRl) dX3_take_13 (fun H locs hH => ?_)
  have hH : nm_H D Y (fun q => s0 ≤ q) s.heap X nl ad (S2.1.1, S2.1.2, S2.2, K) H locs := by rw [eS2]; exact hH
  have hN : cl_N S2.2 := by rw [eS2]; exact hN
  refine lv_aload_n hx hb dX3_take_16 rfl (lv_at hl 1 rfl) ?_
  refine gf_1_4 hK hx hb hts hown hH (cl_nw0 hL hw) (cl_kw0 hL hw) (hts _ tw_271) (fun _ h9 => h9) dX3_take_17 ?_
  refine lv_iconst (v := 0) hx hb dX3_take_20 (by decide) ?_
  refine lv_aload_n hx hb dX3_take_21 rfl (lv_at hl 0 rfl) ?_
  refine gf_3_2 hK hx hb hts hown hH (cl_n100 hL) (cl_k100 hL) (hts _ tw_89) (fun _ h9 => h9) dX3_take_22 ?_
  refine lv_iconst (v := 0) hx hb dX3_take_25 (by decide) ?_
  refine lv_aload_n hx hb dX3_take_26 rfl (lv_at hl 1 rfl) ?_
  refine gf_1_5 hK hx hb hts hown hH (cl_nw0 hL hw) (cl_kw0 hL hw) (hts _ tw_273) (fun _ h9 => h9) dX3_take_27 ?_
  obtain ⟨hi3, hf⟩ := nm_cpk hf
  obtain ⟨S4, eS4, hf⟩ := nm_let hf
  refine nm_copyI hx hb (hml.trans hl.1.symm) hown hts tw_589 hK hH (cl_nw3 hL hw) (cl_kw3 hL hw) (cl_n102 hL) (cl_k102 hL) rfl (cl_l102 hN) hi3 (Nat.le_trans (Nat.le_of_ble_eq_true rfl) hRf) (Nat.le_trans (by decide) hRl) dX3_take_30 (fun H locs hH => ?_)
  have hH : nm_H D Y (fun q => s0 ≤ q) s.heap X nl ad (S4.1.1, S4.1.2, S4.2, K) H locs := by rw [eS4]; exact hH
  have hN : cl_N S4.2 := by rw [eS4]; exact hN
  refine lv_aload_n hx hb dX3_take_33 rfl (lv_at hl 0 rfl) ?_
  refine lv_aload_n hx hb dX3_take_34 rfl (lv_at hl 1 rfl) ?_
  refine gf_1_5 hK hx hb hts hown hH (cl_nw0 hL hw) (cl_kw0 hL hw) (hts _ tw_273) (fun _ h9 => h9) dX3_take_35 ?_
  obtain ⟨S5, eS5, hf⟩ := nm_let hf
  refine pf_3_3 hK hx hb hts hown hH (cl_n100 hL) (cl_k100 hL) (hts _ tw_91) (fun _ h9 => h9) dX3_take_38 (fun H locs hH => ?_)
  have hH : nm_H D Y (fun q => s0 ≤ q) s.heap X nl ad (S5.1.1, S5.1.2, S5.2, K) H locs := by rw [eS5]; exact hH
  have hN : cl_N S5.2 := by rw [eS5]; exact hN
  refine lv_bipush (v := 8) hx hb dX3_take_41 (by decide) ?_
  refine lv_istore_n (lv' := [(2, .int (8 : Int32)), (0, .ref (ad 100)), (1, .ref (ad w))]) hx hb dX3_take_43 rfl hl (by decide) rfl (fun ls hl => ?_)
  have hL44 : ∀ (n44 : Nat) (x2 : Int32) (S6 : ca) (ad : Nat → Nat) (H : Heap) (locs : List Loc) (ls : Array Slot) (cells slots : Nat) (o44 : ca) (dc ds : Nat), cl_N S6.2 → cl_a ad0 ad → cells + dc ≤ R.cells ∧ slots + ds ≤ R.slots → nm_H D Y (fun q => s0 ≤ q) s.heap X nl ad (S6.1.1, S6.1.2, S6.2, K) H locs → lv_has ls 4 [(0, .ref (ad 100)), (2, .int x2)] → f_X3_take_L44 w n44 x2 S6 = some (o44, dc, ds) → (∀ (ad : Nat → Nat) (H : Heap) (locs : List Loc) (ls : Array Slot) (cells9 slots9 : Nat), cl_N o44.2 → cl_a ad0 ad → cells9 = cells + dc → slots9 = slots + ds → nm_H D Y (fun q => s0 ≤ q) s.heap X nl ad (o44.1.1, o44.1.2, o44.2, K) H locs → lv_has ls 4 [(0, .ref (ad 100))] → W p l e R s m args below meth c H locs cells9 slots9 Q (F0 m 91 ls [])) → W p l e R s m args below meth c H locs cells slots Q (F0 m 44 ls []) := by
    intro n44
    induction n44 with
    | zero =>
      intro x2 S6 ad H locs ls cells slots o44 dc ds hN hAd hC hH hl hf hX44
      cases hf
    | succ n44 ih44 =>
      intro x2 S6 ad H locs ls cells slots o44 dc ds hN hAd hC hH hl hf hX44
      obtain ⟨tc, htc⟩ : ∃ y, y = cells + dc := ⟨_, rfl⟩
      obtain ⟨tsl, htsl⟩ : ∃ y, y = slots + ds := ⟨_, rfl⟩
      rw [f_X3_take_L44] at hf
      refine lv_iload_n hx hb dX3_take_44 rfl (lv_at hl 1 rfl) ?_
      refine lv_bipush (v := 16) hx hb dX3_take_45 (by decide) ?_
      refine lv_icmp_ge (tgt := 91) hx hb dX3_take_47 (by decide) (fun c7 => ?_) (fun c7 => ?_)
      · have hf := nm_it c7 hf
        cases hf
        exact hX44 _ _ _ _ _ _ hN hAd (by omega) (by omega) hH (lv_sub hl [0] rfl)
      · have hf := nm_ie c7 hf
        refine lv_aload_n hx hb dX3_take_50 rfl (lv_at hl 0 rfl) ?_
        refine lv_iload_n hx hb dX3_take_51 rfl (lv_at hl 1 rfl) ?_
        refine lv_aload_n hx hb dX3_take_52 rfl (lv_at hl 0 rfl) ?_
        refine gf_3_4 hK hx hb hts hown hH (cl_n100 hL) (cl_k100 hL) (hts _ tw_93) (fun _ h9 => h9) dX3_take_53 ?_
        refine lv_iload_n hx hb dX3_take_56 rfl (lv_at hl 1 rfl) ?_
        refine lv_bipush (v := 8) hx hb dX3_take_57 (by decide) ?_
        refine lv_isub hx hb dX3_take_59 ?_
        obtain ⟨hi8, hf⟩ := nm_chk hf
        refine nm_iald hx hb hK hH (cl_n103 hL) (cl_k103 hL) (cl_l103 hN) hi8 dX3_take_60 ?_
        refine lv_bipush (v := 64) hx hb dX3_take_61 (by decide) ?_
        refine lv_aload_n hx hb dX3_take_63 rfl (lv_at hl 0 rfl) ?_
        refine gf_3_5 hK hx hb hts hown hH (cl_n100 hL) (cl_k100 hL) (hts _ tw_94) (fun _ h9 => h9) dX3_take_64 ?_
        refine lv_iload_n hx hb dX3_take_67 rfl (lv_at hl 1 rfl) ?_
        refine lv_bipush (v := 8) hx hb dX3_take_68 (by decide) ?_
        refine lv_isub hx hb dX3_take_70 ?_
        obtain ⟨hi9, hf⟩ := nm_chk hf
        refine nm_iald hx hb hK hH (cl_n104 hL) (cl_k104 hL) (cl_l104 hN) hi9 dX3_take_71 ?_
        refine lv_imul hx hb dX3_take_72 ?_
        refine lv_aload_n hx hb dX3_take_73 rfl (lv_at hl 0 rfl) ?_
        refine gf_3_6 hK hx hb hts hown hH (cl_n100 hL) (cl_k100 hL) (hts _ tw_95) (fun _ h9 => h9) dX3_take_74 ?_
        refine lv_iload_n hx hb dX3_take_77 rfl (lv_at hl 1 rfl) ?_
        refine lv_bipush (v := 8) hx hb dX3_take_78 (by decide) ?_
        refine lv_isub hx hb dX3_take_80 ?_
        obtain ⟨hi10, hf⟩ := nm_chk hf
        refine nm_iald hx hb hK hH (cl_n105 hL) (cl_k105 hL) (cl_l105 hN) hi10 dX3_take_81 ?_
        obtain ⟨S11, c13, s14, dc, ds, hc12, hf, edc, eds⟩ := nm_ad1 hf
        refine nm_callvA (nm_runV (X := X) (nl := nl) (k_X3_make hL (hN := hN) (hf := hc12)) hx hb hml hown hts hs0 hK hZ hH tw_593 tw_590 tw_592 (sw_X3_make) tw_2 hd_X3_make (cl_n100 hL) (cl_k100 hL) (by decide) rfl rfl rfl ⟨Nat.le_trans (Nat.le_of_ble_eq_true rfl) hRf, Nat.le_trans (Nat.le_of_ble_eq_true rfl) hRl⟩ rfl hl.1 rfl (Nat.le_of_ble_eq_true rfl) dX3_take_82 ⟨by omega, by omega⟩) hH (fun ad hu H locs cells slots ec es hN hH => ?_)
        have hH : nm_H D Y (fun q => s0 ≤ q) s.heap X nl ad (S11.1.1, S11.1.2, S11.2, K) H locs := hH
        have hN : cl_N S11.2 := hN
        have hl : lv_has ls 4 [(0, .ref (ad 100)), (2, .int x2)] := by rw [hu 100 (by decide)]; exact hl
        have hAd : cl_a ad0 ad := cl_a.tr hAd hu
        have hC : cells + dc ≤ R.cells ∧ slots + ds ≤ R.slots := ⟨by omega, by omega⟩
        refine lv_iinc (v := x2 + 1) (lv' := [(2, .int (x2 + 1)), (0, .ref (ad 100))]) hx hb dX3_take_85 hl (k := 1) rfl rfl (by decide) rfl (fun ls hl => ?_)
        refine lv_goto (tgt := 44) hx hb dX3_take_88 (by decide) ?_
        exact ih44 (x2 + 1) S11 _ _ _ _ _ _ _ _ _ hN hAd hC hH (lv_sub hl [1, 0] rfl) hf (fun ad H locs ls cells slots h1 h2 e1 e2 h3 h4 => hX44 ad H locs ls cells slots h1 h2 (by omega) (by omega) h3 h4)
  obtain ⟨S15, c26, s27, dc, ds, hl25, hf, edc, eds⟩ := nm_ad1 hf
  refine hL44 nm_F (8 : Int32) S5 _ _ _ _ _ _ _ _ _ hN hAd ⟨by omega, by omega⟩ hH (lv_sub hl [1, 0] rfl) hl25 (fun ad H locs ls cells slots hN hAd ec es hH hl => ?_)
  have hC : cells + dc ≤ R.cells ∧ slots + ds ≤ R.slots := ⟨by omega, by omega⟩
  have hl : lv_has ls 4 [(0, .ref (ad 100))] := hl
  have hH : nm_H D Y (fun q => s0 ≤ q) s.heap X nl ad (S15.1.1, S15.1.2, S15.2, K) H locs := hH
  have hN : cl_N S15.2 := hN
  refine lv_aload_n hx hb dX3_take_91 rfl (lv_at hl 0 rfl) ?_
  refine lv_iconst (v := 1) hx hb dX3_take_92 (by decide) ?_
  obtain ⟨S16, eS16, hf⟩ := nm_let hf
  refine pf_3_0 hK hx hb hts hown hH (cl_n100 hL) (cl_k100 hL) (hts _ tw_83) (fun _ h9 => h9) rfl rfl dX3_take_93 (fun H locs hH => ?_)
  have hH : nm_H D Y (fun q => s0 ≤ q) s.heap X nl ad (S16.1.1, S16.1.2, S16.2, K) H locs := by rw [eS16]; exact hH
  have hN : cl_N S16.2 := by rw [eS16]; exact hN
  refine lv_iconst (v := 0) hx hb dX3_take_96 (by decide) ?_
  refine lv_istore_n (lv' := [(2, .int (0 : Int32)), (0, .ref (ad 100))]) hx hb dX3_take_97 rfl hl (by decide) rfl (fun ls hl => ?_)
  refine lv_iconst (v := 0) hx hb dX3_take_98 (by decide) ?_
  refine lv_istore_n (lv' := [(3, .int (0 : Int32)), (2, .int (0 : Int32)), (0, .ref (ad 100))]) hx hb dX3_take_99 rfl hl (by decide) rfl (fun ls hl => ?_)
  have hL100 : ∀ (n100 : Nat) (x2 : Int32) (x3 : Int32) (S17 : ca) (H : Heap) (locs : List Loc) (ls : Array Slot) (o100 : Int32 × ca), cl_N S17.2 → nm_H D Y (fun q => s0 ≤ q) s.heap X nl ad (S17.1.1, S17.1.2, S17.2, K) H locs → lv_has ls 4 [(0, .ref (ad 100)), (2, .int x2), (3, .int x3)] → f_X3_take_L100 w n100 x2 x3 S17 = some o100 → (∀ (H : Heap) (locs : List Loc) (ls : Array Slot), cl_N o100.2.2 → nm_H D Y (fun q => s0 ≤ q) s.heap X nl ad (o100.2.1.1, o100.2.1.2, o100.2.2, K) H locs → lv_has ls 4 [(2, .int o100.1)] → W p l e R s m args below meth c H locs cells slots Q (F0 m 120 ls [])) → W p l e R s m args below meth c H locs cells slots Q (F0 m 100 ls []) := by
    intro n100
    induction n100 with
    | zero =>
      intro x2 x3 S17 H locs ls o100 hN hH hl hf hX100
      cases hf
    | succ n100 ih100 =>
      intro x2 x3 S17 H locs ls o100 hN hH hl hf hX100
      rw [f_X3_take_L100] at hf
      refine lv_iload_n hx hb dX3_take_100 rfl (lv_at hl 2 rfl) ?_
      refine lv_bipush (v := 8) hx hb dX3_take_101 (by decide) ?_
      refine lv_icmp_ge (tgt := 120) hx hb dX3_take_103 (by decide) (fun c18 => ?_) (fun c18 => ?_)
      · have hf := nm_it c18 hf
        cases hf
        exact hX100 _ _ _ hN hH (lv_sub hl [1] rfl)
      · have hf := nm_ie c18 hf
        refine lv_iload_n hx hb dX3_take_106 rfl (lv_at hl 1 rfl) ?_
        refine lv_aload_n hx hb dX3_take_107 rfl (lv_at hl 0 rfl) ?_
        refine lv_iload_n hx hb dX3_take_108 rfl (lv_at hl 2 rfl) ?_
        obtain ⟨r19, hc20, hf⟩ := nm_sd1 hf
        refine nm_calli (nm_runV (X := X) (nl := nl) (k_X3_squaresOf hL hN (hf := hc20)) hx hb hml hown hts hs0 hK hZ hH tw_671 tw_668 tw_669 (sw_X3_squaresOf) tw_2 hd_X3_squaresOf (cl_n100 hL) (cl_k100 hL) (by decide) rfl rfl rfl ⟨Nat.le_trans (Nat.le_of_ble_eq_true rfl) hRf, Nat.le_trans (Nat.le_of_ble_eq_true rfl) hRl⟩ rfl hl.1 rfl (Nat.le_of_ble_eq_true rfl) dX3_take_109 ⟨Nat.le_trans (Nat.le_add_right _ _) hC.1, Nat.le_trans (Nat.le_add_right _ _) hC.2⟩) hH (fun H locs hH => ?_)
        have hH : nm_H D Y (fun q => s0 ≤ q) s.heap X nl ad (S17.1.1, S17.1.2, S17.2, K) H locs := hH
        refine lv_iadd hx hb dX3_take_112 ?_
        obtain ⟨v21, ev21, hf⟩ := nm_let hf
        refine nm_topi ev21 ?_
        refine lv_istore_n (lv' := [(2, .int v21), (0, .ref (ad 100)), (3, .int x3)]) hx hb dX3_take_113 rfl hl (by decide) rfl (fun ls hl => ?_)
        refine lv_iinc (v := x3 + 1) (lv' := [(3, .int (x3 + 1)), (2, .int v21), (0, .ref (ad 100))]) hx hb dX3_take_114 hl (k := 2) rfl rfl (by decide) rfl (fun ls hl => ?_)
        refine lv_goto (tgt := 100) hx hb dX3_take_117 (by decide) ?_
        exact ih100 v21 (x3 + 1) S17 _ _ _ _ hN hH (lv_sub hl [2, 1, 0] rfl) hf hX100
  obtain ⟨y22, S23, hl24, hf⟩ := nm_sd2 hf
  refine hL100 nm_F (0 : Int32) (0 : Int32) S16 _ _ _ _ hN hH (lv_sub hl [2, 1, 0] rfl) hl24 (fun H locs ls hN hH hl => ?_)
  have hl : lv_has ls 4 [(2, .int y22)] := hl
  have hH : nm_H D Y (fun q => s0 ≤ q) s.heap X nl ad (S23.1.1, S23.1.2, S23.2, K) H locs := hH
  have hN : cl_N S23.2 := hN
  refine lv_iload_n hx hb dX3_take_120 rfl (lv_at hl 0 rfl) ?_
  exact nm_iretA hx hb hr hlocks hQ hRc hRs hC hN hAd hH hf dX3_take_121
def f_X8_hold_J118 (x2 : Int32) (S15 : ca) (k : Int32 → ca → Option ((ca) × Nat × Nat)) : Option ((ca) × Nat × Nat) :=
k (x2 + 1) S15
def f_X8_hold_L37  : Nat → Int32 → ca → Option ((ca) × Nat × Nat)
  | 0, _, _ => none
  | n37 + 1, x2, S12 =>
    (if (S12.1.1 200 0) ≤ x2 then
    some (S12, 0, 0)
    else
    nm_c x2 16 (
    (if (S12.1.1 204 x2.toNatClampNeg) = (2 : Int32) then
    nm_s1 (f_X8_holdInside S12.2 x2 S12.1) fun M17 =>
    nm_l (M17, S12.2) fun S19 =>
    f_X8_hold_J118 x2 S19 (f_X8_hold_L37 n37)
    else
    if (S12.1.1 204 x2.toNatClampNeg) = (3 : Int32) then
    nm_c x2 16 (
    nm_a1 (f_X3_piecesOf (S12.1.1 205 x2.toNatClampNeg) S12) fun S22 =>
    nm_s1 (f_X8_holdArea S22.2 x2 S22.1) fun M26 =>
    nm_l (M26, S22.2) fun S28 =>
    f_X8_hold_J118 x2 S28 (f_X8_hold_L37 n37))
    else
    if (S12.1.1 204 x2.toNatClampNeg) = (4 : Int32) then
    nm_s1 (f_X8_holdShare S12.2 x2 S12.1) fun M30 =>
    nm_l (M30, S12.2) fun S32 =>
    f_X8_hold_J118 x2 S32 (f_X8_hold_L37 n37)
    else
    nm_s1 (f_X8_holdLines S12.2 x2 S12.1) fun M33 =>
    nm_l (M33, S12.2) fun S35 =>
    f_X8_hold_J118 x2 S35 (f_X8_hold_L37 n37))))
def f_X8_hold (S : ca) : Option ((Int32 × ca) × Nat × Nat) :=
nm_a1 (cl_grow 201 (2400 : Int32) S) fun S1 =>
nm_l (((nm_up S1.1.1 200 2 (0 : Int32), S1.1.2), S1.2)) fun S5 =>
nm_s1 (f_J7_fill_53178 202 S5.2 (0 : Int32) S5.1) fun M6 =>
nm_l (M6, S5.2) fun S8 =>
nm_s1 (f_J7_fill_53178 203 S8.2 (-1 : Int32) S8.1) fun M9 =>
nm_l (M9, S8.2) fun S11 =>
nm_a1 (f_X8_hold_L37 nm_F (0 : Int32) S11) fun S36 =>
nm_l (((nm_up S36.1.1 200 1 (1 : Int32), S36.1.2), S36.2)) fun S37 =>
some ((S37.1.1 200 2, S37), 0, 0)
set_option maxHeartbeats 4000000 in
set_option maxRecDepth 100000 in
theorem k_X8_hold {l : Launch} {D : va_G} {Y : nm_Y} {s0 : Nat} {X : va_W} {ad : Nat → Nat} {nl : List Nat} {K : Nat → Nat} (hL : cl_L nl K)  {S M0 : ca} {r0 : Int32} {dc ds : Nat} (hN : cl_N S.2) (hf : f_X8_hold S = some ((r0, M0), dc, ds)) :
    nm_Met l yX8_hold cX8_hold 3 (some .int) { frames := 6, cells := dc, slots := ds, locals := 140 } [.ref (ad 200), .ref (ad 100)] D Y s0 (nm_W Y X nl ad (S.1.1, S.1.2, S.2, K)) (nm_QiA D Y s0 X nl ad r0 (M0.1.1, M0.1.2, M0.2, K)) dc ds := by
  refine nm_of (by decide) (Nat.le_of_ble_eq_true rfl) ?_
  intro p e R s m args below meth c Q ls hx hb hr hlocks hml hown hts hs0 hK hZ hRf hRl hRc hRs hQ hP hD hl
  have hH : nm_H D Y (fun q => s0 ≤ q) s.heap X nl ad (S.1.1, S.1.2, S.2, K) s.heap [] := ⟨hP, hD, va_S.rf⟩
  have hl : lv_has ls 3 [(0, .ref (ad 200)), (1, .ref (ad 100))] := hl
  obtain ⟨ad0, had0⟩ : ∃ y, y = ad := ⟨_, rfl⟩
  have hAd : cl_a ad0 ad := by rw [had0]; exact cl_a.rf
  rw [← had0] at hQ
  obtain ⟨cells, ecells⟩ : ∃ y, y = 0 := ⟨_, rfl⟩
  obtain ⟨slots, eslots⟩ : ∃ y, y = 0 := ⟨_, rfl⟩
  have hC : cells + dc ≤ R.cells ∧ slots + ds ≤ R.slots := ⟨by omega, by omega⟩
  refine W.widen (k := cells) (n := slots) (Nat.zero_le _) (Nat.zero_le _) ?_
  obtain ⟨mc, emc⟩ : ∃ y, y = dc := ⟨_, rfl⟩
  obtain ⟨ms, ems⟩ : ∃ y, y = ds := ⟨_, rfl⟩
  rw [← emc] at hRc hQ
  rw [← ems] at hRs hQ
  obtain ⟨tc, htc⟩ : ∃ y, y = cells + dc := ⟨_, rfl⟩
  obtain ⟨tsl, htsl⟩ : ∃ y, y = slots + ds := ⟨_, rfl⟩
  unfold f_X8_hold at hf
  refine lv_aload_n hx hb dX8_hold_0 rfl (lv_at hl 0 rfl) ?_
  refine lv_aload_n hx hb dX8_hold_1 rfl (lv_at hl 0 rfl) ?_
  refine gf_8_3 hK hx hb hts hown hH (cl_n200 hL) (cl_k200 hL) (hts _ tw_126) (fun _ h9 => h9) dX8_hold_2 ?_
  refine lv_sipush (v := 2400) hx hb dX8_hold_5 (by decide) ?_
  obtain ⟨S1, c3, s4, dc, ds, hc2, hf, edc, eds⟩ := nm_ad1 hf
  refine gw_8_3 (o := 0) hx hb hml hL  hown hts hs0 hK hZ hH hN tw_709 (hts _ tw_126) (fun _ h9 => h9) hc2 (Nat.le_trans (Nat.le_of_ble_eq_true rfl) hRf) (Nat.le_trans (Nat.le_of_ble_eq_true rfl) hRl) hl.1 (Nat.le_of_ble_eq_true rfl) dX8_hold_8 dX8_hold_11 ⟨by omega, by omega⟩ (fun ad hu H locs cells slots ec es hN hH => ?_)
  have hH : nm_H D Y (fun q => s0 ≤ q) s.heap X nl ad (S1.1.1, S1.1.2, S1.2, K) H locs := hH
  have hN : cl_N S1.2 := hN
  have hl : lv_has ls 3 [(0, .ref (ad 200)), (1, .ref (ad 100))] := by rw [hu 200 (by decide), hu 100 (by decide)]; exact hl
  have hAd : cl_a ad0 ad := cl_a.tr hAd hu
  have hC : cells + dc ≤ R.cells ∧ slots + ds ≤ R.slots := ⟨by omega, by omega⟩
  refine lv_aload_n hx hb dX8_hold_14 rfl (lv_at hl 0 rfl) ?_
  refine lv_iconst (v := 0) hx hb dX8_hold_15 (by decide) ?_
  obtain ⟨S5, eS5, hf⟩ := nm_let hf
  refine pf_8_2 hK hx hb hts hown hH (cl_n200 hL) (cl_k200 hL) (hts _ tw_124) (fun _ h9 => h9) dX8_hold_16 (fun H locs hH => ?_)
  have hH : nm_H D Y (fun q => s0 ≤ q) s.heap X nl ad (S5.1.1, S5.1.2, S5.2, K) H locs := by rw [eS5]; exact hH
  have hN : cl_N S5.2 := by rw [eS5]; exact hN
  refine lv_aload_n hx hb dX8_hold_19 rfl (lv_at hl 0 rfl) ?_
  refine gf_8_4 hK hx hb hts hown hH (cl_n200 hL) (cl_k200 hL) (hts _ tw_128) (fun _ h9 => h9) dX8_hold_20 ?_
  refine lv_iconst (v := 0) hx hb dX8_hold_23 (by decide) ?_
  obtain ⟨M6, hc7, hf⟩ := nm_sd1 hf
  obtain ⟨S8, eS8, hf⟩ := nm_let hf
  refine nm_callv (nm_runS (X := X) (nl := nl) (k_J7_fill_53178 hL hN (cl_n202 hL) (cl_k202 hL) (hf := hc7)) hx hb hml hown hts hs0 hK hZ hH tw_82 tw_710 tw_81 tw_4 hd_J7_fill_53178 rfl rfl ⟨Nat.le_trans (Nat.le_of_ble_eq_true rfl) hRf, Nat.le_trans (Nat.le_of_ble_eq_true rfl) hRl⟩ rfl hl.1 rfl (Nat.le_of_ble_eq_true rfl) dX8_hold_24 ⟨Nat.le_trans (Nat.le_add_right _ _) hC.1, Nat.le_trans (Nat.le_add_right _ _) hC.2⟩) hH (fun H locs hH => ?_)
  have hH : nm_H D Y (fun q => s0 ≤ q) s.heap X nl ad (S8.1.1, S8.1.2, S8.2, K) H locs := by rw [eS8]; exact hH
  have hN : cl_N S8.2 := by rw [eS8]; exact hN
  refine lv_aload_n hx hb dX8_hold_27 rfl (lv_at hl 0 rfl) ?_
  refine gf_8_5 hK hx hb hts hown hH (cl_n200 hL) (cl_k200 hL) (hts _ tw_130) (fun _ h9 => h9) dX8_hold_28 ?_
  refine lv_iconst (v := -1) hx hb dX8_hold_31 (by decide) ?_
  obtain ⟨M9, hc10, hf⟩ := nm_sd1 hf
  obtain ⟨S11, eS11, hf⟩ := nm_let hf
  refine nm_callv (nm_runS (X := X) (nl := nl) (k_J7_fill_53178 hL hN (cl_n203 hL) (cl_k203 hL) (hf := hc10)) hx hb hml hown hts hs0 hK hZ hH tw_82 tw_710 tw_81 tw_4 hd_J7_fill_53178 rfl rfl ⟨Nat.le_trans (Nat.le_of_ble_eq_true rfl) hRf, Nat.le_trans (Nat.le_of_ble_eq_true rfl) hRl⟩ rfl hl.1 rfl (Nat.le_of_ble_eq_true rfl) dX8_hold_32 ⟨Nat.le_trans (Nat.le_add_right _ _) hC.1, Nat.le_trans (Nat.le_add_right _ _) hC.2⟩) hH (fun H locs hH => ?_)
  have hH : nm_H D Y (fun q => s0 ≤ q) s.heap X nl ad (S11.1.1, S11.1.2, S11.2, K) H locs := by rw [eS11]; exact hH
  have hN : cl_N S11.2 := by rw [eS11]; exact hN
  refine lv_iconst (v := 0) hx hb dX8_hold_35 (by decide) ?_
  refine lv_istore_n (lv' := [(2, .int (0 : Int32)), (0, .ref (ad 200)), (1, .ref (ad 100))]) hx hb dX8_hold_36 rfl hl (by decide) rfl (fun ls hl => ?_)
  have hL37 : ∀ (n37 : Nat) (x2 : Int32) (S12 : ca) (ad : Nat → Nat) (H : Heap) (locs : List Loc) (ls : Array Slot) (cells slots : Nat) (o37 : ca) (dc ds : Nat), cl_N S12.2 → cl_a ad0 ad → cells + dc ≤ R.cells ∧ slots + ds ≤ R.slots → nm_H D Y (fun q => s0 ≤ q) s.heap X nl ad (S12.1.1, S12.1.2, S12.2, K) H locs → lv_has ls 3 [(0, .ref (ad 200)), (1, .ref (ad 100)), (2, .int x2)] → f_X8_hold_L37 n37 x2 S12 = some (o37, dc, ds) → (∀ (ad : Nat → Nat) (H : Heap) (locs : List Loc) (ls : Array Slot) (cells9 slots9 : Nat), cl_N o37.2 → cl_a ad0 ad → cells9 = cells + dc → slots9 = slots + ds → nm_H D Y (fun q => s0 ≤ q) s.heap X nl ad (o37.1.1, o37.1.2, o37.2, K) H locs → lv_has ls 3 [(0, .ref (ad 200))] → W p l e R s m args below meth c H locs cells9 slots9 Q (F0 m 124 ls [])) → W p l e R s m args below meth c H locs cells slots Q (F0 m 37 ls []) := by
    intro n37
    induction n37 with
    | zero =>
      intro x2 S12 ad H locs ls cells slots o37 dc ds hN hAd hC hH hl hf hX37
      cases hf
    | succ n37 ih37 =>
      intro x2 S12 ad H locs ls cells slots o37 dc ds hN hAd hC hH hl hf hX37
      obtain ⟨tc, htc⟩ : ∃ y, y = cells + dc := ⟨_, rfl⟩
      obtain ⟨tsl, htsl⟩ : ∃ y, y = slots + ds := ⟨_, rfl⟩
      rw [f_X8_hold_L37] at hf
      refine lv_iload_n hx hb dX8_hold_37 rfl (lv_at hl 2 rfl) ?_
      refine lv_aload_n hx hb dX8_hold_38 rfl (lv_at hl 0 rfl) ?_
      refine gf_8_0 hK hx hb hts hown hH (cl_n200 hL) (cl_k200 hL) (hts _ tw_120) (fun _ h9 => h9) dX8_hold_39 ?_
      refine lv_icmp_ge (tgt := 124) hx hb dX8_hold_42 (by decide) (fun c13 => ?_) (fun c13 => ?_)
      · have hf := nm_it c13 hf
        cases hf
        exact hX37 _ _ _ _ _ _ hN hAd (by omega) (by omega) hH (lv_sub hl [0] rfl)
      · have hf := nm_ie c13 hf
        refine lv_aload_n hx hb dX8_hold_45 rfl (lv_at hl 0 rfl) ?_
        refine gf_8_6 hK hx hb hts hown hH (cl_n200 hL) (cl_k200 hL) (hts _ tw_132) (fun _ h9 => h9) dX8_hold_46 ?_
        refine lv_iload_n hx hb dX8_hold_49 rfl (lv_at hl 2 rfl) ?_
        obtain ⟨hi14, hf⟩ := nm_chk hf
        refine nm_iald hx hb hK hH (cl_n204 hL) (cl_k204 hL) (cl_l204 hN) hi14 dX8_hold_50 ?_
        have hJ118 : ∀ (S15 : ca) (ad : Nat → Nat) (H : Heap) (locs : List Loc) (ls : Array Slot) (cells slots dc ds : Nat), cl_N S15.2 → cl_a ad0 ad → cells + dc ≤ R.cells ∧ slots + ds ≤ R.slots → cells + dc = tc ∧ slots + ds = tsl → nm_H D Y (fun q => s0 ≤ q) s.heap X nl ad (S15.1.1, S15.1.2, S15.2, K) H locs → lv_has ls 3 [(0, .ref (ad 200)), (1, .ref (ad 100)), (2, .int x2)] → f_X8_hold_J118 x2 S15 (f_X8_hold_L37 n37) = some (o37, dc, ds) → W p l e R s m args below meth c H locs cells slots Q (F0 m 118 ls []) := by
          intro S15 ad H locs ls cells slots dc ds hN hAd hC hT hH hl hf
          unfold f_X8_hold_J118 at hf
          refine lv_iinc (v := x2 + 1) (lv' := [(2, .int (x2 + 1)), (0, .ref (ad 200)), (1, .ref (ad 100))]) hx hb dX8_hold_118 hl (k := 2) rfl rfl (by decide) rfl (fun ls hl => ?_)
          refine lv_goto (tgt := 37) hx hb dX8_hold_121 (by decide) ?_
          exact ih37 (x2 + 1) S15 _ _ _ _ _ _ _ _ _ hN hAd hC hH (lv_sub hl [1, 2, 0] rfl) hf (fun ad H locs ls cells slots h1 h2 e1 e2 h3 h4 => hX37 ad H locs ls cells slots h1 h2 (by omega) (by omega) h3 h4)
        by_cases c16 : (S12.1.1 204 x2.toNatClampNeg) = (2 : Int32)
        · have hf := nm_it c16 hf
          refine nm_tab (off := 25) (tgt := 76) hx hb c16 dX8_hold_51 (by decide) (by decide) (by decide) (by decide) ?_
          refine lv_aload_n hx hb dX8_hold_76 rfl (lv_at hl 0 rfl) ?_
          refine lv_iload_n hx hb dX8_hold_77 rfl (lv_at hl 2 rfl) ?_
          refine lv_aload_n hx hb dX8_hold_78 rfl (lv_at hl 1 rfl) ?_
          obtain ⟨M17, hc18, hf⟩ := nm_sd1 hf
          obtain ⟨S19, eS19, hf⟩ := nm_let hf
          refine nm_callv (nm_runV (X := X) (nl := nl) (k_X8_holdInside hL hN (hf := hc18)) hx hb hml hown hts hs0 hK hZ hH tw_714 tw_711 tw_713 (sw_X8_holdInside) tw_5 hd_X8_holdInside (cl_n200 hL) (cl_k200 hL) (by decide) rfl rfl rfl ⟨Nat.le_trans (Nat.le_of_ble_eq_true rfl) hRf, Nat.le_trans (Nat.le_of_ble_eq_true rfl) hRl⟩ rfl hl.1 rfl (Nat.le_of_ble_eq_true rfl) dX8_hold_79 ⟨Nat.le_trans (Nat.le_add_right _ _) hC.1, Nat.le_trans (Nat.le_add_right _ _) hC.2⟩) hH (fun H locs hH => ?_)
          have hH : nm_H D Y (fun q => s0 ≤ q) s.heap X nl ad (S19.1.1, S19.1.2, S19.2, K) H locs := by rw [eS19]; exact hH
          have hN : cl_N S19.2 := by rw [eS19]; exact hN
          refine lv_goto (tgt := 118) hx hb dX8_hold_82 (by decide) ?_
          exact hJ118 S19 _ _ _ _ _ _ _ _ hN hAd hC ⟨by omega, by omega⟩ hH (lv_sub hl [0, 1, 2] rfl) hf
        have hf := nm_ie c16 hf
        by_cases c20 : (S12.1.1 204 x2.toNatClampNeg) = (3 : Int32)
        · have hf := nm_it c20 hf
          refine nm_tab (off := 34) (tgt := 85) hx hb c20 dX8_hold_51 (by decide) (by decide) (by decide) (by decide) ?_
          refine lv_aload_n hx hb dX8_hold_85 rfl (lv_at hl 0 rfl) ?_
          refine lv_iload_n hx hb dX8_hold_86 rfl (lv_at hl 2 rfl) ?_
          refine lv_aload_n hx hb dX8_hold_87 rfl (lv_at hl 1 rfl) ?_
          refine lv_aload_n hx hb dX8_hold_88 rfl (lv_at hl 0 rfl) ?_
          refine gf_8_7 hK hx hb hts hown hH (cl_n200 hL) (cl_k200 hL) (hts _ tw_133) (fun _ h9 => h9) dX8_hold_89 ?_
          refine lv_iload_n hx hb dX8_hold_92 rfl (lv_at hl 2 rfl) ?_
          obtain ⟨hi21, hf⟩ := nm_chk hf
          refine nm_iald hx hb hK hH (cl_n205 hL) (cl_k205 hL) (cl_l205 hN) hi21 dX8_hold_93 ?_
          obtain ⟨S22, c24, s25, dc, ds, hc23, hf, edc, eds⟩ := nm_ad1 hf
          refine nm_callrA (nm_runV (X := X) (nl := nl) (k_X3_piecesOf hL (hN := hN) (hf := hc23)) hx hb hml hown hts hs0 hK hZ hH tw_689 tw_729 tw_687 (sw_X3_piecesOf) tw_2 hd_X3_piecesOf (cl_n100 hL) (cl_k100 hL) (by decide) rfl rfl rfl ⟨Nat.le_trans (Nat.le_of_ble_eq_true rfl) hRf, Nat.le_trans (Nat.le_of_ble_eq_true rfl) hRl⟩ rfl hl.1 rfl (Nat.le_of_ble_eq_true rfl) dX8_hold_94 ⟨by omega, by omega⟩) hH (fun ad hu H locs cells slots ec es hN hH => ?_)
          have hH : nm_H D Y (fun q => s0 ≤ q) s.heap X nl ad (S22.1.1, S22.1.2, S22.2, K) H locs := hH
          have hN : cl_N S22.2 := hN
          have hl : lv_has ls 3 [(0, .ref (ad 200)), (1, .ref (ad 100)), (2, .int x2)] := by rw [hu 200 (by decide), hu 100 (by decide)]; exact hl
          rw [← hu 200 (by decide)]
          have hAd : cl_a ad0 ad := cl_a.tr hAd hu
          have hC : cells + dc ≤ R.cells ∧ slots + ds ≤ R.slots := ⟨by omega, by omega⟩
          obtain ⟨M26, hc27, hf⟩ := nm_sd1 hf
          obtain ⟨S28, eS28, hf⟩ := nm_let hf
          refine nm_callv (nm_runV (X := X) (nl := nl) (k_X8_holdArea hL hN (hf := hc27)) hx hb hml hown hts hs0 hK hZ hH tw_733 tw_730 tw_732 (sw_X8_holdArea) tw_5 hd_X8_holdArea (cl_n200 hL) (cl_k200 hL) (by decide) rfl rfl rfl ⟨Nat.le_trans (Nat.le_of_ble_eq_true rfl) hRf, Nat.le_trans (Nat.le_of_ble_eq_true rfl) hRl⟩ rfl hl.1 rfl (Nat.le_of_ble_eq_true rfl) dX8_hold_97 ⟨Nat.le_trans (Nat.le_add_right _ _) hC.1, Nat.le_trans (Nat.le_add_right _ _) hC.2⟩) hH (fun H locs hH => ?_)
          have hH : nm_H D Y (fun q => s0 ≤ q) s.heap X nl ad (S28.1.1, S28.1.2, S28.2, K) H locs := by rw [eS28]; exact hH
          have hN : cl_N S28.2 := by rw [eS28]; exact hN
          refine lv_goto (tgt := 118) hx hb dX8_hold_100 (by decide) ?_
          exact hJ118 S28 _ _ _ _ _ _ _ _ hN hAd hC ⟨by omega, by omega⟩ hH (lv_sub hl [0, 1, 2] rfl) hf
        have hf := nm_ie c20 hf
        by_cases c29 : (S12.1.1 204 x2.toNatClampNeg) = (4 : Int32)
        · have hf := nm_it c29 hf
          refine nm_tab (off := 52) (tgt := 103) hx hb c29 dX8_hold_51 (by decide) (by decide) (by decide) (by decide) ?_
          refine lv_aload_n hx hb dX8_hold_103 rfl (lv_at hl 0 rfl) ?_
          refine lv_iload_n hx hb dX8_hold_104 rfl (lv_at hl 2 rfl) ?_
          refine lv_aload_n hx hb dX8_hold_105 rfl (lv_at hl 1 rfl) ?_
          obtain ⟨M30, hc31, hf⟩ := nm_sd1 hf
          obtain ⟨S32, eS32, hf⟩ := nm_let hf
          refine nm_callv (nm_runV (X := X) (nl := nl) (k_X8_holdShare hL hN (hf := hc31)) hx hb hml hown hts hs0 hK hZ hH tw_737 tw_734 tw_736 (sw_X8_holdShare) tw_5 hd_X8_holdShare (cl_n200 hL) (cl_k200 hL) (by decide) rfl rfl rfl ⟨Nat.le_trans (Nat.le_of_ble_eq_true rfl) hRf, Nat.le_trans (Nat.le_of_ble_eq_true rfl) hRl⟩ rfl hl.1 rfl (Nat.le_of_ble_eq_true rfl) dX8_hold_106 ⟨Nat.le_trans (Nat.le_add_right _ _) hC.1, Nat.le_trans (Nat.le_add_right _ _) hC.2⟩) hH (fun H locs hH => ?_)
          have hH : nm_H D Y (fun q => s0 ≤ q) s.heap X nl ad (S32.1.1, S32.1.2, S32.2, K) H locs := by rw [eS32]; exact hH
          have hN : cl_N S32.2 := by rw [eS32]; exact hN
          refine lv_goto (tgt := 118) hx hb dX8_hold_109 (by decide) ?_
          exact hJ118 S32 _ _ _ _ _ _ _ _ hN hAd hC ⟨by omega, by omega⟩ hH (lv_sub hl [0, 1, 2] rfl) hf
        have hf := nm_ie c29 hf
        refine lv_tableOut (tgt := 112) hx hb dX8_hold_51 (nm_sw (S12.1.1 204 x2.toNatClampNeg) (fun k h1 h2 hk => by
          rcases (show k = 2 ∨ k = 3 ∨ k = 4 by omega) with rfl | rfl | rfl <;> first | exact c16 hk | exact c20 hk | exact c29 hk)) (by decide) ?_
        refine lv_aload_n hx hb dX8_hold_112 rfl (lv_at hl 0 rfl) ?_
        refine lv_iload_n hx hb dX8_hold_113 rfl (lv_at hl 2 rfl) ?_
        refine lv_aload_n hx hb dX8_hold_114 rfl (lv_at hl 1 rfl) ?_
        obtain ⟨M33, hc34, hf⟩ := nm_sd1 hf
        obtain ⟨S35, eS35, hf⟩ := nm_let hf
        refine nm_callv (nm_runV (X := X) (nl := nl) (k_X8_holdLines hL hN (hf := hc34)) hx hb hml hown hts hs0 hK hZ hH tw_741 tw_738 tw_740 (sw_X8_holdLines) tw_5 hd_X8_holdLines (cl_n200 hL) (cl_k200 hL) (by decide) rfl rfl rfl ⟨Nat.le_trans (Nat.le_of_ble_eq_true rfl) hRf, Nat.le_trans (Nat.le_of_ble_eq_true rfl) hRl⟩ rfl hl.1 rfl (Nat.le_of_ble_eq_true rfl) dX8_hold_115 ⟨Nat.le_trans (Nat.le_add_right _ _) hC.1, Nat.le_trans (Nat.le_add_right _ _) hC.2⟩) hH (fun H locs hH => ?_)
        have hH : nm_H D Y (fun q => s0 ≤ q) s.heap X nl ad (S35.1.1, S35.1.2, S35.2, K) H locs := by rw [eS35]; exact hH
        have hN : cl_N S35.2 := by rw [eS35]; exact hN
        exact hJ118 S35 _ _ _ _ _ _ _ _ hN hAd hC ⟨by omega, by omega⟩ hH (lv_sub hl [0, 1, 2] rfl) hf
  obtain ⟨S36, c39, s40, dc, ds, hl38, hf, edc, eds⟩ := nm_ad1 hf
  refine hL37 nm_F (0 : Int32) S11 _ _ _ _ _ _ _ _ _ hN hAd ⟨by omega, by omega⟩ hH (lv_sub hl [1, 2, 0] rfl) hl38 (fun ad H locs ls cells slots hN hAd ec es hH hl => ?_)
  have hC : cells + dc ≤ R.cells ∧ slots + ds ≤ R.slots := ⟨by omega, by omega⟩
  have hl : lv_has ls 3 [(0, .ref (ad 200))] := hl
  have hH : nm_H D Y (fun q => s0 ≤ q) s.heap X nl ad (S36.1.1, S36.1.2, S36.2, K) H locs := hH
  have hN : cl_N S36.2 := hN
  refine lv_aload_n hx hb dX8_hold_124 rfl (lv_at hl 0 rfl) ?_
  refine lv_iconst (v := 1) hx hb dX8_hold_125 (by decide) ?_
  obtain ⟨S37, eS37, hf⟩ := nm_let hf
  refine pf_8_1 hK hx hb hts hown hH (cl_n200 hL) (cl_k200 hL) (hts _ tw_122) (fun _ h9 => h9) rfl rfl dX8_hold_126 (fun H locs hH => ?_)
  have hH : nm_H D Y (fun q => s0 ≤ q) s.heap X nl ad (S37.1.1, S37.1.2, S37.2, K) H locs := by rw [eS37]; exact hH
  have hN : cl_N S37.2 := by rw [eS37]; exact hN
  refine lv_aload_n hx hb dX8_hold_129 rfl (lv_at hl 0 rfl) ?_
  refine gf_8_2 hK hx hb hts hown hH (cl_n200 hL) (cl_k200 hL) (hts _ tw_124) (fun _ h9 => h9) dX8_hold_130 ?_
  exact nm_iretA hx hb hr hlocks hQ hRc hRs hC hN hAd hH hf dX8_hold_133
def f_X2_findNets_J54 (x2 : Int32) (S6 : ca) (k : Int32 → ca → Option (ca)) : Option (ca) :=
k (x2 + 1) S6
def f_X2_findNets_L13  : Nat → Int32 → ca → Option (ca)
  | 0, _, _ => none
  | n13 + 1, x2, S4 =>
    (if (16 : Int32) ≤ x2 then
    some S4
    else
    (if ((S4.1.1 300 0) &&& ((1 : Int32) <<< (x2 &&& 31))) = 0 then
    f_X2_findNets_J54 x2 S4 (f_X2_findNets_L13 n13)
    else
    nm_cp ((64 : Int32) * x2) ((64 : Int32) * x2) (64 : Int32) 1024 1024 (
    nm_l (((S4.1.1, va_up S4.1.2 311 (va_cpy (S4.1.2 101) (S4.1.2 311) ((64 : Int32) * x2).toNatClampNeg ((64 : Int32) * x2).toNatClampNeg (64 : Int32).toNatClampNeg)), S4.2)) fun S9 =>
    f_X2_findNets_J54 x2 S9 (f_X2_findNets_L13 n13))))
def f_X2_findNets_L77  : Nat → Int32 → ca → Option (ca)
  | 0, _, _ => none
  | n77 + 1, x2, S16 =>
    (if (S16.1.1 300 1) ≤ x2 then
    some S16
    else
    nm_c ((3 : Int32) * x2) 24 (
    nm_c (((3 : Int32) * x2) + (1 : Int32)) 24 (
    nm_c (((3 : Int32) * x2) + (2 : Int32)) 24 (
    nm_s1 (f_X2_join S16.2 ((64 : Int32) * (S16.1.1 301 ((3 : Int32) * x2).toNatClampNeg)) ((64 : Int32) * (S16.1.1 301 (((3 : Int32) * x2) + (1 : Int32)).toNatClampNeg)) ((64 : Int32) * (S16.1.1 301 (((3 : Int32) * x2) + (2 : Int32)).toNatClampNeg)) S16.1) fun M21 =>
    nm_l (M21, S16.2) fun S23 =>
    f_X2_findNets_L77 n77 (x2 + 1) S23))))
def f_X2_findNets (S : ca) : Option (ca × Nat × Nat) :=
nm_s1 (f_J7_fill_d0a16 311 S.2 (0 : Int64) S.1) fun M1 =>
nm_l (M1, S.2) fun S3 =>
nm_s1 (f_X2_findNets_L13 nm_F (0 : Int32) S3) fun S10 =>
nm_l (((nm_up S10.1.1 300 9 (S10.1.1 300 0), S10.1.2), S10.2)) fun S11 =>
nm_a1 (f_X4_gather 310 S11) fun S12 =>
nm_s1 (f_X2_findNets_L77 nm_F (0 : Int32) S12) fun S24 =>
nm_s1 (f_X4_number 310 S24.2 S24.1) fun M25 =>
nm_l (M25, S24.2) fun S27 =>
some (S27, 0, 0)
set_option maxHeartbeats 4000000 in
set_option maxRecDepth 100000 in
theorem k_X2_findNets {l : Launch} {D : va_G} {Y : nm_Y} {s0 : Nat} {X : va_W} {ad : Nat → Nat} {nl : List Nat} {K : Nat → Nat} (hL : cl_L nl K)  {S M0 : ca} {dc ds : Nat} (hN : cl_N S.2) (hf : f_X2_findNets S = some (M0, dc, ds)) :
    nm_Met l yX2_findNets cX2_findNets 3 none { frames := 4, cells := dc, slots := ds, locals := 103 } [.ref (ad 300), .ref (ad 100)] D Y s0 (nm_W Y X nl ad (S.1.1, S.1.2, S.2, K)) (nm_QvA D Y s0 X nl ad (M0.1.1, M0.1.2, M0.2, K)) dc ds := by
  refine nm_of (by decide) (Nat.le_of_ble_eq_true rfl) ?_
  intro p e R s m args below meth c Q ls hx hb hr hlocks hml hown hts hs0 hK hZ hRf hRl hRc hRs hQ hP hD hl
  have hH : nm_H D Y (fun q => s0 ≤ q) s.heap X nl ad (S.1.1, S.1.2, S.2, K) s.heap [] := ⟨hP, hD, va_S.rf⟩
  have hl : lv_has ls 3 [(0, .ref (ad 300)), (1, .ref (ad 100))] := hl
  obtain ⟨ad0, had0⟩ : ∃ y, y = ad := ⟨_, rfl⟩
  have hAd : cl_a ad0 ad := by rw [had0]; exact cl_a.rf
  rw [← had0] at hQ
  obtain ⟨cells, ecells⟩ : ∃ y, y = 0 := ⟨_, rfl⟩
  obtain ⟨slots, eslots⟩ : ∃ y, y = 0 := ⟨_, rfl⟩
  have hC : cells + dc ≤ R.cells ∧ slots + ds ≤ R.slots := ⟨by omega, by omega⟩
  refine W.widen (k := cells) (n := slots) (Nat.zero_le _) (Nat.zero_le _) ?_
  obtain ⟨mc, emc⟩ : ∃ y, y = dc := ⟨_, rfl⟩
  obtain ⟨ms, ems⟩ : ∃ y, y = ds := ⟨_, rfl⟩
  rw [← emc] at hRc hQ
  rw [← ems] at hRs hQ
  obtain ⟨tc, htc⟩ : ∃ y, y = cells + dc := ⟨_, rfl⟩
  obtain ⟨tsl, htsl⟩ : ∃ y, y = slots + ds := ⟨_, rfl⟩
  unfold f_X2_findNets at hf
  refine lv_aload_n hx hb dX2_findNets_0 rfl (lv_at hl 0 rfl) ?_
  refine gf_2_4 hK hx hb hts hown hH (cl_n300 hL) (cl_k300 hL) (hts _ tw_177) (fun _ h9 => h9) dX2_findNets_1 ?_
  refine gf_4_0 hK hx hb hts hown hH (cl_n310 hL) (cl_k310 hL) (hts _ tw_41) (fun _ h9 => h9) dX2_findNets_4 ?_
  refine lv_lconst (v := 0) hx hb dX2_findNets_7 (by decide) ?_
  obtain ⟨M1, hc2, hf⟩ := nm_sd1 hf
  obtain ⟨S3, eS3, hf⟩ := nm_let hf
  refine nm_callv (nm_runS (X := X) (nl := nl) (k_J7_fill_d0a16 hL hN (cl_n311 hL) (cl_k311 hL) (hf := hc2)) hx hb hml hown hts hs0 hK hZ hH tw_495 tw_793 tw_494 tw_4 hd_J7_fill_d0a16 rfl rfl ⟨Nat.le_trans (Nat.le_of_ble_eq_true rfl) hRf, Nat.le_trans (Nat.le_of_ble_eq_true rfl) hRl⟩ rfl hl.1 rfl (Nat.le_of_ble_eq_true rfl) dX2_findNets_8 ⟨Nat.le_trans (Nat.le_add_right _ _) hC.1, Nat.le_trans (Nat.le_add_right _ _) hC.2⟩) hH (fun H locs hH => ?_)
  have hH : nm_H D Y (fun q => s0 ≤ q) s.heap X nl ad (S3.1.1, S3.1.2, S3.2, K) H locs := by rw [eS3]; exact hH
  have hN : cl_N S3.2 := by rw [eS3]; exact hN
  refine lv_iconst (v := 0) hx hb dX2_findNets_11 (by decide) ?_
  refine lv_istore_n (lv' := [(2, .int (0 : Int32)), (0, .ref (ad 300)), (1, .ref (ad 100))]) hx hb dX2_findNets_12 rfl hl (by decide) rfl (fun ls hl => ?_)
  have hL13 : ∀ (n13 : Nat) (x2 : Int32) (S4 : ca) (H : Heap) (locs : List Loc) (ls : Array Slot) (o13 : ca), cl_N S4.2 → nm_H D Y (fun q => s0 ≤ q) s.heap X nl ad (S4.1.1, S4.1.2, S4.2, K) H locs → lv_has ls 3 [(0, .ref (ad 300)), (1, .ref (ad 100)), (2, .int x2)] → f_X2_findNets_L13 n13 x2 S4 = some o13 → (∀ (H : Heap) (locs : List Loc) (ls : Array Slot), cl_N o13.2 → nm_H D Y (fun q => s0 ≤ q) s.heap X nl ad (o13.1.1, o13.1.2, o13.2, K) H locs → lv_has ls 3 [(0, .ref (ad 300)), (1, .ref (ad 100))] → W p l e R s m args below meth c H locs cells slots Q (F0 m 60 ls [])) → W p l e R s m args below meth c H locs cells slots Q (F0 m 13 ls []) := by
    intro n13
    induction n13 with
    | zero =>
      intro x2 S4 H locs ls o13 hN hH hl hf hX13
      cases hf
    | succ n13 ih13 =>
      intro x2 S4 H locs ls o13 hN hH hl hf hX13
      rw [f_X2_findNets_L13] at hf
      refine lv_iload_n hx hb dX2_findNets_13 rfl (lv_at hl 2 rfl) ?_
      refine lv_bipush (v := 16) hx hb dX2_findNets_14 (by decide) ?_
      refine lv_icmp_ge (tgt := 60) hx hb dX2_findNets_16 (by decide) (fun c5 => ?_) (fun c5 => ?_)
      · have hf := nm_it c5 hf
        cases hf
        exact hX13 _ _ _ hN hH (lv_sub hl [0, 1] rfl)
      · have hf := nm_ie c5 hf
        refine lv_aload_n hx hb dX2_findNets_19 rfl (lv_at hl 0 rfl) ?_
        refine gf_2_0 hK hx hb hts hown hH (cl_n300 hL) (cl_k300 hL) (hts _ tw_168) (fun _ h9 => h9) dX2_findNets_20 ?_
        refine lv_iconst (v := 1) hx hb dX2_findNets_23 (by decide) ?_
        refine lv_iload_n hx hb dX2_findNets_24 rfl (lv_at hl 2 rfl) ?_
        refine lv_ishl hx hb dX2_findNets_25 ?_
        refine lv_iand hx hb dX2_findNets_26 ?_
        have hJ54 : ∀ (S6 : ca) (H : Heap) (locs : List Loc) (ls : Array Slot), cl_N S6.2 → nm_H D Y (fun q => s0 ≤ q) s.heap X nl ad (S6.1.1, S6.1.2, S6.2, K) H locs → lv_has ls 3 [(0, .ref (ad 300)), (1, .ref (ad 100)), (2, .int x2)] → f_X2_findNets_J54 x2 S6 (f_X2_findNets_L13 n13) = some o13 → W p l e R s m args below meth c H locs cells slots Q (F0 m 54 ls []) := by
          intro S6 H locs ls hN hH hl hf
          unfold f_X2_findNets_J54 at hf
          refine lv_iinc (v := x2 + 1) (lv' := [(2, .int (x2 + 1)), (0, .ref (ad 300)), (1, .ref (ad 100))]) hx hb dX2_findNets_54 hl (k := 2) rfl rfl (by decide) rfl (fun ls hl => ?_)
          refine lv_goto (tgt := 13) hx hb dX2_findNets_57 (by decide) ?_
          exact ih13 (x2 + 1) S6 _ _ _ _ hN hH (lv_sub hl [1, 2, 0] rfl) hf hX13
        refine lv_if_eq (tgt := 54) hx hb dX2_findNets_27 (by decide) (fun c7 => ?_) (fun c7 => ?_)
        · have hf := nm_it c7 hf
          exact hJ54 S4 _ _ _ hN hH (lv_sub hl [0, 1, 2] rfl) hf
        · have hf := nm_ie c7 hf
          refine lv_aload_n hx hb dX2_findNets_30 rfl (lv_at hl 1 rfl) ?_
          refine gf_3_1 hK hx hb hts hown hH (cl_n100 hL) (cl_k100 hL) (hts _ tw_86) (fun _ h9 => h9) dX2_findNets_31 ?_
          refine lv_bipush (v := 64) hx hb dX2_findNets_34 (by decide) ?_
          refine lv_iload_n hx hb dX2_findNets_36 rfl (lv_at hl 2 rfl) ?_
          refine lv_imul hx hb dX2_findNets_37 ?_
          refine lv_aload_n hx hb dX2_findNets_38 rfl (lv_at hl 0 rfl) ?_
          refine gf_2_4 hK hx hb hts hown hH (cl_n300 hL) (cl_k300 hL) (hts _ tw_177) (fun _ h9 => h9) dX2_findNets_39 ?_
          refine gf_4_0 hK hx hb hts hown hH (cl_n310 hL) (cl_k310 hL) (hts _ tw_41) (fun _ h9 => h9) dX2_findNets_42 ?_
          refine lv_bipush (v := 64) hx hb dX2_findNets_45 (by decide) ?_
          refine lv_iload_n hx hb dX2_findNets_47 rfl (lv_at hl 2 rfl) ?_
          refine lv_imul hx hb dX2_findNets_48 ?_
          refine lv_bipush (v := 64) hx hb dX2_findNets_49 (by decide) ?_
          obtain ⟨hi8, hf⟩ := nm_cpk hf
          obtain ⟨S9, eS9, hf⟩ := nm_let hf
          refine nm_copyJ hx hb (hml.trans hl.1.symm) hown hts tw_794 hK hH (cl_n101 hL) (cl_k101 hL) (cl_n311 hL) (cl_k311 hL) (cl_l101 hN) (cl_l311 hN) hi8 (Nat.le_trans (Nat.le_of_ble_eq_true rfl) hRf) (Nat.le_trans (by decide) hRl) dX2_findNets_51 (fun H locs hH => ?_)
          have hH : nm_H D Y (fun q => s0 ≤ q) s.heap X nl ad (S9.1.1, S9.1.2, S9.2, K) H locs := by rw [eS9]; exact hH
          have hN : cl_N S9.2 := by rw [eS9]; exact hN
          exact hJ54 S9 _ _ _ hN hH (lv_sub hl [0, 1, 2] rfl) hf
  obtain ⟨S10, hl29, hf⟩ := nm_sd1 hf
  refine hL13 nm_F (0 : Int32) S3 _ _ _ _ hN hH (lv_sub hl [1, 2, 0] rfl) hl29 (fun H locs ls hN hH hl => ?_)
  have hl : lv_has ls 3 [(0, .ref (ad 300)), (1, .ref (ad 100))] := hl
  have hH : nm_H D Y (fun q => s0 ≤ q) s.heap X nl ad (S10.1.1, S10.1.2, S10.2, K) H locs := hH
  have hN : cl_N S10.2 := hN
  refine lv_aload_n hx hb dX2_findNets_60 rfl (lv_at hl 0 rfl) ?_
  refine lv_aload_n hx hb dX2_findNets_61 rfl (lv_at hl 0 rfl) ?_
  refine gf_2_0 hK hx hb hts hown hH (cl_n300 hL) (cl_k300 hL) (hts _ tw_168) (fun _ h9 => h9) dX2_findNets_62 ?_
  obtain ⟨S11, eS11, hf⟩ := nm_let hf
  refine pf_2_9 hK hx hb hts hown hH (cl_n300 hL) (cl_k300 hL) (hts _ tw_183) (fun _ h9 => h9) dX2_findNets_65 (fun H locs hH => ?_)
  have hH : nm_H D Y (fun q => s0 ≤ q) s.heap X nl ad (S11.1.1, S11.1.2, S11.2, K) H locs := by rw [eS11]; exact hH
  have hN : cl_N S11.2 := by rw [eS11]; exact hN
  refine lv_aload_n hx hb dX2_findNets_68 rfl (lv_at hl 0 rfl) ?_
  refine gf_2_4 hK hx hb hts hown hH (cl_n300 hL) (cl_k300 hL) (hts _ tw_177) (fun _ h9 => h9) dX2_findNets_69 ?_
  obtain ⟨S12, c14, s15, dc, ds, hc13, hf, edc, eds⟩ := nm_ad1 hf
  refine nm_callvA (nm_runV (X := X) (nl := nl) (k_X4_gather hL cl_o310 (hN := hN) (hf := hc13)) hx hb hml hown hts hs0 hK hZ hH tw_605 tw_795 tw_603 (sw_X4_gather) tw_3 hd_X4_gather (cl_n310 hL) (cl_k310 hL) (by decide) rfl rfl rfl ⟨Nat.le_trans (Nat.le_of_ble_eq_true rfl) hRf, Nat.le_trans (Nat.le_of_ble_eq_true rfl) hRl⟩ rfl hl.1 rfl (Nat.le_of_ble_eq_true rfl) dX2_findNets_72 ⟨by omega, by omega⟩) hH (fun ad hu H locs cells slots ec es hN hH => ?_)
  have hH : nm_H D Y (fun q => s0 ≤ q) s.heap X nl ad (S12.1.1, S12.1.2, S12.2, K) H locs := hH
  have hN : cl_N S12.2 := hN
  have hl : lv_has ls 3 [(0, .ref (ad 300)), (1, .ref (ad 100))] := by rw [hu 300 (by decide), hu 100 (by decide)]; exact hl
  have hAd : cl_a ad0 ad := cl_a.tr hAd hu
  have hC : cells + dc ≤ R.cells ∧ slots + ds ≤ R.slots := ⟨by omega, by omega⟩
  refine lv_iconst (v := 0) hx hb dX2_findNets_75 (by decide) ?_
  refine lv_istore_n (lv' := [(2, .int (0 : Int32)), (0, .ref (ad 300)), (1, .ref (ad 100))]) hx hb dX2_findNets_76 rfl hl (by decide) rfl (fun ls hl => ?_)
  have hL77 : ∀ (n77 : Nat) (x2 : Int32) (S16 : ca) (H : Heap) (locs : List Loc) (ls : Array Slot) (o77 : ca), cl_N S16.2 → nm_H D Y (fun q => s0 ≤ q) s.heap X nl ad (S16.1.1, S16.1.2, S16.2, K) H locs → lv_has ls 3 [(0, .ref (ad 300)), (1, .ref (ad 100)), (2, .int x2)] → f_X2_findNets_L77 n77 x2 S16 = some o77 → (∀ (H : Heap) (locs : List Loc) (ls : Array Slot), cl_N o77.2 → nm_H D Y (fun q => s0 ≤ q) s.heap X nl ad (o77.1.1, o77.1.2, o77.2, K) H locs → lv_has ls 3 [(0, .ref (ad 300))] → W p l e R s m args below meth c H locs cells slots Q (F0 m 133 ls [])) → W p l e R s m args below meth c H locs cells slots Q (F0 m 77 ls []) := by
    intro n77
    induction n77 with
    | zero =>
      intro x2 S16 H locs ls o77 hN hH hl hf hX77
      cases hf
    | succ n77 ih77 =>
      intro x2 S16 H locs ls o77 hN hH hl hf hX77
      rw [f_X2_findNets_L77] at hf
      refine lv_iload_n hx hb dX2_findNets_77 rfl (lv_at hl 2 rfl) ?_
      refine lv_aload_n hx hb dX2_findNets_78 rfl (lv_at hl 0 rfl) ?_
      refine gf_2_1 hK hx hb hts hown hH (cl_n300 hL) (cl_k300 hL) (hts _ tw_170) (fun _ h9 => h9) dX2_findNets_79 ?_
      refine lv_icmp_ge (tgt := 133) hx hb dX2_findNets_82 (by decide) (fun c17 => ?_) (fun c17 => ?_)
      · have hf := nm_it c17 hf
        cases hf
        exact hX77 _ _ _ hN hH (lv_sub hl [0] rfl)
      · have hf := nm_ie c17 hf
        refine lv_aload_n hx hb dX2_findNets_85 rfl (lv_at hl 0 rfl) ?_
        refine lv_aload_n hx hb dX2_findNets_86 rfl (lv_at hl 1 rfl) ?_
        refine lv_bipush (v := 64) hx hb dX2_findNets_87 (by decide) ?_
        refine lv_aload_n hx hb dX2_findNets_89 rfl (lv_at hl 0 rfl) ?_
        refine gf_2_5 hK hx hb hts hown hH (cl_n300 hL) (cl_k300 hL) (hts _ tw_179) (fun _ h9 => h9) dX2_findNets_90 ?_
        refine lv_iconst (v := 3) hx hb dX2_findNets_93 (by decide) ?_
        refine lv_iload_n hx hb dX2_findNets_94 rfl (lv_at hl 2 rfl) ?_
        refine lv_imul hx hb dX2_findNets_95 ?_
        obtain ⟨hi18, hf⟩ := nm_chk hf
        refine nm_iald hx hb hK hH (cl_n301 hL) (cl_k301 hL) (cl_l301 hN) hi18 dX2_findNets_96 ?_
        refine lv_imul hx hb dX2_findNets_97 ?_
        refine lv_bipush (v := 64) hx hb dX2_findNets_98 (by decide) ?_
        refine lv_aload_n hx hb dX2_findNets_100 rfl (lv_at hl 0 rfl) ?_
        refine gf_2_5 hK hx hb hts hown hH (cl_n300 hL) (cl_k300 hL) (hts _ tw_179) (fun _ h9 => h9) dX2_findNets_101 ?_
        refine lv_iconst (v := 3) hx hb dX2_findNets_104 (by decide) ?_
        refine lv_iload_n hx hb dX2_findNets_105 rfl (lv_at hl 2 rfl) ?_
        refine lv_imul hx hb dX2_findNets_106 ?_
        refine lv_iconst (v := 1) hx hb dX2_findNets_107 (by decide) ?_
        refine lv_iadd hx hb dX2_findNets_108 ?_
        obtain ⟨hi19, hf⟩ := nm_chk hf
        refine nm_iald hx hb hK hH (cl_n301 hL) (cl_k301 hL) (cl_l301 hN) hi19 dX2_findNets_109 ?_
        refine lv_imul hx hb dX2_findNets_110 ?_
        refine lv_bipush (v := 64) hx hb dX2_findNets_111 (by decide) ?_
        refine lv_aload_n hx hb dX2_findNets_113 rfl (lv_at hl 0 rfl) ?_
        refine gf_2_5 hK hx hb hts hown hH (cl_n300 hL) (cl_k300 hL) (hts _ tw_179) (fun _ h9 => h9) dX2_findNets_114 ?_
        refine lv_iconst (v := 3) hx hb dX2_findNets_117 (by decide) ?_
        refine lv_iload_n hx hb dX2_findNets_118 rfl (lv_at hl 2 rfl) ?_
        refine lv_imul hx hb dX2_findNets_119 ?_
        refine lv_iconst (v := 2) hx hb dX2_findNets_120 (by decide) ?_
        refine lv_iadd hx hb dX2_findNets_121 ?_
        obtain ⟨hi20, hf⟩ := nm_chk hf
        refine nm_iald hx hb hK hH (cl_n301 hL) (cl_k301 hL) (cl_l301 hN) hi20 dX2_findNets_122 ?_
        refine lv_imul hx hb dX2_findNets_123 ?_
        obtain ⟨M21, hc22, hf⟩ := nm_sd1 hf
        obtain ⟨S23, eS23, hf⟩ := nm_let hf
        refine nm_callv (nm_runV (X := X) (nl := nl) (k_X2_join hL hN (hf := hc22)) hx hb hml hown hts hs0 hK hZ hH tw_799 tw_796 tw_798 (sw_X2_join) tw_6 hd_X2_join (cl_n300 hL) (cl_k300 hL) (by decide) rfl rfl rfl ⟨Nat.le_trans (Nat.le_of_ble_eq_true rfl) hRf, Nat.le_trans (Nat.le_of_ble_eq_true rfl) hRl⟩ rfl hl.1 rfl (Nat.le_of_ble_eq_true rfl) dX2_findNets_124 ⟨Nat.le_trans (Nat.le_add_right _ _) hC.1, Nat.le_trans (Nat.le_add_right _ _) hC.2⟩) hH (fun H locs hH => ?_)
        have hH : nm_H D Y (fun q => s0 ≤ q) s.heap X nl ad (S23.1.1, S23.1.2, S23.2, K) H locs := by rw [eS23]; exact hH
        have hN : cl_N S23.2 := by rw [eS23]; exact hN
        refine lv_iinc (v := x2 + 1) (lv' := [(2, .int (x2 + 1)), (0, .ref (ad 300)), (1, .ref (ad 100))]) hx hb dX2_findNets_127 hl (k := 2) rfl rfl (by decide) rfl (fun ls hl => ?_)
        refine lv_goto (tgt := 77) hx hb dX2_findNets_130 (by decide) ?_
        exact ih77 (x2 + 1) S23 _ _ _ _ hN hH (lv_sub hl [1, 2, 0] rfl) hf hX77
  obtain ⟨S24, hl28, hf⟩ := nm_sd1 hf
  refine hL77 nm_F (0 : Int32) S12 _ _ _ _ hN hH (lv_sub hl [1, 2, 0] rfl) hl28 (fun H locs ls hN hH hl => ?_)
  have hl : lv_has ls 3 [(0, .ref (ad 300))] := hl
  have hH : nm_H D Y (fun q => s0 ≤ q) s.heap X nl ad (S24.1.1, S24.1.2, S24.2, K) H locs := hH
  have hN : cl_N S24.2 := hN
  refine lv_aload_n hx hb dX2_findNets_133 rfl (lv_at hl 0 rfl) ?_
  refine gf_2_4 hK hx hb hts hown hH (cl_n300 hL) (cl_k300 hL) (hts _ tw_177) (fun _ h9 => h9) dX2_findNets_134 ?_
  obtain ⟨M25, hc26, hf⟩ := nm_sd1 hf
  obtain ⟨S27, eS27, hf⟩ := nm_let hf
  refine nm_callv (nm_runV (X := X) (nl := nl) (k_X4_number hL hN cl_o310 (hf := hc26)) hx hb hml hown hts hs0 hK hZ hH tw_641 tw_801 tw_639 (sw_X4_number) tw_3 hd_X4_number (cl_n310 hL) (cl_k310 hL) (by decide) rfl rfl rfl ⟨Nat.le_trans (Nat.le_of_ble_eq_true rfl) hRf, Nat.le_trans (Nat.le_of_ble_eq_true rfl) hRl⟩ rfl hl.1 rfl (Nat.le_of_ble_eq_true rfl) dX2_findNets_137 ⟨Nat.le_trans (Nat.le_add_right _ _) hC.1, Nat.le_trans (Nat.le_add_right _ _) hC.2⟩) hH (fun H locs hH => ?_)
  have hH : nm_H D Y (fun q => s0 ≤ q) s.heap X nl ad (S27.1.1, S27.1.2, S27.2, K) H locs := by rw [eS27]; exact hH
  have hN : cl_N S27.2 := by rw [eS27]; exact hN
  exact nm_vretA hx hb hr hlocks hQ hRc hRs hC hN hAd hH hf dX2_findNets_140
def f_X2_findDevices_L97  : Nat → Int32 → ca → Option (ca)
  | 0, _, _ => none
  | n97 + 1, x2, S20 =>
    (if (S20.1.1 300 3) ≤ x2 then
    some S20
    else
    nm_c x2 (S20.2 323) (
    nm_s1 (f_X2_netAt S20.2 (S20.1.1 300 6) (S20.1.1 323 x2.toNatClampNeg) S20.1) fun r23 =>
    nm_c x2 (S20.2 302) (
    nm_l (((nm_up S20.1.1 302 x2.toNatClampNeg r23, S20.1.2), S20.2)) fun S26 =>
    nm_c x2 (S26.2 303) (
    nm_l (((nm_up S26.1.1 303 x2.toNatClampNeg (-1 : Int32), S26.1.2), S26.2)) fun S28 =>
    nm_c x2 (S28.2 304) (
    nm_l (((nm_up S28.1.1 304 x2.toNatClampNeg (-1 : Int32), S28.1.2), S28.2)) fun S30 =>
    f_X2_findDevices_L97 n97 (x2 + 1) S30)))))
def f_X2_findDevices_L150  : Nat → Int32 → ca → Option (ca)
  | 0, _, _ => none
  | n150 + 1, x2, S32 =>
    (if (64 : Int32) ≤ x2 then
    some S32
    else
    nm_s1 (f_X2_findEnds S32.2 x2 S32.1) fun M34 =>
    nm_l (M34, S32.2) fun S36 =>
    f_X2_findDevices_L150 n150 (x2 + 1) S36)
def f_X2_findDevices (S : ca) : Option (ca × Nat × Nat) :=
nm_l (((nm_up S.1.1 300 3 (0 : Int32), S.1.2), S.2)) fun S1 =>
(if (S1.1.1 300 6) = (-1 : Int32) then
some (S1, 0, 0)
else
nm_a1 (f_X4_findCommon 320 ((64 : Int32) * (S1.1.1 300 6)) ((64 : Int32) * (S1.1.1 300 7)) S1) fun S3 =>
nm_l (((nm_up S3.1.1 300 3 (S3.1.1 320 1), S3.1.2), S3.2)) fun S7 =>
nm_a1 (cl_grow 302 (S7.1.1 300 3) S7) fun S8 =>
nm_a1 (cl_grow 303 (S8.1.1 300 3) S8) fun S12 =>
nm_a1 (cl_grow 304 (S12.1.1 300 3) S12) fun S16 =>
nm_s1 (f_X2_findDevices_L97 nm_F (0 : Int32) S16) fun S31 =>
nm_s1 (f_X2_findDevices_L150 nm_F (0 : Int32) S31) fun S37 =>
some (S37, 0, 0))
set_option maxHeartbeats 4000000 in
set_option maxRecDepth 100000 in
theorem k_X2_findDevices {l : Launch} {D : va_G} {Y : nm_Y} {s0 : Nat} {X : va_W} {ad : Nat → Nat} {nl : List Nat} {K : Nat → Nat} (hL : cl_L nl K)  {S M0 : ca} {dc ds : Nat} (hN : cl_N S.2) (hf : f_X2_findDevices S = some (M0, dc, ds)) :
    nm_Met l yX2_findDevices cX2_findDevices 3 none { frames := 5, cells := dc, slots := ds, locals := 127 } [.ref (ad 300), .ref (ad 100)] D Y s0 (nm_W Y X nl ad (S.1.1, S.1.2, S.2, K)) (nm_QvA D Y s0 X nl ad (M0.1.1, M0.1.2, M0.2, K)) dc ds := by
  refine nm_of (by decide) (Nat.le_of_ble_eq_true rfl) ?_
  intro p e R s m args below meth c Q ls hx hb hr hlocks hml hown hts hs0 hK hZ hRf hRl hRc hRs hQ hP hD hl
  have hH : nm_H D Y (fun q => s0 ≤ q) s.heap X nl ad (S.1.1, S.1.2, S.2, K) s.heap [] := ⟨hP, hD, va_S.rf⟩
  have hl : lv_has ls 3 [(0, .ref (ad 300)), (1, .ref (ad 100))] := hl
  obtain ⟨ad0, had0⟩ : ∃ y, y = ad := ⟨_, rfl⟩
  have hAd : cl_a ad0 ad := by rw [had0]; exact cl_a.rf
  rw [← had0] at hQ
  obtain ⟨cells, ecells⟩ : ∃ y, y = 0 := ⟨_, rfl⟩
  obtain ⟨slots, eslots⟩ : ∃ y, y = 0 := ⟨_, rfl⟩
  have hC : cells + dc ≤ R.cells ∧ slots + ds ≤ R.slots := ⟨by omega, by omega⟩
  refine W.widen (k := cells) (n := slots) (Nat.zero_le _) (Nat.zero_le _) ?_
  obtain ⟨mc, emc⟩ : ∃ y, y = dc := ⟨_, rfl⟩
  obtain ⟨ms, ems⟩ : ∃ y, y = ds := ⟨_, rfl⟩
  rw [← emc] at hRc hQ
  rw [← ems] at hRs hQ
  obtain ⟨tc, htc⟩ : ∃ y, y = cells + dc := ⟨_, rfl⟩
  obtain ⟨tsl, htsl⟩ : ∃ y, y = slots + ds := ⟨_, rfl⟩
  unfold f_X2_findDevices at hf
  refine lv_aload_n hx hb dX2_findDevices_0 rfl (lv_at hl 0 rfl) ?_
  refine lv_iconst (v := 0) hx hb dX2_findDevices_1 (by decide) ?_
  obtain ⟨S1, eS1, hf⟩ := nm_let hf
  refine pf_2_3 hK hx hb hts hown hH (cl_n300 hL) (cl_k300 hL) (hts _ tw_174) (fun _ h9 => h9) dX2_findDevices_2 (fun H locs hH => ?_)
  have hH : nm_H D Y (fun q => s0 ≤ q) s.heap X nl ad (S1.1.1, S1.1.2, S1.2, K) H locs := by rw [eS1]; exact hH
  have hN : cl_N S1.2 := by rw [eS1]; exact hN
  refine lv_aload_n hx hb dX2_findDevices_5 rfl (lv_at hl 0 rfl) ?_
  refine gf_2_6 hK hx hb hts hown hH (cl_n300 hL) (cl_k300 hL) (hts _ tw_180) (fun _ h9 => h9) dX2_findDevices_6 ?_
  refine lv_iconst (v := -1) hx hb dX2_findDevices_9 (by decide) ?_
  refine lv_icmp_ne (tgt := 14) hx hb dX2_findDevices_10 (by decide) (fun c2 => ?_) (fun c2 => ?_)
  · have hf := nm_ie c2 hf
    refine lv_aload_n hx hb dX2_findDevices_14 rfl (lv_at hl 0 rfl) ?_
    refine gf_2_10 hK hx hb hts hown hH (cl_n300 hL) (cl_k300 hL) (hts _ tw_184) (fun _ h9 => h9) dX2_findDevices_15 ?_
    refine lv_aload_n hx hb dX2_findDevices_18 rfl (lv_at hl 1 rfl) ?_
    refine gf_3_1 hK hx hb hts hown hH (cl_n100 hL) (cl_k100 hL) (hts _ tw_86) (fun _ h9 => h9) dX2_findDevices_19 ?_
    refine lv_bipush (v := 64) hx hb dX2_findDevices_22 (by decide) ?_
    refine lv_aload_n hx hb dX2_findDevices_24 rfl (lv_at hl 0 rfl) ?_
    refine gf_2_6 hK hx hb hts hown hH (cl_n300 hL) (cl_k300 hL) (hts _ tw_180) (fun _ h9 => h9) dX2_findDevices_25 ?_
    refine lv_imul hx hb dX2_findDevices_28 ?_
    refine lv_bipush (v := 64) hx hb dX2_findDevices_29 (by decide) ?_
    refine lv_aload_n hx hb dX2_findDevices_31 rfl (lv_at hl 0 rfl) ?_
    refine gf_2_7 hK hx hb hts hown hH (cl_n300 hL) (cl_k300 hL) (hts _ tw_181) (fun _ h9 => h9) dX2_findDevices_32 ?_
    refine lv_imul hx hb dX2_findDevices_35 ?_
    obtain ⟨S3, c5, s6, dc, ds, hc4, hf, edc, eds⟩ := nm_ad1 hf
    refine nm_callvA (nm_runV (X := X) (nl := nl) (k_X4_findCommon hL cl_o320 (hN := hN) (hf := hc4)) hx hb hml hown hts hs0 hK hZ hH tw_809 tw_806 tw_807 (sw_X4_findCommon) tw_3 hd_X4_findCommon (cl_n320 hL) (cl_k320 hL) (by decide) rfl rfl rfl ⟨Nat.le_trans (Nat.le_of_ble_eq_true rfl) hRf, Nat.le_trans (Nat.le_of_ble_eq_true rfl) hRl⟩ rfl hl.1 rfl (Nat.le_of_ble_eq_true rfl) dX2_findDevices_36 ⟨by omega, by omega⟩) hH (fun ad hu H locs cells slots ec es hN hH => ?_)
    have hH : nm_H D Y (fun q => s0 ≤ q) s.heap X nl ad (S3.1.1, S3.1.2, S3.2, K) H locs := hH
    have hN : cl_N S3.2 := hN
    have hl : lv_has ls 3 [(0, .ref (ad 300)), (1, .ref (ad 100))] := by rw [hu 300 (by decide), hu 100 (by decide)]; exact hl
    have hAd : cl_a ad0 ad := cl_a.tr hAd hu
    have hC : cells + dc ≤ R.cells ∧ slots + ds ≤ R.slots := ⟨by omega, by omega⟩
    refine lv_aload_n hx hb dX2_findDevices_39 rfl (lv_at hl 0 rfl) ?_
    refine lv_aload_n hx hb dX2_findDevices_40 rfl (lv_at hl 0 rfl) ?_
    refine gf_2_10 hK hx hb hts hown hH (cl_n300 hL) (cl_k300 hL) (hts _ tw_184) (fun _ h9 => h9) dX2_findDevices_41 ?_
    refine gf_4_1 hK hx hb hts hown hH (cl_n320 hL) (cl_k320 hL) (hts _ tw_43) (fun _ h9 => h9) dX2_findDevices_44 ?_
    obtain ⟨S7, eS7, hf⟩ := nm_let hf
    refine pf_2_3 hK hx hb hts hown hH (cl_n300 hL) (cl_k300 hL) (hts _ tw_174) (fun _ h9 => h9) dX2_findDevices_47 (fun H locs hH => ?_)
    have hH : nm_H D Y (fun q => s0 ≤ q) s.heap X nl ad (S7.1.1, S7.1.2, S7.2, K) H locs := by rw [eS7]; exact hH
    have hN : cl_N S7.2 := by rw [eS7]; exact hN
    refine lv_aload_n hx hb dX2_findDevices_50 rfl (lv_at hl 0 rfl) ?_
    refine lv_aload_n hx hb dX2_findDevices_51 rfl (lv_at hl 0 rfl) ?_
    refine gf_2_11 hK hx hb hts hown hH (cl_n300 hL) (cl_k300 hL) (hts _ tw_185) (fun _ h9 => h9) dX2_findDevices_52 ?_
    refine lv_aload_n hx hb dX2_findDevices_55 rfl (lv_at hl 0 rfl) ?_
    refine gf_2_3 hK hx hb hts hown hH (cl_n300 hL) (cl_k300 hL) (hts _ tw_174) (fun _ h9 => h9) dX2_findDevices_56 ?_
    obtain ⟨S8, c10, s11, dc, ds, hc9, hf, edc, eds⟩ := nm_ad1 hf
    refine gw_2_11 (o := 0) hx hb hml hL  hown hts hs0 hK hZ hH hN tw_810 (hts _ tw_185) (fun _ h9 => h9) hc9 (Nat.le_trans (Nat.le_of_ble_eq_true rfl) hRf) (Nat.le_trans (Nat.le_of_ble_eq_true rfl) hRl) hl.1 (Nat.le_of_ble_eq_true rfl) dX2_findDevices_59 dX2_findDevices_62 ⟨by omega, by omega⟩ (fun ad hu H locs cells slots ec es hN hH => ?_)
    have hH : nm_H D Y (fun q => s0 ≤ q) s.heap X nl ad (S8.1.1, S8.1.2, S8.2, K) H locs := hH
    have hN : cl_N S8.2 := hN
    have hl : lv_has ls 3 [(0, .ref (ad 300)), (1, .ref (ad 100))] := by rw [hu 300 (by decide), hu 100 (by decide)]; exact hl
    have hAd : cl_a ad0 ad := cl_a.tr hAd hu
    have hC : cells + dc ≤ R.cells ∧ slots + ds ≤ R.slots := ⟨by omega, by omega⟩
    refine lv_aload_n hx hb dX2_findDevices_65 rfl (lv_at hl 0 rfl) ?_
    refine lv_aload_n hx hb dX2_findDevices_66 rfl (lv_at hl 0 rfl) ?_
    refine gf_2_12 hK hx hb hts hown hH (cl_n300 hL) (cl_k300 hL) (hts _ tw_186) (fun _ h9 => h9) dX2_findDevices_67 ?_
    refine lv_aload_n hx hb dX2_findDevices_70 rfl (lv_at hl 0 rfl) ?_
    refine gf_2_3 hK hx hb hts hown hH (cl_n300 hL) (cl_k300 hL) (hts _ tw_174) (fun _ h9 => h9) dX2_findDevices_71 ?_
    obtain ⟨S12, c14, s15, dc, ds, hc13, hf, edc, eds⟩ := nm_ad1 hf
    refine gw_2_12 (o := 0) hx hb hml hL  hown hts hs0 hK hZ hH hN tw_810 (hts _ tw_186) (fun _ h9 => h9) hc13 (Nat.le_trans (Nat.le_of_ble_eq_true rfl) hRf) (Nat.le_trans (Nat.le_of_ble_eq_true rfl) hRl) hl.1 (Nat.le_of_ble_eq_true rfl) dX2_findDevices_74 dX2_findDevices_77 ⟨by omega, by omega⟩ (fun ad hu H locs cells slots ec es hN hH => ?_)
    have hH : nm_H D Y (fun q => s0 ≤ q) s.heap X nl ad (S12.1.1, S12.1.2, S12.2, K) H locs := hH
    have hN : cl_N S12.2 := hN
    have hl : lv_has ls 3 [(0, .ref (ad 300)), (1, .ref (ad 100))] := by rw [hu 300 (by decide), hu 100 (by decide)]; exact hl
    have hAd : cl_a ad0 ad := cl_a.tr hAd hu
    have hC : cells + dc ≤ R.cells ∧ slots + ds ≤ R.slots := ⟨by omega, by omega⟩
    refine lv_aload_n hx hb dX2_findDevices_80 rfl (lv_at hl 0 rfl) ?_
    refine lv_aload_n hx hb dX2_findDevices_81 rfl (lv_at hl 0 rfl) ?_
    refine gf_2_13 hK hx hb hts hown hH (cl_n300 hL) (cl_k300 hL) (hts _ tw_187) (fun _ h9 => h9) dX2_findDevices_82 ?_
    refine lv_aload_n hx hb dX2_findDevices_85 rfl (lv_at hl 0 rfl) ?_
    refine gf_2_3 hK hx hb hts hown hH (cl_n300 hL) (cl_k300 hL) (hts _ tw_174) (fun _ h9 => h9) dX2_findDevices_86 ?_
    obtain ⟨S16, c18, s19, dc, ds, hc17, hf, edc, eds⟩ := nm_ad1 hf
    refine gw_2_13 (o := 0) hx hb hml hL  hown hts hs0 hK hZ hH hN tw_810 (hts _ tw_187) (fun _ h9 => h9) hc17 (Nat.le_trans (Nat.le_of_ble_eq_true rfl) hRf) (Nat.le_trans (Nat.le_of_ble_eq_true rfl) hRl) hl.1 (Nat.le_of_ble_eq_true rfl) dX2_findDevices_89 dX2_findDevices_92 ⟨by omega, by omega⟩ (fun ad hu H locs cells slots ec es hN hH => ?_)
    have hH : nm_H D Y (fun q => s0 ≤ q) s.heap X nl ad (S16.1.1, S16.1.2, S16.2, K) H locs := hH
    have hN : cl_N S16.2 := hN
    have hl : lv_has ls 3 [(0, .ref (ad 300)), (1, .ref (ad 100))] := by rw [hu 300 (by decide), hu 100 (by decide)]; exact hl
    have hAd : cl_a ad0 ad := cl_a.tr hAd hu
    have hC : cells + dc ≤ R.cells ∧ slots + ds ≤ R.slots := ⟨by omega, by omega⟩
    refine lv_iconst (v := 0) hx hb dX2_findDevices_95 (by decide) ?_
    refine lv_istore_n (lv' := [(2, .int (0 : Int32)), (0, .ref (ad 300)), (1, .ref (ad 100))]) hx hb dX2_findDevices_96 rfl hl (by decide) rfl (fun ls hl => ?_)
    have hL97 : ∀ (n97 : Nat) (x2 : Int32) (S20 : ca) (H : Heap) (locs : List Loc) (ls : Array Slot) (o97 : ca), cl_N S20.2 → nm_H D Y (fun q => s0 ≤ q) s.heap X nl ad (S20.1.1, S20.1.2, S20.2, K) H locs → lv_has ls 3 [(0, .ref (ad 300)), (2, .int x2)] → f_X2_findDevices_L97 n97 x2 S20 = some o97 → (∀ (H : Heap) (locs : List Loc) (ls : Array Slot), cl_N o97.2 → nm_H D Y (fun q => s0 ≤ q) s.heap X nl ad (o97.1.1, o97.1.2, o97.2, K) H locs → lv_has ls 3 [(0, .ref (ad 300))] → W p l e R s m args below meth c H locs cells slots Q (F0 m 148 ls [])) → W p l e R s m args below meth c H locs cells slots Q (F0 m 97 ls []) := by
      intro n97
      induction n97 with
      | zero =>
        intro x2 S20 H locs ls o97 hN hH hl hf hX97
        cases hf
      | succ n97 ih97 =>
        intro x2 S20 H locs ls o97 hN hH hl hf hX97
        rw [f_X2_findDevices_L97] at hf
        refine lv_iload_n hx hb dX2_findDevices_97 rfl (lv_at hl 1 rfl) ?_
        refine lv_aload_n hx hb dX2_findDevices_98 rfl (lv_at hl 0 rfl) ?_
        refine gf_2_3 hK hx hb hts hown hH (cl_n300 hL) (cl_k300 hL) (hts _ tw_174) (fun _ h9 => h9) dX2_findDevices_99 ?_
        refine lv_icmp_ge (tgt := 148) hx hb dX2_findDevices_102 (by decide) (fun c21 => ?_) (fun c21 => ?_)
        · have hf := nm_it c21 hf
          cases hf
          exact hX97 _ _ _ hN hH (lv_sub hl [0] rfl)
        · have hf := nm_ie c21 hf
          refine lv_aload_n hx hb dX2_findDevices_105 rfl (lv_at hl 0 rfl) ?_
          refine gf_2_11 hK hx hb hts hown hH (cl_n300 hL) (cl_k300 hL) (hts _ tw_185) (fun _ h9 => h9) dX2_findDevices_106 ?_
          refine lv_iload_n hx hb dX2_findDevices_109 rfl (lv_at hl 1 rfl) ?_
          refine lv_aload_n hx hb dX2_findDevices_110 rfl (lv_at hl 0 rfl) ?_
          refine lv_aload_n hx hb dX2_findDevices_111 rfl (lv_at hl 0 rfl) ?_
          refine gf_2_6 hK hx hb hts hown hH (cl_n300 hL) (cl_k300 hL) (hts _ tw_180) (fun _ h9 => h9) dX2_findDevices_112 ?_
          refine lv_aload_n hx hb dX2_findDevices_115 rfl (lv_at hl 0 rfl) ?_
          refine gf_2_10 hK hx hb hts hown hH (cl_n300 hL) (cl_k300 hL) (hts _ tw_184) (fun _ h9 => h9) dX2_findDevices_116 ?_
          refine gf_4_3 hK hx hb hts hown hH (cl_n320 hL) (cl_k320 hL) (hts _ tw_51) (fun _ h9 => h9) dX2_findDevices_119 ?_
          refine lv_iload_n hx hb dX2_findDevices_122 rfl (lv_at hl 1 rfl) ?_
          obtain ⟨hi22, hf⟩ := nm_chk hf
          refine nm_iald hx hb hK hH (cl_n323 hL) (cl_k323 hL) rfl hi22 dX2_findDevices_123 ?_
          obtain ⟨r23, hc24, hf⟩ := nm_sd1 hf
          refine nm_calli (nm_runV (X := X) (nl := nl) (k_X2_netAt hL hN (hf := hc24)) hx hb hml hown hts hs0 hK hZ hH tw_814 tw_811 tw_812 (sw_X2_netAt) tw_6 hd_X2_netAt (cl_n300 hL) (cl_k300 hL) (by decide) rfl rfl rfl ⟨Nat.le_trans (Nat.le_of_ble_eq_true rfl) hRf, Nat.le_trans (Nat.le_of_ble_eq_true rfl) hRl⟩ rfl hl.1 rfl (Nat.le_of_ble_eq_true rfl) dX2_findDevices_124 ⟨Nat.le_trans (Nat.le_add_right _ _) hC.1, Nat.le_trans (Nat.le_add_right _ _) hC.2⟩) hH (fun H locs hH => ?_)
          have hH : nm_H D Y (fun q => s0 ≤ q) s.heap X nl ad (S20.1.1, S20.1.2, S20.2, K) H locs := hH
          obtain ⟨hi25, hf⟩ := nm_chk hf
          obtain ⟨S26, eS26, hf⟩ := nm_let hf
          refine nm_iast hx hb hK hH (cl_n302 hL) (cl_k302 hL) rfl hi25 dX2_findDevices_127 (fun H locs hH => ?_)
          have hH : nm_H D Y (fun q => s0 ≤ q) s.heap X nl ad (S26.1.1, S26.1.2, S26.2, K) H locs := by rw [eS26]; exact hH
          have hN : cl_N S26.2 := by rw [eS26]; exact hN
          refine lv_aload_n hx hb dX2_findDevices_128 rfl (lv_at hl 0 rfl) ?_
          refine gf_2_12 hK hx hb hts hown hH (cl_n300 hL) (cl_k300 hL) (hts _ tw_186) (fun _ h9 => h9) dX2_findDevices_129 ?_
          refine lv_iload_n hx hb dX2_findDevices_132 rfl (lv_at hl 1 rfl) ?_
          refine lv_iconst (v := -1) hx hb dX2_findDevices_133 (by decide) ?_
          obtain ⟨hi27, hf⟩ := nm_chk hf
          obtain ⟨S28, eS28, hf⟩ := nm_let hf
          refine nm_iast hx hb hK hH (cl_n303 hL) (cl_k303 hL) rfl hi27 dX2_findDevices_134 (fun H locs hH => ?_)
          have hH : nm_H D Y (fun q => s0 ≤ q) s.heap X nl ad (S28.1.1, S28.1.2, S28.2, K) H locs := by rw [eS28]; exact hH
          have hN : cl_N S28.2 := by rw [eS28]; exact hN
          refine lv_aload_n hx hb dX2_findDevices_135 rfl (lv_at hl 0 rfl) ?_
          refine gf_2_13 hK hx hb hts hown hH (cl_n300 hL) (cl_k300 hL) (hts _ tw_187) (fun _ h9 => h9) dX2_findDevices_136 ?_
          refine lv_iload_n hx hb dX2_findDevices_139 rfl (lv_at hl 1 rfl) ?_
          refine lv_iconst (v := -1) hx hb dX2_findDevices_140 (by decide) ?_
          obtain ⟨hi29, hf⟩ := nm_chk hf
          obtain ⟨S30, eS30, hf⟩ := nm_let hf
          refine nm_iast hx hb hK hH (cl_n304 hL) (cl_k304 hL) rfl hi29 dX2_findDevices_141 (fun H locs hH => ?_)
          have hH : nm_H D Y (fun q => s0 ≤ q) s.heap X nl ad (S30.1.1, S30.1.2, S30.2, K) H locs := by rw [eS30]; exact hH
          have hN : cl_N S30.2 := by rw [eS30]; exact hN
          refine lv_iinc (v := x2 + 1) (lv' := [(2, .int (x2 + 1)), (0, .ref (ad 300))]) hx hb dX2_findDevices_142 hl (k := 1) rfl rfl (by decide) rfl (fun ls hl => ?_)
          refine lv_goto (tgt := 97) hx hb dX2_findDevices_145 (by decide) ?_
          exact ih97 (x2 + 1) S30 _ _ _ _ hN hH (lv_sub hl [1, 0] rfl) hf hX97
    obtain ⟨S31, hl39, hf⟩ := nm_sd1 hf
    refine hL97 nm_F (0 : Int32) S16 _ _ _ _ hN hH (lv_sub hl [1, 0] rfl) hl39 (fun H locs ls hN hH hl => ?_)
    have hl : lv_has ls 3 [(0, .ref (ad 300))] := hl
    have hH : nm_H D Y (fun q => s0 ≤ q) s.heap X nl ad (S31.1.1, S31.1.2, S31.2, K) H locs := hH
    have hN : cl_N S31.2 := hN
    refine lv_iconst (v := 0) hx hb dX2_findDevices_148 (by decide) ?_
    refine lv_istore_n (lv' := [(2, .int (0 : Int32)), (0, .ref (ad 300))]) hx hb dX2_findDevices_149 rfl hl (by decide) rfl (fun ls hl => ?_)
    have hL150 : ∀ (n150 : Nat) (x2 : Int32) (S32 : ca) (H : Heap) (locs : List Loc) (ls : Array Slot) (o150 : ca), cl_N S32.2 → nm_H D Y (fun q => s0 ≤ q) s.heap X nl ad (S32.1.1, S32.1.2, S32.2, K) H locs → lv_has ls 3 [(0, .ref (ad 300)), (2, .int x2)] → f_X2_findDevices_L150 n150 x2 S32 = some o150 → (∀ (H : Heap) (locs : List Loc) (ls : Array Slot), cl_N o150.2 → nm_H D Y (fun q => s0 ≤ q) s.heap X nl ad (o150.1.1, o150.1.2, o150.2, K) H locs → lv_has ls 3 [] → W p l e R s m args below meth c H locs cells slots Q (F0 m 167 ls [])) → W p l e R s m args below meth c H locs cells slots Q (F0 m 150 ls []) := by
      intro n150
      induction n150 with
      | zero =>
        intro x2 S32 H locs ls o150 hN hH hl hf hX150
        cases hf
      | succ n150 ih150 =>
        intro x2 S32 H locs ls o150 hN hH hl hf hX150
        rw [f_X2_findDevices_L150] at hf
        refine lv_iload_n hx hb dX2_findDevices_150 rfl (lv_at hl 1 rfl) ?_
        refine lv_bipush (v := 64) hx hb dX2_findDevices_151 (by decide) ?_
        refine lv_icmp_ge (tgt := 167) hx hb dX2_findDevices_153 (by decide) (fun c33 => ?_) (fun c33 => ?_)
        · have hf := nm_it c33 hf
          cases hf
          exact hX150 _ _ _ hN hH (lv_sub hl [] rfl)
        · have hf := nm_ie c33 hf
          refine lv_aload_n hx hb dX2_findDevices_156 rfl (lv_at hl 0 rfl) ?_
          refine lv_iload_n hx hb dX2_findDevices_157 rfl (lv_at hl 1 rfl) ?_
          obtain ⟨M34, hc35, hf⟩ := nm_sd1 hf
          obtain ⟨S36, eS36, hf⟩ := nm_let hf
          refine nm_callv (nm_runV (X := X) (nl := nl) (k_X2_findEnds hL hN (hf := hc35)) hx hb hml hown hts hs0 hK hZ hH tw_822 tw_819 tw_821 (sw_X2_findEnds) tw_6 hd_X2_findEnds (cl_n300 hL) (cl_k300 hL) (by decide) rfl rfl rfl ⟨Nat.le_trans (Nat.le_of_ble_eq_true rfl) hRf, Nat.le_trans (Nat.le_of_ble_eq_true rfl) hRl⟩ rfl hl.1 rfl (Nat.le_of_ble_eq_true rfl) dX2_findDevices_158 ⟨Nat.le_trans (Nat.le_add_right _ _) hC.1, Nat.le_trans (Nat.le_add_right _ _) hC.2⟩) hH (fun H locs hH => ?_)
          have hH : nm_H D Y (fun q => s0 ≤ q) s.heap X nl ad (S36.1.1, S36.1.2, S36.2, K) H locs := by rw [eS36]; exact hH
          have hN : cl_N S36.2 := by rw [eS36]; exact hN
          refine lv_iinc (v := x2 + 1) (lv' := [(2, .int (x2 + 1)), (0, .ref (ad 300))]) hx hb dX2_findDevices_161 hl (k := 1) rfl rfl (by decide) rfl (fun ls hl => ?_)
          refine lv_goto (tgt := 150) hx hb dX2_findDevices_164 (by decide) ?_
          exact ih150 (x2 + 1) S36 _ _ _ _ hN hH (lv_sub hl [1, 0] rfl) hf hX150
    obtain ⟨S37, hl38, hf⟩ := nm_sd1 hf
    refine hL150 nm_F (0 : Int32) S31 _ _ _ _ hN hH (lv_sub hl [1, 0] rfl) hl38 (fun H locs ls hN hH hl => ?_)
    have hl : lv_has ls 3 [] := hl
    have hH : nm_H D Y (fun q => s0 ≤ q) s.heap X nl ad (S37.1.1, S37.1.2, S37.2, K) H locs := hH
    have hN : cl_N S37.2 := hN
    exact nm_vretA hx hb hr hlocks hQ hRc hRs hC hN hAd hH hf dX2_findDevices_167
  · have hf := nm_it c2 hf
    exact nm_vretA hx hb hr hlocks hQ hRc hRs hC hN hAd hH hf dX2_findDevices_13
def f_X1_settle_J99 (w : Nat) (K : Nat → Nat) (x3 : Int32) (S17 : ca) (k : Int32 → ca → Option (ca)) : Option (ca) :=
k (x3 + 1) S17
def f_X1_settle_L59 (w : Nat) (K : Nat → Nat) : Nat → Int32 → ca → Option (ca)
  | 0, _, _ => none
  | n59 + 1, x3, S13 =>
    (if (S13.1.1 w 1) ≤ x3 then
    some S13
    else
    nm_c x3 16 (
    nm_l (w + 10 + x3.toNatClampNeg) fun pz16 =>
    nm_nz (K pz16) (
    (if (nm_is (K pz16) 5) = 0 then
    f_X1_settle_J99 w K x3 S13 (f_X1_settle_L59 w K n59)
    else
    nm_s1 (f_X1_addText w S13.2 (S13.1.1 pz16 3) S13.1) fun M19 =>
    nm_l (M19, S13.2) fun S21 =>
    f_X1_settle_J99 w K x3 S21 (f_X1_settle_L59 w K n59)))))
def f_X1_settle_J152 (w : Nat) (K : Nat → Nat) (x3 : Int32) (S27 : ca) (k : Int32 → ca → Option (ca)) : Option (ca) :=
k (x3 + 1) S27
def f_X1_settle_L107 (w : Nat) (K : Nat → Nat) : Nat → Int32 → ca → Option (ca)
  | 0, _, _ => none
  | n107 + 1, x3, S23 =>
    (if (S23.1.1 w 1) ≤ x3 then
    some S23
    else
    nm_c x3 16 (
    nm_l (w + 10 + x3.toNatClampNeg) fun pz26 =>
    nm_nz (K pz26) (
    (if (nm_is (K pz26) 7) = 0 then
    f_X1_settle_J152 w K x3 S23 (f_X1_settle_L107 w K n107)
    else
    nm_c (S23.1.1 pz26 1) 8 (
    nm_l (1000 + 100 * (S23.1.1 pz26 1).toNatClampNeg) fun w30 =>
    nm_s1 (f_X1_bring w w30 pz26 S23.2 S23.1) fun M31 =>
    nm_l (M31, S23.2) fun S33 =>
    f_X1_settle_J152 w K x3 S33 (f_X1_settle_L107 w K n107))))))
def f_X1_settle_J34 (w : Nat) (K : Nat → Nat) (S2 : ca) : Option (ca × Nat × Nat) :=
nm_s1 (f_J7_fill_d0a16 (w + 2) S2.2 (0 : Int64) S2.1) fun M3 =>
nm_l (M3, S2.2) fun S5 =>
nm_l (((nm_up S5.1.1 w 5 (0 : Int32), S5.1.2), S5.2)) fun S6 =>
nm_s1 (f_X1_markPatches w S6.2 K (0 : Int32) S6.1) fun M7 =>
nm_l (M7, S6.2) fun S9 =>
nm_s1 (f_X1_markPatches w S9.2 K (1 : Int32) S9.1) fun M10 =>
nm_l (M10, S9.2) fun S12 =>
nm_s1 (f_X1_settle_L59 w K nm_F (0 : Int32) S12) fun S22 =>
nm_s1 (f_X1_settle_L107 w K nm_F (0 : Int32) S22) fun S34 =>
nm_l (((nm_up S34.1.1 w 2 (1 : Int32), S34.1.2), S34.2)) fun S35 =>
some (S35, 0, 0)
def f_X1_settle (w : Nat) (K : Nat → Nat) (S : ca) : Option (ca × Nat × Nat) :=
(if (S.1.1 w 2) = 0 then
(if (nI (S.2 (w + 2))) = 0 then
nm_a1 (cl_newJ (w + 2) 512 S) fun S39 =>
nm_a1 (cl_newI (w + 3) 200 S39) fun S43 =>
f_X1_settle_J34 w K S43
else
f_X1_settle_J34 w K S)
else
some (S, 0, 0))
set_option maxHeartbeats 4000000 in
set_option maxRecDepth 100000 in
theorem k_X1_settle {l : Launch} {D : va_G} {Y : nm_Y} {s0 : Nat} {X : va_W} {ad : Nat → Nat} {nl : List Nat} {K : Nat → Nat} (hL : cl_L nl K) {w : Nat} (hw : cl_w w)  {S M0 : ca} {dc ds : Nat} (hN : cl_N S.2) (hf : f_X1_settle w K S = some (M0, dc, ds)) :
    nm_Met l yX1_settle cX1_settle 6 none { frames := 4, cells := dc, slots := ds, locals := 99 } [.ref (ad w), .ref (ad 1), .ref (ad 3)] D Y s0 (nm_W Y X nl ad (S.1.1, S.1.2, S.2, K)) (nm_QvA D Y s0 X nl ad (M0.1.1, M0.1.2, M0.2, K)) dc ds := by
  refine nm_of (by decide) (Nat.le_of_ble_eq_true rfl) ?_
  intro p e R s m args below meth c Q ls hx hb hr hlocks hml hown hts hs0 hK hZ hRf hRl hRc hRs hQ hP hD hl
  have hH : nm_H D Y (fun q => s0 ≤ q) s.heap X nl ad (S.1.1, S.1.2, S.2, K) s.heap [] := ⟨hP, hD, va_S.rf⟩
  have hl : lv_has ls 6 [(0, .ref (ad w)), (1, .ref (ad 1)), (2, .ref (ad 3))] := hl
  obtain ⟨ad0, had0⟩ : ∃ y, y = ad := ⟨_, rfl⟩
  have hAd : cl_a ad0 ad := by rw [had0]; exact cl_a.rf
  rw [← had0] at hQ
  obtain ⟨cells, ecells⟩ : ∃ y, y = 0 := ⟨_, rfl⟩
  obtain ⟨slots, eslots⟩ : ∃ y, y = 0 := ⟨_, rfl⟩
  have hC : cells + dc ≤ R.cells ∧ slots + ds ≤ R.slots := ⟨by omega, by omega⟩
  refine W.widen (k := cells) (n := slots) (Nat.zero_le _) (Nat.zero_le _) ?_
  obtain ⟨mc, emc⟩ : ∃ y, y = dc := ⟨_, rfl⟩
  obtain ⟨ms, ems⟩ : ∃ y, y = ds := ⟨_, rfl⟩
  rw [← emc] at hRc hQ
  rw [← ems] at hRs hQ
  obtain ⟨tc, htc⟩ : ∃ y, y = cells + dc := ⟨_, rfl⟩
  obtain ⟨tsl, htsl⟩ : ∃ y, y = slots + ds := ⟨_, rfl⟩
  unfold f_X1_settle at hf
  refine lv_aload_n hx hb dX1_settle_0 rfl (lv_at hl 0 rfl) ?_
  refine gf_1_2 hK hx hb hts hown hH (cl_nw0 hL hw) (cl_kw0 hL hw) (hts _ tw_266) (fun _ h9 => h9) dX1_settle_1 ?_
  refine lv_if_eq (tgt := 8) hx hb dX1_settle_4 (by decide) (fun c1 => ?_) (fun c1 => ?_)
  · have hf := nm_it c1 hf
    refine lv_aload_n hx hb dX1_settle_8 rfl (lv_at hl 0 rfl) ?_
    refine gf_1_3 hK hx hb hts hown hH (cl_nw0 hL hw) (cl_kw0 hL hw) (hts _ tw_268) (fun _ h9 => h9) dX1_settle_9 ?_
    refine nm_alen hx hb hK hH (cl_nw2 hL hw) (Or.inr (cl_kw2 hL hw)) rfl dX1_settle_12 ?_
    have hJ34 : ∀ (S2 : ca) (ad : Nat → Nat) (H : Heap) (locs : List Loc) (ls : Array Slot) (cells slots dc ds : Nat), cl_N S2.2 → cl_a ad0 ad → cells + dc ≤ R.cells ∧ slots + ds ≤ R.slots → cells + dc = tc ∧ slots + ds = tsl → nm_H D Y (fun q => s0 ≤ q) s.heap X nl ad (S2.1.1, S2.1.2, S2.2, K) H locs → lv_has ls 6 [(0, .ref (ad w)), (1, .ref (ad 1)), (2, .ref (ad 3))] → f_X1_settle_J34 w K S2 = some (M0, dc, ds) → W p l e R s m args below meth c H locs cells slots Q (F0 m 34 ls []) := by
      intro S2 ad H locs ls cells slots dc ds hN hAd hC hT hH hl hf
      unfold f_X1_settle_J34 at hf
      refine lv_aload_n hx hb dX1_settle_34 rfl (lv_at hl 0 rfl) ?_
      refine gf_1_3 hK hx hb hts hown hH (cl_nw0 hL hw) (cl_kw0 hL hw) (hts _ tw_268) (fun _ h9 => h9) dX1_settle_35 ?_
      refine lv_lconst (v := 0) hx hb dX1_settle_38 (by decide) ?_
      obtain ⟨M3, hc4, hf⟩ := nm_sd1 hf
      obtain ⟨S5, eS5, hf⟩ := nm_let hf
      refine nm_callv (nm_runS (X := X) (nl := nl) (k_J7_fill_d0a16 hL hN (cl_nw2 hL hw) (cl_kw2 hL hw) (hf := hc4)) hx hb hml hown hts hs0 hK hZ hH tw_495 tw_493 tw_494 tw_4 hd_J7_fill_d0a16 rfl rfl ⟨Nat.le_trans (Nat.le_of_ble_eq_true rfl) hRf, Nat.le_trans (Nat.le_of_ble_eq_true rfl) hRl⟩ rfl hl.1 rfl (Nat.le_of_ble_eq_true rfl) dX1_settle_39 ⟨Nat.le_trans (Nat.le_add_right _ _) hC.1, Nat.le_trans (Nat.le_add_right _ _) hC.2⟩) hH (fun H locs hH => ?_)
      have hH : nm_H D Y (fun q => s0 ≤ q) s.heap X nl ad (S5.1.1, S5.1.2, S5.2, K) H locs := by rw [eS5]; exact hH
      have hN : cl_N S5.2 := by rw [eS5]; exact hN
      refine lv_aload_n hx hb dX1_settle_42 rfl (lv_at hl 0 rfl) ?_
      refine lv_iconst (v := 0) hx hb dX1_settle_43 (by decide) ?_
      obtain ⟨S6, eS6, hf⟩ := nm_let hf
      refine pf_1_5 hK hx hb hts hown hH (cl_nw0 hL hw) (cl_kw0 hL hw) (hts _ tw_272) (fun _ h9 => h9) dX1_settle_44 (fun H locs hH => ?_)
      have hH : nm_H D Y (fun q => s0 ≤ q) s.heap X nl ad (S6.1.1, S6.1.2, S6.2, K) H locs := by rw [eS6]; exact hH
      have hN : cl_N S6.2 := by rw [eS6]; exact hN
      refine lv_aload_n hx hb dX1_settle_47 rfl (lv_at hl 0 rfl) ?_
      refine lv_iconst (v := 0) hx hb dX1_settle_48 (by decide) ?_
      obtain ⟨M7, hc8, hf⟩ := nm_sd1 hf
      obtain ⟨S9, eS9, hf⟩ := nm_let hf
      refine nm_callv (nm_runV (X := X) (nl := nl) (k_X1_markPatches hL hN hw (hf := hc8)) hx hb hml hown hts hs0 hK hZ hH tw_499 tw_496 tw_498 (sw_X1_markPatches) tw_8 hd_X1_markPatches (cl_nw0 hL hw) (cl_kw0 hL hw) (by decide) rfl rfl rfl ⟨Nat.le_trans (Nat.le_of_ble_eq_true rfl) hRf, Nat.le_trans (Nat.le_of_ble_eq_true rfl) hRl⟩ rfl hl.1 rfl (Nat.le_of_ble_eq_true rfl) dX1_settle_49 ⟨Nat.le_trans (Nat.le_add_right _ _) hC.1, Nat.le_trans (Nat.le_add_right _ _) hC.2⟩) hH (fun H locs hH => ?_)
      have hH : nm_H D Y (fun q => s0 ≤ q) s.heap X nl ad (S9.1.1, S9.1.2, S9.2, K) H locs := by rw [eS9]; exact hH
      have hN : cl_N S9.2 := by rw [eS9]; exact hN
      refine lv_aload_n hx hb dX1_settle_52 rfl (lv_at hl 0 rfl) ?_
      refine lv_iconst (v := 1) hx hb dX1_settle_53 (by decide) ?_
      obtain ⟨M10, hc11, hf⟩ := nm_sd1 hf
      obtain ⟨S12, eS12, hf⟩ := nm_let hf
      refine nm_callv (nm_runV (X := X) (nl := nl) (k_X1_markPatches hL hN hw (hf := hc11)) hx hb hml hown hts hs0 hK hZ hH tw_499 tw_496 tw_498 (sw_X1_markPatches) tw_8 hd_X1_markPatches (cl_nw0 hL hw) (cl_kw0 hL hw) (by decide) rfl rfl rfl ⟨Nat.le_trans (Nat.le_of_ble_eq_true rfl) hRf, Nat.le_trans (Nat.le_of_ble_eq_true rfl) hRl⟩ rfl hl.1 rfl (Nat.le_of_ble_eq_true rfl) dX1_settle_54 ⟨Nat.le_trans (Nat.le_add_right _ _) hC.1, Nat.le_trans (Nat.le_add_right _ _) hC.2⟩) hH (fun H locs hH => ?_)
      have hH : nm_H D Y (fun q => s0 ≤ q) s.heap X nl ad (S12.1.1, S12.1.2, S12.2, K) H locs := by rw [eS12]; exact hH
      have hN : cl_N S12.2 := by rw [eS12]; exact hN
      refine lv_iconst (v := 0) hx hb dX1_settle_57 (by decide) ?_
      refine lv_istore_n (lv' := [(3, .int (0 : Int32)), (0, .ref (ad w)), (1, .ref (ad 1)), (2, .ref (ad 3))]) hx hb dX1_settle_58 rfl hl (by decide) rfl (fun ls hl => ?_)
      have hL59 : ∀ (n59 : Nat) (x3 : Int32) (S13 : ca) (H : Heap) (locs : List Loc) (ls : Array Slot) (o59 : ca), cl_N S13.2 → nm_H D Y (fun q => s0 ≤ q) s.heap X nl ad (S13.1.1, S13.1.2, S13.2, K) H locs → lv_has ls 6 [(0, .ref (ad w)), (1, .ref (ad 1)), (2, .ref (ad 3)), (3, .int x3)] → f_X1_settle_L59 w K n59 x3 S13 = some o59 → (∀ (H : Heap) (locs : List Loc) (ls : Array Slot), cl_N o59.2 → nm_H D Y (fun q => s0 ≤ q) s.heap X nl ad (o59.1.1, o59.1.2, o59.2, K) H locs → lv_has ls 6 [(0, .ref (ad w)), (1, .ref (ad 1)), (2, .ref (ad 3))] → W p l e R s m args below meth c H locs cells slots Q (F0 m 105 ls [])) → W p l e R s m args below meth c H locs cells slots Q (F0 m 59 ls []) := by
        intro n59
        induction n59 with
        | zero =>
          intro x3 S13 H locs ls o59 hN hH hl hf hX59
          cases hf
        | succ n59 ih59 =>
          intro x3 S13 H locs ls o59 hN hH hl hf hX59
          rw [f_X1_settle_L59] at hf
          refine lv_iload_n hx hb dX1_settle_59 rfl (lv_at hl 3 rfl) ?_
          refine lv_aload_n hx hb dX1_settle_60 rfl (lv_at hl 0 rfl) ?_
          refine gf_1_1 hK hx hb hts hown hH (cl_nw0 hL hw) (cl_kw0 hL hw) (hts _ tw_264) (fun _ h9 => h9) dX1_settle_61 ?_
          refine lv_icmp_ge (tgt := 105) hx hb dX1_settle_64 (by decide) (fun c14 => ?_) (fun c14 => ?_)
          · have hf := nm_it c14 hf
            cases hf
            exact hX59 _ _ _ hN hH (lv_sub hl [0, 1, 2] rfl)
          · have hf := nm_ie c14 hf
            refine lv_aload_n hx hb dX1_settle_67 rfl (lv_at hl 0 rfl) ?_
            refine gf_1_0 hK hx hb hts hown hH (cl_nw0 hL hw) (cl_kw0 hL hw) (hts _ tw_262) (fun _ h9 => h9) dX1_settle_68 ?_
            refine lv_iload_n hx hb dX1_settle_71 rfl (lv_at hl 3 rfl) ?_
            obtain ⟨hi15, hf⟩ := nm_chk hf
            obtain ⟨pz16, epz16, hf⟩ := nm_let hf
            obtain ⟨hz_pz16, hf⟩ := nm_nzd hf
            have hs_pz16 := cl_shp hL hw epz16 hi15 hz_pz16
            refine nm_sald hx hb hK hH (cl_nw1 hL hw) (cl_kw1 hL hw) (cl_lw1 hN hw) hi15 epz16 hz_pz16 dX1_settle_72 ?_
            refine lv_astore (lv' := [(5, .ref (ad pz16)), (0, .ref (ad w)), (1, .ref (ad 1)), (2, .ref (ad 3)), (3, .int x3)]) hx hb dX1_settle_73 hl (by decide) rfl (fun ls hl => ?_)
            refine lv_aload hx hb dX1_settle_75 (lv_at hl 0 rfl) ?_
            refine nm_inst5 hx hb hK hZ hown hH hs_pz16 (hts _ tw_506) dX1_settle_77 ?_
            have hJ99 : ∀ (S17 : ca) (H : Heap) (locs : List Loc) (ls : Array Slot), cl_N S17.2 → nm_H D Y (fun q => s0 ≤ q) s.heap X nl ad (S17.1.1, S17.1.2, S17.2, K) H locs → lv_has ls 6 [(0, .ref (ad w)), (1, .ref (ad 1)), (2, .ref (ad 3)), (3, .int x3)] → f_X1_settle_J99 w K x3 S17 (f_X1_settle_L59 w K n59) = some o59 → W p l e R s m args below meth c H locs cells slots Q (F0 m 99 ls []) := by
              intro S17 H locs ls hN hH hl hf
              unfold f_X1_settle_J99 at hf
              refine lv_iinc (v := x3 + 1) (lv' := [(3, .int (x3 + 1)), (0, .ref (ad w)), (1, .ref (ad 1)), (2, .ref (ad 3))]) hx hb dX1_settle_99 hl (k := 3) rfl rfl (by decide) rfl (fun ls hl => ?_)
              refine lv_goto (tgt := 59) hx hb dX1_settle_102 (by decide) ?_
              exact ih59 (x3 + 1) S17 _ _ _ _ hN hH (lv_sub hl [1, 2, 3, 0] rfl) hf hX59
            refine lv_if_eq (tgt := 99) hx hb dX1_settle_80 (by decide) (fun c18 => ?_) (fun c18 => ?_)
            · have hf := nm_it c18 hf
              exact hJ99 S13 _ _ _ hN hH (lv_sub hl [1, 2, 3, 4] rfl) hf
            · have hf := nm_ie c18 hf
              have hk_pz16 := nm_is1 c18
              refine lv_aload hx hb dX1_settle_83 (lv_at hl 0 rfl) ?_
              refine nm_cast5 hx hb hK hown hH hs_pz16.1 hk_pz16 (hts _ tw_506) dX1_settle_85 ?_
              refine lv_astore (lv' := [(4, .ref (ad pz16)), (5, .ref (ad pz16)), (0, .ref (ad w)), (1, .ref (ad 1)), (2, .ref (ad 3)), (3, .int x3)]) hx hb dX1_settle_88 hl (by decide) rfl (fun ls hl => ?_)
              refine lv_aload_n hx hb dX1_settle_90 rfl (lv_at hl 2 rfl) ?_
              refine lv_aload hx hb dX1_settle_91 (lv_at hl 0 rfl) ?_
              refine gf_5_3 hK hx hb hts hown hH hs_pz16.1 hk_pz16 (hts _ tw_412) (fun _ h9 => h9) dX1_settle_93 ?_
              obtain ⟨M19, hc20, hf⟩ := nm_sd1 hf
              obtain ⟨S21, eS21, hf⟩ := nm_let hf
              refine nm_callv (nm_runV (X := X) (nl := nl) (k_X1_addText hL hN hw (hf := hc20)) hx hb hml hown hts hs0 hK hZ hH tw_510 tw_507 tw_509 (sw_X1_addText) tw_8 hd_X1_addText (cl_nw0 hL hw) (cl_kw0 hL hw) (by decide) rfl rfl rfl ⟨Nat.le_trans (Nat.le_of_ble_eq_true rfl) hRf, Nat.le_trans (Nat.le_of_ble_eq_true rfl) hRl⟩ rfl hl.1 rfl (Nat.le_of_ble_eq_true rfl) dX1_settle_96 ⟨Nat.le_trans (Nat.le_add_right _ _) hC.1, Nat.le_trans (Nat.le_add_right _ _) hC.2⟩) hH (fun H locs hH => ?_)
              have hH : nm_H D Y (fun q => s0 ≤ q) s.heap X nl ad (S21.1.1, S21.1.2, S21.2, K) H locs := by rw [eS21]; exact hH
              have hN : cl_N S21.2 := by rw [eS21]; exact hN
              exact hJ99 S21 _ _ _ hN hH (lv_sub hl [2, 3, 4, 5] rfl) hf
      obtain ⟨S22, hl37, hf⟩ := nm_sd1 hf
      refine hL59 nm_F (0 : Int32) S12 _ _ _ _ hN hH (lv_sub hl [1, 2, 3, 0] rfl) hl37 (fun H locs ls hN hH hl => ?_)
      have hl : lv_has ls 6 [(0, .ref (ad w)), (1, .ref (ad 1)), (2, .ref (ad 3))] := hl
      have hH : nm_H D Y (fun q => s0 ≤ q) s.heap X nl ad (S22.1.1, S22.1.2, S22.2, K) H locs := hH
      have hN : cl_N S22.2 := hN
      refine lv_iconst (v := 0) hx hb dX1_settle_105 (by decide) ?_
      refine lv_istore_n (lv' := [(3, .int (0 : Int32)), (0, .ref (ad w)), (1, .ref (ad 1)), (2, .ref (ad 3))]) hx hb dX1_settle_106 rfl hl (by decide) rfl (fun ls hl => ?_)
      have hL107 : ∀ (n107 : Nat) (x3 : Int32) (S23 : ca) (H : Heap) (locs : List Loc) (ls : Array Slot) (o107 : ca), cl_N S23.2 → nm_H D Y (fun q => s0 ≤ q) s.heap X nl ad (S23.1.1, S23.1.2, S23.2, K) H locs → lv_has ls 6 [(0, .ref (ad w)), (1, .ref (ad 1)), (2, .ref (ad 3)), (3, .int x3)] → f_X1_settle_L107 w K n107 x3 S23 = some o107 → (∀ (H : Heap) (locs : List Loc) (ls : Array Slot), cl_N o107.2 → nm_H D Y (fun q => s0 ≤ q) s.heap X nl ad (o107.1.1, o107.1.2, o107.2, K) H locs → lv_has ls 6 [(0, .ref (ad w))] → W p l e R s m args below meth c H locs cells slots Q (F0 m 158 ls [])) → W p l e R s m args below meth c H locs cells slots Q (F0 m 107 ls []) := by
        intro n107
        induction n107 with
        | zero =>
          intro x3 S23 H locs ls o107 hN hH hl hf hX107
          cases hf
        | succ n107 ih107 =>
          intro x3 S23 H locs ls o107 hN hH hl hf hX107
          rw [f_X1_settle_L107] at hf
          refine lv_iload_n hx hb dX1_settle_107 rfl (lv_at hl 3 rfl) ?_
          refine lv_aload_n hx hb dX1_settle_108 rfl (lv_at hl 0 rfl) ?_
          refine gf_1_1 hK hx hb hts hown hH (cl_nw0 hL hw) (cl_kw0 hL hw) (hts _ tw_264) (fun _ h9 => h9) dX1_settle_109 ?_
          refine lv_icmp_ge (tgt := 158) hx hb dX1_settle_112 (by decide) (fun c24 => ?_) (fun c24 => ?_)
          · have hf := nm_it c24 hf
            cases hf
            exact hX107 _ _ _ hN hH (lv_sub hl [0] rfl)
          · have hf := nm_ie c24 hf
            refine lv_aload_n hx hb dX1_settle_115 rfl (lv_at hl 0 rfl) ?_
            refine gf_1_0 hK hx hb hts hown hH (cl_nw0 hL hw) (cl_kw0 hL hw) (hts _ tw_262) (fun _ h9 => h9) dX1_settle_116 ?_
            refine lv_iload_n hx hb dX1_settle_119 rfl (lv_at hl 3 rfl) ?_
            obtain ⟨hi25, hf⟩ := nm_chk hf
            obtain ⟨pz26, epz26, hf⟩ := nm_let hf
            obtain ⟨hz_pz26, hf⟩ := nm_nzd hf
            have hs_pz26 := cl_shp hL hw epz26 hi25 hz_pz26
            refine nm_sald hx hb hK hH (cl_nw1 hL hw) (cl_kw1 hL hw) (cl_lw1 hN hw) hi25 epz26 hz_pz26 dX1_settle_120 ?_
            refine lv_astore (lv' := [(5, .ref (ad pz26)), (0, .ref (ad w)), (1, .ref (ad 1)), (2, .ref (ad 3)), (3, .int x3)]) hx hb dX1_settle_121 hl (by decide) rfl (fun ls hl => ?_)
            refine lv_aload hx hb dX1_settle_123 (lv_at hl 0 rfl) ?_
            refine nm_inst7 hx hb hK hZ hown hH hs_pz26 (hts _ tw_488) dX1_settle_125 ?_
            have hJ152 : ∀ (S27 : ca) (H : Heap) (locs : List Loc) (ls : Array Slot), cl_N S27.2 → nm_H D Y (fun q => s0 ≤ q) s.heap X nl ad (S27.1.1, S27.1.2, S27.2, K) H locs → lv_has ls 6 [(0, .ref (ad w)), (1, .ref (ad 1)), (2, .ref (ad 3)), (3, .int x3)] → f_X1_settle_J152 w K x3 S27 (f_X1_settle_L107 w K n107) = some o107 → W p l e R s m args below meth c H locs cells slots Q (F0 m 152 ls []) := by
              intro S27 H locs ls hN hH hl hf
              unfold f_X1_settle_J152 at hf
              refine lv_iinc (v := x3 + 1) (lv' := [(3, .int (x3 + 1)), (0, .ref (ad w)), (1, .ref (ad 1)), (2, .ref (ad 3))]) hx hb dX1_settle_152 hl (k := 3) rfl rfl (by decide) rfl (fun ls hl => ?_)
              refine lv_goto (tgt := 107) hx hb dX1_settle_155 (by decide) ?_
              exact ih107 (x3 + 1) S27 _ _ _ _ hN hH (lv_sub hl [1, 2, 3, 0] rfl) hf hX107
            refine lv_if_eq (tgt := 152) hx hb dX1_settle_128 (by decide) (fun c28 => ?_) (fun c28 => ?_)
            · have hf := nm_it c28 hf
              exact hJ152 S23 _ _ _ hN hH (lv_sub hl [1, 2, 3, 4] rfl) hf
            · have hf := nm_ie c28 hf
              have hk_pz26 := nm_is1 c28
              refine lv_aload hx hb dX1_settle_131 (lv_at hl 0 rfl) ?_
              refine nm_cast7 hx hb hK hown hH hs_pz26.1 hk_pz26 (hts _ tw_488) dX1_settle_133 ?_
              refine lv_astore (lv' := [(4, .ref (ad pz26)), (5, .ref (ad pz26)), (0, .ref (ad w)), (1, .ref (ad 1)), (2, .ref (ad 3)), (3, .int x3)]) hx hb dX1_settle_136 hl (by decide) rfl (fun ls hl => ?_)
              refine lv_aload_n hx hb dX1_settle_138 rfl (lv_at hl 2 rfl) ?_
              refine lv_aload_n hx hb dX1_settle_139 rfl (lv_at hl 3 rfl) ?_
              refine lv_aload hx hb dX1_settle_140 (lv_at hl 0 rfl) ?_
              refine gf_7_1 hK hx hb hts hown hH hs_pz26.1 hk_pz26 (hts _ tw_346) (u_same (hts _ tw_347)) dX1_settle_142 ?_
              obtain ⟨hi29, hf⟩ := nm_chk hf
              obtain ⟨w30, ew30, hf⟩ := nm_let hf
              have hw30 : cl_w w30 := cl_wi ew30 hi29
              refine nm_cald hx hb hK hH (cl_n1 hL) (cl_k1 hL) (cl_l1 hN) hi29 ew30 dX1_settle_145 ?_
              refine lv_aload hx hb dX1_settle_146 (lv_at hl 0 rfl) ?_
              refine lv_aload_n hx hb dX1_settle_148 rfl (lv_at hl 4 rfl) ?_
              obtain ⟨M31, hc32, hf⟩ := nm_sd1 hf
              obtain ⟨S33, eS33, hf⟩ := nm_let hf
              refine nm_callv (nm_runV (X := X) (nl := nl) (k_X1_bring hL hN hw hw30 hs_pz26.1 hk_pz26 (hf := hc32)) hx hb hml hown hts hs0 hK hZ hH tw_514 tw_511 tw_513 (sw_X1_bring) tw_8 hd_X1_bring (cl_nw0 hL hw) (cl_kw0 hL hw) (by decide) rfl rfl rfl ⟨Nat.le_trans (Nat.le_of_ble_eq_true rfl) hRf, Nat.le_trans (Nat.le_of_ble_eq_true rfl) hRl⟩ rfl hl.1 rfl (Nat.le_of_ble_eq_true rfl) dX1_settle_149 ⟨Nat.le_trans (Nat.le_add_right _ _) hC.1, Nat.le_trans (Nat.le_add_right _ _) hC.2⟩) hH (fun H locs hH => ?_)
              have hH : nm_H D Y (fun q => s0 ≤ q) s.heap X nl ad (S33.1.1, S33.1.2, S33.2, K) H locs := by rw [eS33]; exact hH
              have hN : cl_N S33.2 := by rw [eS33]; exact hN
              exact hJ152 S33 _ _ _ hN hH (lv_sub hl [2, 3, 4, 5] rfl) hf
      obtain ⟨S34, hl36, hf⟩ := nm_sd1 hf
      refine hL107 nm_F (0 : Int32) S22 _ _ _ _ hN hH (lv_sub hl [1, 2, 3, 0] rfl) hl36 (fun H locs ls hN hH hl => ?_)
      have hl : lv_has ls 6 [(0, .ref (ad w))] := hl
      have hH : nm_H D Y (fun q => s0 ≤ q) s.heap X nl ad (S34.1.1, S34.1.2, S34.2, K) H locs := hH
      have hN : cl_N S34.2 := hN
      refine lv_aload_n hx hb dX1_settle_158 rfl (lv_at hl 0 rfl) ?_
      refine lv_iconst (v := 1) hx hb dX1_settle_159 (by decide) ?_
      obtain ⟨S35, eS35, hf⟩ := nm_let hf
      refine pf_1_2 hK hx hb hts hown hH (cl_nw0 hL hw) (cl_kw0 hL hw) (hts _ tw_266) (fun _ h9 => h9) rfl rfl dX1_settle_160 (fun H locs hH => ?_)
      have hH : nm_H D Y (fun q => s0 ≤ q) s.heap X nl ad (S35.1.1, S35.1.2, S35.2, K) H locs := by rw [eS35]; exact hH
      have hN : cl_N S35.2 := by rw [eS35]; exact hN
      exact nm_vretA hx hb hr hlocks hQ hRc hRs hC hN hAd hH hf dX1_settle_163
    refine lv_if_ne (tgt := 34) hx hb dX1_settle_13 (by decide) (fun c38 => ?_) (fun c38 => ?_)
    · have hf := nm_ie c38 hf
      exact hJ34 S _ _ _ _ _ _ _ _ hN hAd hC ⟨by omega, by omega⟩ hH (lv_sub hl [0, 1, 2] rfl) hf
    · have hf := nm_it c38 hf
      refine lv_aload_n hx hb dX1_settle_16 rfl (lv_at hl 0 rfl) ?_
      refine lv_sipush (v := 512) hx hb dX1_settle_17 (by decide) ?_
      obtain ⟨S39, c41, s42, dc, ds, hc40, hf, edc, eds⟩ := nm_ad1 hf
      refine nw_1_3 hx hb hL hw hown hts hs0 hK hH hN (hts _ tw_268) (fun _ h9 => h9) hc40 dX1_settle_20 dX1_settle_22 ⟨by omega, by omega⟩ (fun ad hu H locs cells slots ec es hN hH => ?_)
      have hH : nm_H D Y (fun q => s0 ≤ q) s.heap X nl ad (S39.1.1, S39.1.2, S39.2, K) H locs := hH
      have hN : cl_N S39.2 := hN
      have hl : lv_has ls 6 [(0, .ref (ad w)), (1, .ref (ad 1)), (2, .ref (ad 3))] := by rw [hu w (cl_sw hw), hu 1 (by decide), hu 3 (by decide)]; exact hl
      have hAd : cl_a ad0 ad := cl_a.tr hAd hu
      have hC : cells + dc ≤ R.cells ∧ slots + ds ≤ R.slots := ⟨by omega, by omega⟩
      refine lv_aload_n hx hb dX1_settle_25 rfl (lv_at hl 0 rfl) ?_
      refine lv_sipush (v := 200) hx hb dX1_settle_26 (by decide) ?_
      obtain ⟨S43, c45, s46, dc, ds, hc44, hf, edc, eds⟩ := nm_ad1 hf
      refine nw_1_4 hx hb hL hw hown hts hs0 hK hH hN (hts _ tw_270) (fun _ h9 => h9) hc44 dX1_settle_29 dX1_settle_31 ⟨by omega, by omega⟩ (fun ad hu H locs cells slots ec es hN hH => ?_)
      have hH : nm_H D Y (fun q => s0 ≤ q) s.heap X nl ad (S43.1.1, S43.1.2, S43.2, K) H locs := hH
      have hN : cl_N S43.2 := hN
      have hl : lv_has ls 6 [(0, .ref (ad w)), (1, .ref (ad 1)), (2, .ref (ad 3))] := by rw [hu w (cl_sw hw), hu 1 (by decide), hu 3 (by decide)]; exact hl
      have hAd : cl_a ad0 ad := cl_a.tr hAd hu
      have hC : cells + dc ≤ R.cells ∧ slots + ds ≤ R.slots := ⟨by omega, by omega⟩
      exact hJ34 S43 _ _ _ _ _ _ _ _ hN hAd hC ⟨by omega, by omega⟩ hH (lv_sub hl [0, 1, 2] rfl) hf
  · have hf := nm_ie c1 hf
    exact nm_vretA hx hb hr hlocks hQ hRc hRs hC hN hAd hH hf dX1_settle_7
