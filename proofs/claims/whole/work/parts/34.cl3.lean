def f_X1_bringTexts_J118 (w : Nat) (w2 : Nat) (pz : Nat) (N : Nat → Nat) (x5 : Int32) (M8 : cm) (k : Int32 → cm → Option (cm)) : Option (cm) :=
k (x5 + 1) M8
def f_X1_bringTexts_L3 (w : Nat) (w2 : Nat) (pz : Nat) (N : Nat → Nat) (x3 : Int32) (x4 : Int32) : Nat → Int32 → cm → Option (cm)
  | 0, _, _ => none
  | n3 + 1, x5, M1 =>
    (if (M1.1 w2 5) ≤ x5 then
    some M1
    else
    nm_c x5 (N (w2 + 3)) (
    nm_l (M1.1 (w2 + 3) x5.toNatClampNeg) fun v4 =>
    nm_l (f_X5_squareOf v4) fun v5 =>
    nm_l ((f_X7_turnedX pz (v5 - v5 / (64 : Int32) * (64 : Int32)) (v5 / (64 : Int32)) M1) + (f_X7_xOf pz x3 M1)) fun v6 =>
    nm_l ((f_X7_turnedY pz (v5 - v5 / (64 : Int32) * (64 : Int32)) (v5 / (64 : Int32)) M1) + (f_X7_yOf pz x4 M1)) fun v7 =>
    (if (f_X11_outside v6 (64 : Int32)) = 0 then
    (if (f_X11_outside v7 (64 : Int32)) = 0 then
    nm_s1 (f_X1_addText w N (f_X5_pack (f_X5_layerOf v4) (((64 : Int32) * v7) + v6) (f_X5_nameOf v4)) M1) fun M11 =>
    f_X1_bringTexts_J118 w w2 pz N x5 M11 (f_X1_bringTexts_L3 w w2 pz N x3 x4 n3)
    else
    f_X1_bringTexts_J118 w w2 pz N x5 M1 (f_X1_bringTexts_L3 w w2 pz N x3 x4 n3))
    else
    f_X1_bringTexts_J118 w w2 pz N x5 M1 (f_X1_bringTexts_L3 w w2 pz N x3 x4 n3))))
def f_X1_bringTexts (w : Nat) (w2 : Nat) (pz : Nat) (N : Nat → Nat) (x3 : Int32) (x4 : Int32) (M : cm) : Option (cm) :=
nm_s1 (f_X1_bringTexts_L3 w w2 pz N x3 x4 nm_F (0 : Int32) M) fun M13 =>
some M13
set_option maxHeartbeats 4000000 in
set_option maxRecDepth 100000 in
theorem k_X1_bringTexts {l : Launch} {D : va_G} {Y : nm_Y} {s0 : Nat} {X : va_W} {ad : Nat → Nat} {nl : List Nat} {N K : Nat → Nat} (hL : cl_L nl K) (hN : cl_N N) {w : Nat} (hw : cl_w w) {w2 : Nat} (hw2 : cl_w w2) {pz : Nat} (hp : pz ∈ nl) (hkp : K pz = 7) {x3 : Int32} {x4 : Int32} {M : cm} {M0 : cm} (hf : f_X1_bringTexts w w2 pz N x3 x4 M = some M0) :
    nm_Met l yX1_bringTexts cX1_bringTexts 10 none { frames := 1, cells := 0, slots := 0, locals := 23 } [.ref (ad w), .ref (ad w2), .ref (ad pz), .int x3, .int x4] D Y s0 (nm_W Y X nl ad (M.1, M.2, N, K)) (nm_Qv D s0 (nm_W Y X nl ad (M0.1, M0.2, N, K))) 0 0 := by
  refine nm_of (by decide) (Nat.le_of_ble_eq_true rfl) ?_
  intro p e R s m args below meth c Q ls hx hb hr hlocks hml hown hts hs0 hK hZ hRf hRl hRc hRs hQ hP hD hl
  have hH : nm_H D Y (fun q => s0 ≤ q) s.heap X nl ad (M.1, M.2, N, K) s.heap [] := ⟨hP, hD, va_S.rf⟩
  have hl : lv_has ls 10 [(0, .ref (ad w)), (1, .ref (ad w2)), (2, .ref (ad pz)), (3, .int x3), (4, .int x4)] := hl
  unfold f_X1_bringTexts at hf
  refine lv_iconst (v := 0) hx hb dX1_bringTexts_0 (by decide) ?_
  refine lv_istore (lv' := [(5, .int (0 : Int32)), (0, .ref (ad w)), (1, .ref (ad w2)), (2, .ref (ad pz)), (3, .int x3), (4, .int x4)]) hx hb dX1_bringTexts_1 hl (by decide) rfl (fun ls hl => ?_)
  have hL3 : ∀ (n3 : Nat) (x5 : Int32) (M1 : cm) (H : Heap) (locs : List Loc) (ls : Array Slot) (o3 : cm), nm_H D Y (fun q => s0 ≤ q) s.heap X nl ad (M1.1, M1.2, N, K) H locs → lv_has ls 10 [(0, .ref (ad w)), (1, .ref (ad w2)), (2, .ref (ad pz)), (3, .int x3), (4, .int x4), (5, .int x5)] → f_X1_bringTexts_L3 w w2 pz N x3 x4 n3 x5 M1 = some o3 → (∀ (H : Heap) (locs : List Loc) (ls : Array Slot), nm_H D Y (fun q => s0 ≤ q) s.heap X nl ad (o3.1, o3.2, N, K) H locs → lv_has ls 10 [] → W p l e R s m args below meth c H locs 0 0 Q (F0 m 124 ls [])) → W p l e R s m args below meth c H locs 0 0 Q (F0 m 3 ls []) := by
    intro n3
    induction n3 with
    | zero =>
      intro x5 M1 H locs ls o3 hH hl hf hX3
      cases hf
    | succ n3 ih3 =>
      intro x5 M1 H locs ls o3 hH hl hf hX3
      rw [f_X1_bringTexts_L3] at hf
      refine lv_iload hx hb dX1_bringTexts_3 (lv_at hl 5 rfl) ?_
      refine lv_aload_n hx hb dX1_bringTexts_5 rfl (lv_at hl 1 rfl) ?_
      refine gf_1_5 hK hx hb hts hown hH (cl_nw0 hL hw2) (cl_kw0 hL hw2) (hts _ tw_272) (fun _ h9 => h9) dX1_bringTexts_6 ?_
      refine lv_icmp_ge (tgt := 124) hx hb dX1_bringTexts_9 (by decide) (fun c2 => ?_) (fun c2 => ?_)
      · have hf := nm_it c2 hf
        cases hf
        exact hX3 _ _ _ hH (lv_sub hl [] rfl)
      · have hf := nm_ie c2 hf
        refine lv_aload_n hx hb dX1_bringTexts_12 rfl (lv_at hl 1 rfl) ?_
        refine gf_1_4 hK hx hb hts hown hH (cl_nw0 hL hw2) (cl_kw0 hL hw2) (hts _ tw_270) (fun _ h9 => h9) dX1_bringTexts_13 ?_
        refine lv_iload hx hb dX1_bringTexts_16 (lv_at hl 5 rfl) ?_
        obtain ⟨hi3, hf⟩ := nm_chk hf
        refine nm_iald hx hb hK hH (cl_nw3 hL hw2) (cl_kw3 hL hw2) rfl hi3 dX1_bringTexts_18 ?_
        obtain ⟨v4, ev4, hf⟩ := nm_let hf
        refine nm_topi ev4 ?_
        refine lv_istore (lv' := [(6, .int v4), (0, .ref (ad w)), (1, .ref (ad w2)), (2, .ref (ad pz)), (3, .int x3), (4, .int x4), (5, .int x5)]) hx hb dX1_bringTexts_19 hl (by decide) rfl (fun ls hl => ?_)
        refine lv_iload hx hb dX1_bringTexts_21 (lv_at hl 0 rfl) ?_
        refine nm_calli (nm_runS (X := X) (nl := nl) (k_X5_squareOf hL hN (hf := (rfl : f_X5_squareOf v4 = _))) hx hb hml hown hts hs0 hK hZ hH tw_576 tw_574 tw_575 tw_14 hd_X5_squareOf rfl rfl ⟨Nat.le_trans (Nat.le_of_ble_eq_true rfl) hRf, Nat.le_trans (Nat.le_of_ble_eq_true rfl) hRl⟩ rfl hl.1 rfl (Nat.le_of_ble_eq_true rfl) dX1_bringTexts_23 ⟨Nat.zero_le _, Nat.zero_le _⟩) hH (fun H locs hH => ?_)
        have hH : nm_H D Y (fun q => s0 ≤ q) s.heap X nl ad (M1.1, M1.2, N, K) H locs := hH
        obtain ⟨v5, ev5, hf⟩ := nm_let hf
        refine nm_topi ev5 ?_
        refine lv_istore (lv' := [(7, .int v5), (6, .int v4), (0, .ref (ad w)), (1, .ref (ad w2)), (2, .ref (ad pz)), (3, .int x3), (4, .int x4), (5, .int x5)]) hx hb dX1_bringTexts_26 hl (by decide) rfl (fun ls hl => ?_)
        refine lv_aload_n hx hb dX1_bringTexts_28 rfl (lv_at hl 4 rfl) ?_
        refine lv_iload hx hb dX1_bringTexts_29 (lv_at hl 0 rfl) ?_
        refine lv_bipush (v := 64) hx hb dX1_bringTexts_31 (by decide) ?_
        refine lv_irem hx hb dX1_bringTexts_33 (by decide) ?_
        refine lv_iload hx hb dX1_bringTexts_34 (lv_at hl 0 rfl) ?_
        refine lv_bipush (v := 64) hx hb dX1_bringTexts_36 (by decide) ?_
        refine lv_idiv hx hb dX1_bringTexts_38 (by decide) ?_
        refine nm_calli (nm_runV (X := X) (nl := nl) (k_X7_turnedX hL hN hp hkp (hf := (rfl : f_X7_turnedX pz (v5 - v5 / (64 : Int32) * (64 : Int32)) (v5 / (64 : Int32)) M1 = _))) hx hb hml hown hts hs0 hK hZ hH tw_548 tw_545 tw_546 (sw_X7_turnedX) tw_15 hd_X7_turnedX hp hkp (by decide) rfl rfl rfl ⟨Nat.le_trans (Nat.le_of_ble_eq_true rfl) hRf, Nat.le_trans (Nat.le_of_ble_eq_true rfl) hRl⟩ rfl hl.1 rfl (Nat.le_of_ble_eq_true rfl) dX1_bringTexts_39 ⟨Nat.zero_le _, Nat.zero_le _⟩) hH (fun H locs hH => ?_)
        have hH : nm_H D Y (fun q => s0 ≤ q) s.heap X nl ad (M1.1, M1.2, N, K) H locs := hH
        refine lv_aload_n hx hb dX1_bringTexts_42 rfl (lv_at hl 4 rfl) ?_
        refine lv_iload_n hx hb dX1_bringTexts_43 rfl (lv_at hl 5 rfl) ?_
        refine nm_calli (nm_runV (X := X) (nl := nl) (k_X7_xOf hL hN hp hkp (hf := (rfl : f_X7_xOf pz x3 M1 = _))) hx hb hml hown hts hs0 hK hZ hH tw_557 tw_554 tw_555 (sw_X7_xOf) tw_15 hd_X7_xOf hp hkp (by decide) rfl rfl rfl ⟨Nat.le_trans (Nat.le_of_ble_eq_true rfl) hRf, Nat.le_trans (Nat.le_of_ble_eq_true rfl) hRl⟩ rfl hl.1 rfl (Nat.le_of_ble_eq_true rfl) dX1_bringTexts_44 ⟨Nat.zero_le _, Nat.zero_le _⟩) hH (fun H locs hH => ?_)
        have hH : nm_H D Y (fun q => s0 ≤ q) s.heap X nl ad (M1.1, M1.2, N, K) H locs := hH
        refine lv_iadd hx hb dX1_bringTexts_47 ?_
        obtain ⟨v6, ev6, hf⟩ := nm_let hf
        refine nm_topi ev6 ?_
        refine lv_istore (lv' := [(8, .int v6), (7, .int v5), (6, .int v4), (0, .ref (ad w)), (1, .ref (ad w2)), (2, .ref (ad pz)), (3, .int x3), (4, .int x4), (5, .int x5)]) hx hb dX1_bringTexts_48 hl (by decide) rfl (fun ls hl => ?_)
        refine lv_aload_n hx hb dX1_bringTexts_50 rfl (lv_at hl 5 rfl) ?_
        refine lv_iload hx hb dX1_bringTexts_51 (lv_at hl 1 rfl) ?_
        refine lv_bipush (v := 64) hx hb dX1_bringTexts_53 (by decide) ?_
        refine lv_irem hx hb dX1_bringTexts_55 (by decide) ?_
        refine lv_iload hx hb dX1_bringTexts_56 (lv_at hl 1 rfl) ?_
        refine lv_bipush (v := 64) hx hb dX1_bringTexts_58 (by decide) ?_
        refine lv_idiv hx hb dX1_bringTexts_60 (by decide) ?_
        refine nm_calli (nm_runV (X := X) (nl := nl) (k_X7_turnedY hL hN hp hkp (hf := (rfl : f_X7_turnedY pz (v5 - v5 / (64 : Int32) * (64 : Int32)) (v5 / (64 : Int32)) M1 = _))) hx hb hml hown hts hs0 hK hZ hH tw_553 tw_550 tw_551 (sw_X7_turnedY) tw_15 hd_X7_turnedY hp hkp (by decide) rfl rfl rfl ⟨Nat.le_trans (Nat.le_of_ble_eq_true rfl) hRf, Nat.le_trans (Nat.le_of_ble_eq_true rfl) hRl⟩ rfl hl.1 rfl (Nat.le_of_ble_eq_true rfl) dX1_bringTexts_61 ⟨Nat.zero_le _, Nat.zero_le _⟩) hH (fun H locs hH => ?_)
        have hH : nm_H D Y (fun q => s0 ≤ q) s.heap X nl ad (M1.1, M1.2, N, K) H locs := hH
        refine lv_aload_n hx hb dX1_bringTexts_64 rfl (lv_at hl 5 rfl) ?_
        refine lv_iload hx hb dX1_bringTexts_65 (lv_at hl 7 rfl) ?_
        refine nm_calli (nm_runV (X := X) (nl := nl) (k_X7_yOf hL hN hp hkp (hf := (rfl : f_X7_yOf pz x4 M1 = _))) hx hb hml hown hts hs0 hK hZ hH tw_561 tw_558 tw_559 (sw_X7_yOf) tw_15 hd_X7_yOf hp hkp (by decide) rfl rfl rfl ⟨Nat.le_trans (Nat.le_of_ble_eq_true rfl) hRf, Nat.le_trans (Nat.le_of_ble_eq_true rfl) hRl⟩ rfl hl.1 rfl (Nat.le_of_ble_eq_true rfl) dX1_bringTexts_67 ⟨Nat.zero_le _, Nat.zero_le _⟩) hH (fun H locs hH => ?_)
        have hH : nm_H D Y (fun q => s0 ≤ q) s.heap X nl ad (M1.1, M1.2, N, K) H locs := hH
        refine lv_iadd hx hb dX1_bringTexts_70 ?_
        obtain ⟨v7, ev7, hf⟩ := nm_let hf
        refine nm_topi ev7 ?_
        refine lv_istore (lv' := [(9, .int v7), (8, .int v6), (7, .int v5), (6, .int v4), (0, .ref (ad w)), (1, .ref (ad w2)), (2, .ref (ad pz)), (3, .int x3), (4, .int x4), (5, .int x5)]) hx hb dX1_bringTexts_71 hl (by decide) rfl (fun ls hl => ?_)
        refine lv_iload hx hb dX1_bringTexts_73 (lv_at hl 1 rfl) ?_
        refine lv_bipush (v := 64) hx hb dX1_bringTexts_75 (by decide) ?_
        refine nm_calli (nm_runSN (X := X) (nl := nl) (k_X11_outside hL hN (hf := (rfl : f_X11_outside v6 (64 : Int32) = _))) hx hb hml hown hts hs0 hK hZ hH tw_321 (hZ.1.1) tw_320 tw_1 hd_X11_outside rfl rfl ⟨Nat.le_trans (Nat.le_of_ble_eq_true rfl) hRf, Nat.le_trans (Nat.le_of_ble_eq_true rfl) hRl⟩ rfl hl.1 rfl (Nat.le_of_ble_eq_true rfl) dX1_bringTexts_77 ⟨Nat.zero_le _, Nat.zero_le _⟩) hH (fun H locs hH => ?_)
        have hH : nm_H D Y (fun q => s0 ≤ q) s.heap X nl ad (M1.1, M1.2, N, K) H locs := hH
        have hJ118 : ∀ (M8 : cm) (H : Heap) (locs : List Loc) (ls : Array Slot), nm_H D Y (fun q => s0 ≤ q) s.heap X nl ad (M8.1, M8.2, N, K) H locs → lv_has ls 10 [(0, .ref (ad w)), (1, .ref (ad w2)), (2, .ref (ad pz)), (3, .int x3), (4, .int x4), (5, .int x5)] → f_X1_bringTexts_J118 w w2 pz N x5 M8 (f_X1_bringTexts_L3 w w2 pz N x3 x4 n3) = some o3 → W p l e R s m args below meth c H locs 0 0 Q (F0 m 118 ls []) := by
          intro M8 H locs ls hH hl hf
          unfold f_X1_bringTexts_J118 at hf
          refine lv_iinc (v := x5 + 1) (lv' := [(5, .int (x5 + 1)), (0, .ref (ad w)), (1, .ref (ad w2)), (2, .ref (ad pz)), (3, .int x3), (4, .int x4)]) hx hb dX1_bringTexts_118 hl (k := 5) rfl rfl (by decide) rfl (fun ls hl => ?_)
          refine lv_goto (tgt := 3) hx hb dX1_bringTexts_121 (by decide) ?_
          exact ih3 (x5 + 1) M8 _ _ _ _ hH (lv_sub hl [1, 2, 3, 4, 5, 0] rfl) hf hX3
        refine lv_if_ne (tgt := 118) hx hb dX1_bringTexts_80 (by decide) (fun c9 => ?_) (fun c9 => ?_)
        · have hf := nm_ie c9 hf
          exact hJ118  M1 _ _ _ hH (lv_sub hl [4, 5, 6, 7, 8, 9] rfl) hf
        · have hf := nm_it c9 hf
          refine lv_iload hx hb dX1_bringTexts_83 (lv_at hl 0 rfl) ?_
          refine lv_bipush (v := 64) hx hb dX1_bringTexts_85 (by decide) ?_
          refine nm_calli (nm_runSN (X := X) (nl := nl) (k_X11_outside hL hN (hf := (rfl : f_X11_outside v7 (64 : Int32) = _))) hx hb hml hown hts hs0 hK hZ hH tw_321 (hZ.1.1) tw_320 tw_1 hd_X11_outside rfl rfl ⟨Nat.le_trans (Nat.le_of_ble_eq_true rfl) hRf, Nat.le_trans (Nat.le_of_ble_eq_true rfl) hRl⟩ rfl hl.1 rfl (Nat.le_of_ble_eq_true rfl) dX1_bringTexts_87 ⟨Nat.zero_le _, Nat.zero_le _⟩) hH (fun H locs hH => ?_)
          have hH : nm_H D Y (fun q => s0 ≤ q) s.heap X nl ad (M1.1, M1.2, N, K) H locs := hH
          refine lv_if_ne (tgt := 118) hx hb dX1_bringTexts_90 (by decide) (fun c10 => ?_) (fun c10 => ?_)
          · have hf := nm_ie c10 hf
            exact hJ118  M1 _ _ _ hH (lv_sub hl [4, 5, 6, 7, 8, 9] rfl) hf
          · have hf := nm_it c10 hf
            refine lv_aload_n hx hb dX1_bringTexts_93 rfl (lv_at hl 4 rfl) ?_
            refine lv_iload hx hb dX1_bringTexts_94 (lv_at hl 3 rfl) ?_
            refine nm_calli (nm_runS (X := X) (nl := nl) (k_X5_layerOf hL hN (hf := (rfl : f_X5_layerOf v4 = _))) hx hb hml hown hts hs0 hK hZ hH tw_580 tw_578 tw_579 tw_14 hd_X5_layerOf rfl rfl ⟨Nat.le_trans (Nat.le_of_ble_eq_true rfl) hRf, Nat.le_trans (Nat.le_of_ble_eq_true rfl) hRl⟩ rfl hl.1 rfl (Nat.le_of_ble_eq_true rfl) dX1_bringTexts_96 ⟨Nat.zero_le _, Nat.zero_le _⟩) hH (fun H locs hH => ?_)
            have hH : nm_H D Y (fun q => s0 ≤ q) s.heap X nl ad (M1.1, M1.2, N, K) H locs := hH
            refine lv_bipush (v := 64) hx hb dX1_bringTexts_99 (by decide) ?_
            refine lv_iload hx hb dX1_bringTexts_101 (lv_at hl 0 rfl) ?_
            refine lv_imul hx hb dX1_bringTexts_103 ?_
            refine lv_iload hx hb dX1_bringTexts_104 (lv_at hl 1 rfl) ?_
            refine lv_iadd hx hb dX1_bringTexts_106 ?_
            refine lv_iload hx hb dX1_bringTexts_107 (lv_at hl 3 rfl) ?_
            refine nm_calli (nm_runS (X := X) (nl := nl) (k_X5_nameOf hL hN (hf := (rfl : f_X5_nameOf v4 = _))) hx hb hml hown hts hs0 hK hZ hH tw_583 tw_581 tw_582 tw_14 hd_X5_nameOf rfl rfl ⟨Nat.le_trans (Nat.le_of_ble_eq_true rfl) hRf, Nat.le_trans (Nat.le_of_ble_eq_true rfl) hRl⟩ rfl hl.1 rfl (Nat.le_of_ble_eq_true rfl) dX1_bringTexts_109 ⟨Nat.zero_le _, Nat.zero_le _⟩) hH (fun H locs hH => ?_)
            have hH : nm_H D Y (fun q => s0 ≤ q) s.heap X nl ad (M1.1, M1.2, N, K) H locs := hH
            refine nm_calli (nm_runS (X := X) (nl := nl) (k_X5_pack hL hN (hf := (rfl : f_X5_pack (f_X5_layerOf v4) (((64 : Int32) * v7) + v6) (f_X5_nameOf v4) = _))) hx hb hml hown hts hs0 hK hZ hH tw_410 tw_584 tw_409 tw_14 hd_X5_pack rfl rfl ⟨Nat.le_trans (Nat.le_of_ble_eq_true rfl) hRf, Nat.le_trans (Nat.le_of_ble_eq_true rfl) hRl⟩ rfl hl.1 rfl (Nat.le_of_ble_eq_true rfl) dX1_bringTexts_112 ⟨Nat.zero_le _, Nat.zero_le _⟩) hH (fun H locs hH => ?_)
            have hH : nm_H D Y (fun q => s0 ≤ q) s.heap X nl ad (M1.1, M1.2, N, K) H locs := hH
            obtain ⟨M11, hc12, hf⟩ := nm_sd1 hf
            refine nm_callv (nm_runV (X := X) (nl := nl) (k_X1_addText hL hN hw (hf := hc12)) hx hb hml hown hts hs0 hK hZ hH tw_510 tw_507 tw_509 (sw_X1_addText) tw_8 hd_X1_addText (cl_nw0 hL hw) (cl_kw0 hL hw) (by decide) rfl rfl rfl ⟨Nat.le_trans (Nat.le_of_ble_eq_true rfl) hRf, Nat.le_trans (Nat.le_of_ble_eq_true rfl) hRl⟩ rfl hl.1 rfl (Nat.le_of_ble_eq_true rfl) dX1_bringTexts_115 ⟨Nat.zero_le _, Nat.zero_le _⟩) hH (fun H locs hH => ?_)
            have hH : nm_H D Y (fun q => s0 ≤ q) s.heap X nl ad (M11.1, M11.2, N, K) H locs := hH
            exact hJ118  M11 _ _ _ hH (lv_sub hl [4, 5, 6, 7, 8, 9] rfl) hf
  obtain ⟨M13, hl14, hf⟩ := nm_sd1 hf
  refine hL3 nm_F (0 : Int32) M _ _ _ _ hH (lv_sub hl [1, 2, 3, 4, 5, 0] rfl) hl14 (fun H locs ls hH hl => ?_)
  have hl : lv_has ls 10 [] := hl
  have hH : nm_H D Y (fun q => s0 ≤ q) s.heap X nl ad (M13.1, M13.2, N, K) H locs := hH
  exact nm_vret hx hb hr hlocks hQ hH (congrArg (fun q => (q.1, q.2, N, K)) (Option.some.inj hf)) dX1_bringTexts_124
def f_X1_bring_J48 (w : Nat) (w2 : Nat) (pz : Nat) (N : Nat → Nat) (x4 : Int32) (M5 : cm) (k : Int32 → cm → Option (cm)) : Option (cm) :=
k (x4 + 1) M5
def f_X1_bring_L3 (w : Nat) (w2 : Nat) (pz : Nat) (N : Nat → Nat) : Nat → Int32 → cm → Option (cm)
  | 0, _, _ => none
  | n3 + 1, x4, M1 =>
    (if (8 : Int32) ≤ x4 then
    some M1
    else
    nm_s1 (f_X1_hasLayer w2 N x4 M1) fun r3 =>
    (if r3 = 0 then
    f_X1_bring_J48 w w2 pz N x4 M1 (f_X1_bring_L3 w w2 pz N n3)
    else
    nm_cp ((64 : Int32) * x4) (0 : Int32) (64 : Int32) (N (w2 + 2)) 64 (
    nm_l ((M1.1, va_up M1.2 3 (va_cpy (M1.2 (w2 + 2)) (M1.2 3) ((64 : Int32) * x4).toNatClampNeg (0 : Int32).toNatClampNeg (64 : Int32).toNatClampNeg))) fun M8 =>
    nm_s1 (f_X7_turn pz N M8) fun M9 =>
    nm_s1 (f_X1_bringMap w pz N x4 M9) fun M11 =>
    f_X1_bring_J48 w w2 pz N x4 M11 (f_X1_bring_L3 w w2 pz N n3))))
def f_X1_bring_L69 (w : Nat) (w2 : Nat) (pz : Nat) (N : Nat → Nat) (x4 : Int32) : Nat → Int32 → cm → Option (cm)
  | 0, _, _ => none
  | n69 + 1, x5, M16 =>
    (if (M16.1 pz 7) ≤ x5 then
    some M16
    else
    nm_s1 (f_X1_bringTexts w w2 pz N x5 x4 M16) fun M18 =>
    f_X1_bring_L69 w w2 pz N x4 n69 (x5 + 1) M18)
def f_X1_bring_L57 (w : Nat) (w2 : Nat) (pz : Nat) (N : Nat → Nat) : Nat → Int32 → cm → Option (cm)
  | 0, _, _ => none
  | n57 + 1, x4, M14 =>
    (if (M14.1 pz 8) ≤ x4 then
    some M14
    else
    nm_s1 (f_X1_bring_L69 w w2 pz N x4 nm_F (0 : Int32) M14) fun M20 =>
    f_X1_bring_L57 w w2 pz N n57 (x4 + 1) M20)
def f_X1_bring (w : Nat) (w2 : Nat) (pz : Nat) (N : Nat → Nat) (M : cm) : Option (cm) :=
nm_s1 (f_X1_bring_L3 w w2 pz N nm_F (0 : Int32) M) fun M13 =>
nm_s1 (f_X1_bring_L57 w w2 pz N nm_F (0 : Int32) M13) fun M22 =>
some M22
set_option maxHeartbeats 4000000 in
set_option maxRecDepth 100000 in
theorem k_X1_bring {l : Launch} {D : va_G} {Y : nm_Y} {s0 : Nat} {X : va_W} {ad : Nat → Nat} {nl : List Nat} {N K : Nat → Nat} (hL : cl_L nl K) (hN : cl_N N) {w : Nat} (hw : cl_w w) {w2 : Nat} (hw2 : cl_w w2) {pz : Nat} (hp : pz ∈ nl) (hkp : K pz = 7) {M : cm} {M0 : cm} (hf : f_X1_bring w w2 pz N M = some M0) :
    nm_Met l yX1_bring cX1_bring 6 none { frames := 3, cells := 0, slots := 0, locals := 74 } [.ref (ad w), .ref (ad w2), .ref (ad pz), .ref (ad 3)] D Y s0 (nm_W Y X nl ad (M.1, M.2, N, K)) (nm_Qv D s0 (nm_W Y X nl ad (M0.1, M0.2, N, K))) 0 0 := by
  refine nm_of (by decide) (Nat.le_of_ble_eq_true rfl) ?_
  intro p e R s m args below meth c Q ls hx hb hr hlocks hml hown hts hs0 hK hZ hRf hRl hRc hRs hQ hP hD hl
  have hH : nm_H D Y (fun q => s0 ≤ q) s.heap X nl ad (M.1, M.2, N, K) s.heap [] := ⟨hP, hD, va_S.rf⟩
  have hl : lv_has ls 6 [(0, .ref (ad w)), (1, .ref (ad w2)), (2, .ref (ad pz)), (3, .ref (ad 3))] := hl
  unfold f_X1_bring at hf
  refine lv_iconst (v := 0) hx hb dX1_bring_0 (by decide) ?_
  refine lv_istore (lv' := [(4, .int (0 : Int32)), (0, .ref (ad w)), (1, .ref (ad w2)), (2, .ref (ad pz)), (3, .ref (ad 3))]) hx hb dX1_bring_1 hl (by decide) rfl (fun ls hl => ?_)
  have hL3 : ∀ (n3 : Nat) (x4 : Int32) (M1 : cm) (H : Heap) (locs : List Loc) (ls : Array Slot) (o3 : cm), nm_H D Y (fun q => s0 ≤ q) s.heap X nl ad (M1.1, M1.2, N, K) H locs → lv_has ls 6 [(0, .ref (ad w)), (1, .ref (ad w2)), (2, .ref (ad pz)), (3, .ref (ad 3)), (4, .int x4)] → f_X1_bring_L3 w w2 pz N n3 x4 M1 = some o3 → (∀ (H : Heap) (locs : List Loc) (ls : Array Slot), nm_H D Y (fun q => s0 ≤ q) s.heap X nl ad (o3.1, o3.2, N, K) H locs → lv_has ls 6 [(0, .ref (ad w)), (1, .ref (ad w2)), (2, .ref (ad pz))] → W p l e R s m args below meth c H locs 0 0 Q (F0 m 54 ls [])) → W p l e R s m args below meth c H locs 0 0 Q (F0 m 3 ls []) := by
    intro n3
    induction n3 with
    | zero =>
      intro x4 M1 H locs ls o3 hH hl hf hX3
      cases hf
    | succ n3 ih3 =>
      intro x4 M1 H locs ls o3 hH hl hf hX3
      rw [f_X1_bring_L3] at hf
      refine lv_iload hx hb dX1_bring_3 (lv_at hl 4 rfl) ?_
      refine lv_bipush (v := 8) hx hb dX1_bring_5 (by decide) ?_
      refine lv_icmp_ge (tgt := 54) hx hb dX1_bring_7 (by decide) (fun c2 => ?_) (fun c2 => ?_)
      · have hf := nm_it c2 hf
        cases hf
        exact hX3 _ _ _ hH (lv_sub hl [0, 1, 2] rfl)
      · have hf := nm_ie c2 hf
        refine lv_aload_n hx hb dX1_bring_10 rfl (lv_at hl 1 rfl) ?_
        refine lv_iload hx hb dX1_bring_11 (lv_at hl 4 rfl) ?_
        obtain ⟨r3, hc4, hf⟩ := nm_sd1 hf
        refine nm_calli (nm_runV (X := X) (nl := nl) (k_X1_hasLayer hL hN hw2 (hf := hc4)) hx hb hml hown hts hs0 hK hZ hH tw_518 tw_515 tw_517 (sw_X1_hasLayer) tw_8 hd_X1_hasLayer (cl_nw0 hL hw2) (cl_kw0 hL hw2) (by decide) rfl rfl rfl ⟨Nat.le_trans (Nat.le_of_ble_eq_true rfl) hRf, Nat.le_trans (Nat.le_of_ble_eq_true rfl) hRl⟩ rfl hl.1 rfl (Nat.le_of_ble_eq_true rfl) dX1_bring_13 ⟨Nat.zero_le _, Nat.zero_le _⟩) hH (fun H locs hH => ?_)
        have hH : nm_H D Y (fun q => s0 ≤ q) s.heap X nl ad (M1.1, M1.2, N, K) H locs := hH
        have hJ48 : ∀ (M5 : cm) (H : Heap) (locs : List Loc) (ls : Array Slot), nm_H D Y (fun q => s0 ≤ q) s.heap X nl ad (M5.1, M5.2, N, K) H locs → lv_has ls 6 [(0, .ref (ad w)), (1, .ref (ad w2)), (2, .ref (ad pz)), (3, .ref (ad 3)), (4, .int x4)] → f_X1_bring_J48 w w2 pz N x4 M5 (f_X1_bring_L3 w w2 pz N n3) = some o3 → W p l e R s m args below meth c H locs 0 0 Q (F0 m 48 ls []) := by
          intro M5 H locs ls hH hl hf
          unfold f_X1_bring_J48 at hf
          refine lv_iinc (v := x4 + 1) (lv' := [(4, .int (x4 + 1)), (0, .ref (ad w)), (1, .ref (ad w2)), (2, .ref (ad pz)), (3, .ref (ad 3))]) hx hb dX1_bring_48 hl (k := 4) rfl rfl (by decide) rfl (fun ls hl => ?_)
          refine lv_goto (tgt := 3) hx hb dX1_bring_51 (by decide) ?_
          exact ih3 (x4 + 1) M5 _ _ _ _ hH (lv_sub hl [1, 2, 3, 4, 0] rfl) hf hX3
        refine lv_if_eq (tgt := 48) hx hb dX1_bring_16 (by decide) (fun c6 => ?_) (fun c6 => ?_)
        · have hf := nm_it c6 hf
          exact hJ48  M1 _ _ _ hH (lv_sub hl [0, 1, 2, 3, 4] rfl) hf
        · have hf := nm_ie c6 hf
          refine lv_aload_n hx hb dX1_bring_19 rfl (lv_at hl 1 rfl) ?_
          refine gf_1_3 hK hx hb hts hown hH (cl_nw0 hL hw2) (cl_kw0 hL hw2) (hts _ tw_268) (fun _ h9 => h9) dX1_bring_20 ?_
          refine lv_bipush (v := 64) hx hb dX1_bring_23 (by decide) ?_
          refine lv_iload hx hb dX1_bring_25 (lv_at hl 4 rfl) ?_
          refine lv_imul hx hb dX1_bring_27 ?_
          refine lv_aload_n hx hb dX1_bring_28 rfl (lv_at hl 3 rfl) ?_
          refine lv_iconst (v := 0) hx hb dX1_bring_29 (by decide) ?_
          refine lv_bipush (v := 64) hx hb dX1_bring_30 (by decide) ?_
          obtain ⟨hi7, hf⟩ := nm_cpk hf
          obtain ⟨M8, eM8, hf⟩ := nm_let hf
          refine nm_copyJ hx hb (hml.trans hl.1.symm) hown hts tw_519 hK hH (cl_nw2 hL hw2) (cl_kw2 hL hw2) (cl_n3 hL) (cl_k3 hL) rfl (cl_l3 hN) hi7 (Nat.le_trans (Nat.le_of_ble_eq_true rfl) hRf) (Nat.le_trans (by decide) hRl) dX1_bring_32 (fun H locs hH => ?_)
          have hH : nm_H D Y (fun q => s0 ≤ q) s.heap X nl ad (M8.1, M8.2, N, K) H locs := by rw [eM8]; exact hH
          refine lv_aload_n hx hb dX1_bring_35 rfl (lv_at hl 2 rfl) ?_
          refine lv_aload_n hx hb dX1_bring_36 rfl (lv_at hl 3 rfl) ?_
          obtain ⟨M9, hc10, hf⟩ := nm_sd1 hf
          refine nm_callv (nm_runV (X := X) (nl := nl) (k_X7_turn hL hN hp hkp (hf := hc10)) hx hb hml hown hts hs0 hK hZ hH tw_525 tw_522 tw_523 (sw_X7_turn) tw_15 hd_X7_turn hp hkp (by decide) rfl rfl rfl ⟨Nat.le_trans (Nat.le_of_ble_eq_true rfl) hRf, Nat.le_trans (Nat.le_of_ble_eq_true rfl) hRl⟩ rfl hl.1 rfl (Nat.le_of_ble_eq_true rfl) dX1_bring_37 ⟨Nat.zero_le _, Nat.zero_le _⟩) hH (fun H locs hH => ?_)
          have hH : nm_H D Y (fun q => s0 ≤ q) s.heap X nl ad (M9.1, M9.2, N, K) H locs := hH
          refine lv_aload_n hx hb dX1_bring_40 rfl (lv_at hl 0 rfl) ?_
          refine lv_aload_n hx hb dX1_bring_41 rfl (lv_at hl 3 rfl) ?_
          refine lv_iload hx hb dX1_bring_42 (lv_at hl 4 rfl) ?_
          refine lv_aload_n hx hb dX1_bring_44 rfl (lv_at hl 2 rfl) ?_
          obtain ⟨M11, hc12, hf⟩ := nm_sd1 hf
          refine nm_callv (nm_runV (X := X) (nl := nl) (k_X1_bringMap hL hN hw hp hkp (hf := hc12)) hx hb hml hown hts hs0 hK hZ hH tw_544 tw_541 tw_543 (sw_X1_bringMap) tw_8 hd_X1_bringMap (cl_nw0 hL hw) (cl_kw0 hL hw) (by decide) rfl rfl rfl ⟨Nat.le_trans (Nat.le_of_ble_eq_true rfl) hRf, Nat.le_trans (Nat.le_of_ble_eq_true rfl) hRl⟩ rfl hl.1 rfl (Nat.le_of_ble_eq_true rfl) dX1_bring_45 ⟨Nat.zero_le _, Nat.zero_le _⟩) hH (fun H locs hH => ?_)
          have hH : nm_H D Y (fun q => s0 ≤ q) s.heap X nl ad (M11.1, M11.2, N, K) H locs := hH
          exact hJ48  M11 _ _ _ hH (lv_sub hl [0, 1, 2, 3, 4] rfl) hf
  obtain ⟨M13, hl24, hf⟩ := nm_sd1 hf
  refine hL3 nm_F (0 : Int32) M _ _ _ _ hH (lv_sub hl [1, 2, 3, 4, 0] rfl) hl24 (fun H locs ls hH hl => ?_)
  have hl : lv_has ls 6 [(0, .ref (ad w)), (1, .ref (ad w2)), (2, .ref (ad pz))] := hl
  have hH : nm_H D Y (fun q => s0 ≤ q) s.heap X nl ad (M13.1, M13.2, N, K) H locs := hH
  refine lv_iconst (v := 0) hx hb dX1_bring_54 (by decide) ?_
  refine lv_istore (lv' := [(4, .int (0 : Int32)), (0, .ref (ad w)), (1, .ref (ad w2)), (2, .ref (ad pz))]) hx hb dX1_bring_55 hl (by decide) rfl (fun ls hl => ?_)
  have hL57 : ∀ (n57 : Nat) (x4 : Int32) (M14 : cm) (H : Heap) (locs : List Loc) (ls : Array Slot) (o57 : cm), nm_H D Y (fun q => s0 ≤ q) s.heap X nl ad (M14.1, M14.2, N, K) H locs → lv_has ls 6 [(0, .ref (ad w)), (1, .ref (ad w2)), (2, .ref (ad pz)), (4, .int x4)] → f_X1_bring_L57 w w2 pz N n57 x4 M14 = some o57 → (∀ (H : Heap) (locs : List Loc) (ls : Array Slot), nm_H D Y (fun q => s0 ≤ q) s.heap X nl ad (o57.1, o57.2, N, K) H locs → lv_has ls 6 [] → W p l e R s m args below meth c H locs 0 0 Q (F0 m 100 ls [])) → W p l e R s m args below meth c H locs 0 0 Q (F0 m 57 ls []) := by
    intro n57
    induction n57 with
    | zero =>
      intro x4 M14 H locs ls o57 hH hl hf hX57
      cases hf
    | succ n57 ih57 =>
      intro x4 M14 H locs ls o57 hH hl hf hX57
      rw [f_X1_bring_L57] at hf
      refine lv_iload hx hb dX1_bring_57 (lv_at hl 3 rfl) ?_
      refine lv_aload_n hx hb dX1_bring_59 rfl (lv_at hl 2 rfl) ?_
      refine gf_7_8 hK hx hb hts hown hH hp hkp (hts _ tw_436) (fun _ h9 => h9) dX1_bring_60 ?_
      refine lv_icmp_ge (tgt := 100) hx hb dX1_bring_63 (by decide) (fun c15 => ?_) (fun c15 => ?_)
      · have hf := nm_it c15 hf
        cases hf
        exact hX57 _ _ _ hH (lv_sub hl [] rfl)
      · have hf := nm_ie c15 hf
        refine lv_iconst (v := 0) hx hb dX1_bring_66 (by decide) ?_
        refine lv_istore (lv' := [(5, .int (0 : Int32)), (0, .ref (ad w)), (1, .ref (ad w2)), (2, .ref (ad pz)), (4, .int x4)]) hx hb dX1_bring_67 hl (by decide) rfl (fun ls hl => ?_)
        have hL69 : ∀ (n69 : Nat) (x5 : Int32) (M16 : cm) (H : Heap) (locs : List Loc) (ls : Array Slot) (o69 : cm), nm_H D Y (fun q => s0 ≤ q) s.heap X nl ad (M16.1, M16.2, N, K) H locs → lv_has ls 6 [(0, .ref (ad w)), (1, .ref (ad w2)), (2, .ref (ad pz)), (4, .int x4), (5, .int x5)] → f_X1_bring_L69 w w2 pz N x4 n69 x5 M16 = some o69 → (∀ (H : Heap) (locs : List Loc) (ls : Array Slot), nm_H D Y (fun q => s0 ≤ q) s.heap X nl ad (o69.1, o69.2, N, K) H locs → lv_has ls 6 [(0, .ref (ad w)), (1, .ref (ad w2)), (2, .ref (ad pz)), (4, .int x4)] → W p l e R s m args below meth c H locs 0 0 Q (F0 m 94 ls [])) → W p l e R s m args below meth c H locs 0 0 Q (F0 m 69 ls []) := by
          intro n69
          induction n69 with
          | zero =>
            intro x5 M16 H locs ls o69 hH hl hf hX69
            cases hf
          | succ n69 ih69 =>
            intro x5 M16 H locs ls o69 hH hl hf hX69
            rw [f_X1_bring_L69] at hf
            refine lv_iload hx hb dX1_bring_69 (lv_at hl 4 rfl) ?_
            refine lv_aload_n hx hb dX1_bring_71 rfl (lv_at hl 2 rfl) ?_
            refine gf_7_7 hK hx hb hts hown hH hp hkp (hts _ tw_434) (fun _ h9 => h9) dX1_bring_72 ?_
            refine lv_icmp_ge (tgt := 94) hx hb dX1_bring_75 (by decide) (fun c17 => ?_) (fun c17 => ?_)
            · have hf := nm_it c17 hf
              cases hf
              exact hX69 _ _ _ hH (lv_sub hl [0, 1, 2, 3] rfl)
            · have hf := nm_ie c17 hf
              refine lv_aload_n hx hb dX1_bring_78 rfl (lv_at hl 0 rfl) ?_
              refine lv_aload_n hx hb dX1_bring_79 rfl (lv_at hl 1 rfl) ?_
              refine lv_aload_n hx hb dX1_bring_80 rfl (lv_at hl 2 rfl) ?_
              refine lv_iload hx hb dX1_bring_81 (lv_at hl 4 rfl) ?_
              refine lv_iload hx hb dX1_bring_83 (lv_at hl 3 rfl) ?_
              obtain ⟨M18, hc19, hf⟩ := nm_sd1 hf
              refine nm_callv (nm_runV (X := X) (nl := nl) (k_X1_bringTexts hL hN hw hw2 hp hkp (hf := hc19)) hx hb hml hown hts hs0 hK hZ hH tw_573 tw_570 tw_572 (sw_X1_bringTexts) tw_8 hd_X1_bringTexts (cl_nw0 hL hw) (cl_kw0 hL hw) (by decide) rfl rfl rfl ⟨Nat.le_trans (Nat.le_of_ble_eq_true rfl) hRf, Nat.le_trans (Nat.le_of_ble_eq_true rfl) hRl⟩ rfl hl.1 rfl (Nat.le_of_ble_eq_true rfl) dX1_bring_85 ⟨Nat.zero_le _, Nat.zero_le _⟩) hH (fun H locs hH => ?_)
              have hH : nm_H D Y (fun q => s0 ≤ q) s.heap X nl ad (M18.1, M18.2, N, K) H locs := hH
              refine lv_iinc (v := x5 + 1) (lv' := [(5, .int (x5 + 1)), (0, .ref (ad w)), (1, .ref (ad w2)), (2, .ref (ad pz)), (4, .int x4)]) hx hb dX1_bring_88 hl (k := 4) rfl rfl (by decide) rfl (fun ls hl => ?_)
              refine lv_goto (tgt := 69) hx hb dX1_bring_91 (by decide) ?_
              exact ih69 (x5 + 1) M18 _ _ _ _ hH (lv_sub hl [1, 2, 3, 4, 0] rfl) hf hX69
        obtain ⟨M20, hl21, hf⟩ := nm_sd1 hf
        refine hL69 nm_F (0 : Int32) M14 _ _ _ _ hH (lv_sub hl [1, 2, 3, 4, 0] rfl) hl21 (fun H locs ls hH hl => ?_)
        have hl : lv_has ls 6 [(0, .ref (ad w)), (1, .ref (ad w2)), (2, .ref (ad pz)), (4, .int x4)] := hl
        have hH : nm_H D Y (fun q => s0 ≤ q) s.heap X nl ad (M20.1, M20.2, N, K) H locs := hH
        refine lv_iinc (v := x4 + 1) (lv' := [(4, .int (x4 + 1)), (0, .ref (ad w)), (1, .ref (ad w2)), (2, .ref (ad pz))]) hx hb dX1_bring_94 hl (k := 3) rfl rfl (by decide) rfl (fun ls hl => ?_)
        refine lv_goto (tgt := 57) hx hb dX1_bring_97 (by decide) ?_
        exact ih57 (x4 + 1) M20 _ _ _ _ hH (lv_sub hl [1, 2, 3, 0] rfl) hf hX57
  obtain ⟨M22, hl23, hf⟩ := nm_sd1 hf
  refine hL57 nm_F (0 : Int32) M13 _ _ _ _ hH (lv_sub hl [1, 2, 3, 0] rfl) hl23 (fun H locs ls hH hl => ?_)
  have hl : lv_has ls 6 [] := hl
  have hH : nm_H D Y (fun q => s0 ≤ q) s.heap X nl ad (M22.1, M22.2, N, K) H locs := hH
  exact nm_vret hx hb hr hlocks hQ hH (congrArg (fun q => (q.1, q.2, N, K)) (Option.some.inj hf)) dX1_bring_100
def f_X11_refuse (x1 : Int32) (M : cm) : Option (Int32 × cm) :=
nm_c ((-2 : Int32) - x1) 8 (
nm_c ((-2 : Int32) - x1) 8 (
nm_l ((nm_up M.1 2 (((-2 : Int32) - x1).toNatClampNeg) ((M.1 2 ((-2 : Int32) - x1).toNatClampNeg) + (1 : Int32)), M.2)) fun M3 =>
some (x1, M3)))
set_option maxHeartbeats 4000000 in
set_option maxRecDepth 100000 in
theorem k_X11_refuse {l : Launch} {D : va_G} {Y : nm_Y} {s0 : Nat} {X : va_W} {ad : Nat → Nat} {nl : List Nat} {N K : Nat → Nat} (hL : cl_L nl K) (hN : cl_N N) {x1 : Int32} {M : cm} {r0 : Int32} {M0 : cm} (hf : f_X11_refuse x1 M = some (r0, M0)) :
    nm_Met l yX11_refuse cX11_refuse 2 (some .int) { frames := 0, cells := 0, slots := 0, locals := 0 } [.ref (ad 0), .int x1] D Y s0 (nm_W Y X nl ad (M.1, M.2, N, K)) (nm_Qi D s0 r0 (nm_W Y X nl ad (M0.1, M0.2, N, K))) 0 0 := by
  refine nm_of (by decide) (Nat.le_of_ble_eq_true rfl) ?_
  intro p e R s m args below meth c Q ls hx hb hr hlocks hml hown hts hs0 hK hZ hRf hRl hRc hRs hQ hP hD hl
  have hH : nm_H D Y (fun q => s0 ≤ q) s.heap X nl ad (M.1, M.2, N, K) s.heap [] := ⟨hP, hD, va_S.rf⟩
  have hl : lv_has ls 2 [(0, .ref (ad 0)), (1, .int x1)] := hl
  unfold f_X11_refuse at hf
  refine lv_aload_n hx hb dX11_refuse_0 rfl (lv_at hl 0 rfl) ?_
  refine gf_11_5 hK hx hb hts hown hH (cl_n0 hL) (cl_k0 hL) (hts _ tw_292) (fun _ h9 => h9) dX11_refuse_1 ?_
  refine lv_bipush (v := -2) hx hb dX11_refuse_4 (by decide) ?_
  refine lv_iload_n hx hb dX11_refuse_6 rfl (lv_at hl 1 rfl) ?_
  refine lv_isub hx hb dX11_refuse_7 ?_
  refine lv_dup2_11 hx hb dX11_refuse_8 rfl rfl ?_
  obtain ⟨hi1, hf⟩ := nm_chk hf
  refine nm_iald hx hb hK hH (cl_n2 hL) (cl_k2 hL) (cl_l2 hN) hi1 dX11_refuse_9 ?_
  refine lv_iconst (v := 1) hx hb dX11_refuse_10 (by decide) ?_
  refine lv_iadd hx hb dX11_refuse_11 ?_
  obtain ⟨hi2, hf⟩ := nm_chk hf
  obtain ⟨M3, eM3, hf⟩ := nm_let hf
  refine nm_iast hx hb hK hH (cl_n2 hL) (cl_k2 hL) (cl_l2 hN) hi2 dX11_refuse_12 (fun H locs hH => ?_)
  have hH : nm_H D Y (fun q => s0 ≤ q) s.heap X nl ad (M3.1, M3.2, N, K) H locs := by rw [eM3]; exact hH
  refine lv_iload_n hx hb dX11_refuse_13 rfl (lv_at hl 1 rfl) ?_
  exact nm_iret hx hb hr hlocks hQ hH (congrArg Prod.fst (Option.some.inj hf)) (congrArg (fun q => (q.2.1, q.2.2, N, K)) (Option.some.inj hf)) dX11_refuse_14
def f_X11_made_J113 (x1 : Int32) (x2 : Int32) (x3 : Int32) (x4 : Int32) (M : cm) : Option (Int32 × cm) :=
nm_s1 (f_X3_tell x1 x2 x3 x4 M) fun M13 =>
some ((1 : Int32), M13)
def f_X11_made_J89 (x1 : Int32) (x2 : Int32) (x3 : Int32) (x4 : Int32) (t15_0 : Int32) (M : cm) : Option (Int32 × cm) :=
(if t15_0 = 0 then
f_X11_made_J113 x1 x2 x3 x4 M
else
(if x4 < 0 then
nm_s2 (f_X11_refuse (-7 : Int32) M) fun r19 M17 =>
some (r19, M17)
else
(if x4 ≤ (9 : Int32) then
f_X11_made_J113 x1 x2 x3 x4 M
else
nm_s2 (f_X11_refuse (-7 : Int32) M) fun r23 M21 =>
some (r23, M21))))
def f_X11_made_J79 (x1 : Int32) (x2 : Int32) (x3 : Int32) (x4 : Int32) (t15_0 : Int32) (t36_0 : Int32) (M : cm) : Option (Int32 × cm) :=
(if t36_0 = 0 then
(if t15_0 = 0 then
nm_s2 (f_X11_refuse (-7 : Int32) M) fun r28 M26 =>
some (r28, M26)
else
f_X11_made_J89 x1 x2 x3 x4 t15_0 M)
else
f_X11_made_J89 x1 x2 x3 x4 t15_0 M)
def f_X11_made_J36 (x1 : Int32) (x2 : Int32) (x3 : Int32) (x4 : Int32) (t15_0 : Int32) (t36_0 : Int32) (M : cm) : Option (Int32 × cm) :=
(if x1 < (8 : Int32) then
nm_s2 (f_X11_refuse (-3 : Int32) M) fun r4 M2 =>
some (r4, M2)
else
(if (16 : Int32) ≤ x1 then
nm_s2 (f_X11_refuse (-3 : Int32) M) fun r8 M6 =>
some (r8, M6)
else
(if (f_X11_outside x3 x1) = 0 then
(if t36_0 = 0 then
f_X11_made_J79 x1 x2 x3 x4 t15_0 t36_0 M
else
(if (f_X11_outside x4 x1) = 0 then
f_X11_made_J79 x1 x2 x3 x4 t15_0 t36_0 M
else
nm_s2 (f_X11_refuse (-3 : Int32) M) fun r33 M31 =>
some (r33, M31)))
else
nm_s2 (f_X11_refuse (-3 : Int32) M) fun r12 M10 =>
some (r12, M10))))
def f_X11_made_J35 (x1 : Int32) (x2 : Int32) (x3 : Int32) (x4 : Int32) (t15_0 : Int32) (M : cm) : Option (Int32 × cm) :=
f_X11_made_J36 x1 x2 x3 x4 t15_0 (0 : Int32) M
def f_X11_made_J15 (x1 : Int32) (x2 : Int32) (x3 : Int32) (x4 : Int32) (t15_0 : Int32) (M : cm) : Option (Int32 × cm) :=
(if t15_0 = 0 then
(if x2 < 0 then
f_X11_made_J35 x1 x2 x3 x4 t15_0 M
else
(if (5 : Int32) < x2 then
f_X11_made_J35 x1 x2 x3 x4 t15_0 M
else
f_X11_made_J36 x1 x2 x3 x4 t15_0 (1 : Int32) M))
else
f_X11_made_J35 x1 x2 x3 x4 t15_0 M)
def f_X11_made_J10 (x1 : Int32) (x2 : Int32) (x3 : Int32) (x4 : Int32) (M : cm) : Option (Int32 × cm) :=
f_X11_made_J15 x1 x2 x3 x4 (1 : Int32) M
def f_X11_made (x1 : Int32) (x2 : Int32) (x3 : Int32) (x4 : Int32) (M : cm) : Option (Int32 × cm) :=
(if x2 = (3 : Int32) then
f_X11_made_J10 x1 x2 x3 x4 M
else
(if x2 = (4 : Int32) then
f_X11_made_J10 x1 x2 x3 x4 M
else
f_X11_made_J15 x1 x2 x3 x4 (0 : Int32) M))
set_option maxHeartbeats 4000000 in
set_option maxRecDepth 100000 in
theorem k_X11_made {l : Launch} {D : va_G} {Y : nm_Y} {s0 : Nat} {X : va_W} {ad : Nat → Nat} {nl : List Nat} {N K : Nat → Nat} (hL : cl_L nl K) (hN : cl_N N) {x1 : Int32} {x2 : Int32} {x3 : Int32} {x4 : Int32} {M : cm} {r0 : Int32} {M0 : cm} (hf : f_X11_made x1 x2 x3 x4 M = some (r0, M0)) :
    nm_Met l yX11_made cX11_made 7 (some .int) { frames := 1, cells := 0, slots := 0, locals := 24 } [.ref (ad 0), .int x1, .int x2, .int x3, .int x4] D Y s0 (nm_W Y X nl ad (M.1, M.2, N, K)) (nm_Qi D s0 r0 (nm_W Y X nl ad (M0.1, M0.2, N, K))) 0 0 := by
  refine nm_of (by decide) (Nat.le_of_ble_eq_true rfl) ?_
  intro p e R s m args below meth c Q ls hx hb hr hlocks hml hown hts hs0 hK hZ hRf hRl hRc hRs hQ hP hD hl
  have hH : nm_H D Y (fun q => s0 ≤ q) s.heap X nl ad (M.1, M.2, N, K) s.heap [] := ⟨hP, hD, va_S.rf⟩
  have hl : lv_has ls 7 [(0, .ref (ad 0)), (1, .int x1), (2, .int x2), (3, .int x3), (4, .int x4)] := hl
  unfold f_X11_made at hf
  refine lv_iload_n hx hb dX11_made_0 rfl (lv_at hl 2 rfl) ?_
  refine lv_iconst (v := 3) hx hb dX11_made_1 (by decide) ?_
  have hJ15 : ∀ (t15_0 : Int32) (H : Heap) (locs : List Loc) (ls : Array Slot), nm_H D Y (fun q => s0 ≤ q) s.heap X nl ad (M.1, M.2, N, K) H locs → lv_has ls 7 [(0, .ref (ad 0)), (1, .int x1), (2, .int x2), (3, .int x3), (4, .int x4)] → f_X11_made_J15 x1 x2 x3 x4 t15_0 M = some (r0, M0) → W p l e R s m args below meth c H locs 0 0 Q (F0 m 15 ls [.int t15_0]) := by
    intro t15_0 H locs ls hH hl hf
    unfold f_X11_made_J15 at hf
    refine lv_istore (lv' := [(5, .int t15_0), (0, .ref (ad 0)), (1, .int x1), (2, .int x2), (3, .int x3), (4, .int x4)]) hx hb dX11_made_15 hl (by decide) rfl (fun ls hl => ?_)
    refine lv_iload hx hb dX11_made_17 (lv_at hl 0 rfl) ?_
    have hJ36 : ∀ (t36_0 : Int32) (H : Heap) (locs : List Loc) (ls : Array Slot), nm_H D Y (fun q => s0 ≤ q) s.heap X nl ad (M.1, M.2, N, K) H locs → lv_has ls 7 [(0, .ref (ad 0)), (1, .int x1), (2, .int x2), (3, .int x3), (4, .int x4), (5, .int t15_0)] → f_X11_made_J36 x1 x2 x3 x4 t15_0 t36_0 M = some (r0, M0) → W p l e R s m args below meth c H locs 0 0 Q (F0 m 36 ls [.int t36_0]) := by
      intro t36_0 H locs ls hH hl hf
      unfold f_X11_made_J36 at hf
      refine lv_istore (lv' := [(6, .int t36_0), (0, .ref (ad 0)), (1, .int x1), (2, .int x2), (3, .int x3), (4, .int x4), (5, .int t15_0)]) hx hb dX11_made_36 hl (by decide) rfl (fun ls hl => ?_)
      refine lv_iload_n hx hb dX11_made_38 rfl (lv_at hl 2 rfl) ?_
      refine lv_bipush (v := 8) hx hb dX11_made_39 (by decide) ?_
      refine lv_icmp_lt (tgt := 72) hx hb dX11_made_41 (by decide) (fun c1 => ?_) (fun c1 => ?_)
      · have hf := nm_it c1 hf
        refine lv_aload_n hx hb dX11_made_72 rfl (lv_at hl 1 rfl) ?_
        refine lv_bipush (v := -3) hx hb dX11_made_73 (by decide) ?_
        obtain ⟨r4, M2, hc3, hf⟩ := nm_sd2 hf
        refine nm_calli (nm_runV (X := X) (nl := nl) (k_X11_refuse hL hN (hf := hc3)) hx hb hml hown hts hs0 hK hZ hH tw_325 tw_322 tw_324 (sw_X11_refuse) tw_1 hd_X11_refuse (cl_n0 hL) (cl_k0 hL) (by decide) rfl rfl rfl ⟨Nat.le_trans (Nat.le_of_ble_eq_true rfl) hRf, Nat.le_trans (Nat.le_of_ble_eq_true rfl) hRl⟩ rfl hl.1 rfl (Nat.le_of_ble_eq_true rfl) dX11_made_75 ⟨Nat.zero_le _, Nat.zero_le _⟩) hH (fun H locs hH => ?_)
        have hH : nm_H D Y (fun q => s0 ≤ q) s.heap X nl ad (M2.1, M2.2, N, K) H locs := hH
        exact nm_iret hx hb hr hlocks hQ hH (congrArg Prod.fst (Option.some.inj hf)) (congrArg (fun q => (q.2.1, q.2.2, N, K)) (Option.some.inj hf)) dX11_made_78
      · have hf := nm_ie c1 hf
        refine lv_iload_n hx hb dX11_made_44 rfl (lv_at hl 2 rfl) ?_
        refine lv_bipush (v := 16) hx hb dX11_made_45 (by decide) ?_
        refine lv_icmp_ge (tgt := 72) hx hb dX11_made_47 (by decide) (fun c5 => ?_) (fun c5 => ?_)
        · have hf := nm_it c5 hf
          refine lv_aload_n hx hb dX11_made_72 rfl (lv_at hl 1 rfl) ?_
          refine lv_bipush (v := -3) hx hb dX11_made_73 (by decide) ?_
          obtain ⟨r8, M6, hc7, hf⟩ := nm_sd2 hf
          refine nm_calli (nm_runV (X := X) (nl := nl) (k_X11_refuse hL hN (hf := hc7)) hx hb hml hown hts hs0 hK hZ hH tw_325 tw_322 tw_324 (sw_X11_refuse) tw_1 hd_X11_refuse (cl_n0 hL) (cl_k0 hL) (by decide) rfl rfl rfl ⟨Nat.le_trans (Nat.le_of_ble_eq_true rfl) hRf, Nat.le_trans (Nat.le_of_ble_eq_true rfl) hRl⟩ rfl hl.1 rfl (Nat.le_of_ble_eq_true rfl) dX11_made_75 ⟨Nat.zero_le _, Nat.zero_le _⟩) hH (fun H locs hH => ?_)
          have hH : nm_H D Y (fun q => s0 ≤ q) s.heap X nl ad (M6.1, M6.2, N, K) H locs := hH
          exact nm_iret hx hb hr hlocks hQ hH (congrArg Prod.fst (Option.some.inj hf)) (congrArg (fun q => (q.2.1, q.2.2, N, K)) (Option.some.inj hf)) dX11_made_78
        · have hf := nm_ie c5 hf
          refine lv_iload_n hx hb dX11_made_50 rfl (lv_at hl 4 rfl) ?_
          refine lv_iload_n hx hb dX11_made_51 rfl (lv_at hl 2 rfl) ?_
          refine nm_calli (nm_runS (X := X) (nl := nl) (k_X11_outside hL hN (hf := (rfl : f_X11_outside x3 x1 = _))) hx hb hml hown hts hs0 hK hZ hH tw_321 tw_319 tw_320 tw_1 hd_X11_outside rfl rfl ⟨Nat.le_trans (Nat.le_of_ble_eq_true rfl) hRf, Nat.le_trans (Nat.le_of_ble_eq_true rfl) hRl⟩ rfl hl.1 rfl (Nat.le_of_ble_eq_true rfl) dX11_made_52 ⟨Nat.zero_le _, Nat.zero_le _⟩) hH (fun H locs hH => ?_)
          have hH : nm_H D Y (fun q => s0 ≤ q) s.heap X nl ad (M.1, M.2, N, K) H locs := hH
          refine lv_if_ne (tgt := 72) hx hb dX11_made_55 (by decide) (fun c9 => ?_) (fun c9 => ?_)
          · have hf := nm_ie c9 hf
            refine lv_aload_n hx hb dX11_made_72 rfl (lv_at hl 1 rfl) ?_
            refine lv_bipush (v := -3) hx hb dX11_made_73 (by decide) ?_
            obtain ⟨r12, M10, hc11, hf⟩ := nm_sd2 hf
            refine nm_calli (nm_runV (X := X) (nl := nl) (k_X11_refuse hL hN (hf := hc11)) hx hb hml hown hts hs0 hK hZ hH tw_325 tw_322 tw_324 (sw_X11_refuse) tw_1 hd_X11_refuse (cl_n0 hL) (cl_k0 hL) (by decide) rfl rfl rfl ⟨Nat.le_trans (Nat.le_of_ble_eq_true rfl) hRf, Nat.le_trans (Nat.le_of_ble_eq_true rfl) hRl⟩ rfl hl.1 rfl (Nat.le_of_ble_eq_true rfl) dX11_made_75 ⟨Nat.zero_le _, Nat.zero_le _⟩) hH (fun H locs hH => ?_)
            have hH : nm_H D Y (fun q => s0 ≤ q) s.heap X nl ad (M10.1, M10.2, N, K) H locs := hH
            exact nm_iret hx hb hr hlocks hQ hH (congrArg Prod.fst (Option.some.inj hf)) (congrArg (fun q => (q.2.1, q.2.2, N, K)) (Option.some.inj hf)) dX11_made_78
          · have hf := nm_it c9 hf
            refine lv_iload hx hb dX11_made_58 (lv_at hl 0 rfl) ?_
            have hJ79 : ∀  (H : Heap) (locs : List Loc) (ls : Array Slot), nm_H D Y (fun q => s0 ≤ q) s.heap X nl ad (M.1, M.2, N, K) H locs → lv_has ls 7 [(0, .ref (ad 0)), (1, .int x1), (2, .int x2), (3, .int x3), (4, .int x4), (5, .int t15_0), (6, .int t36_0)] → f_X11_made_J79 x1 x2 x3 x4 t15_0 t36_0 M = some (r0, M0) → W p l e R s m args below meth c H locs 0 0 Q (F0 m 79 ls []) := by
              intro  H locs ls hH hl hf
              unfold f_X11_made_J79 at hf
              refine lv_iload hx hb dX11_made_79 (lv_at hl 6 rfl) ?_
              have hJ89 : ∀  (H : Heap) (locs : List Loc) (ls : Array Slot), nm_H D Y (fun q => s0 ≤ q) s.heap X nl ad (M.1, M.2, N, K) H locs → lv_has ls 7 [(0, .ref (ad 0)), (1, .int x1), (2, .int x2), (3, .int x3), (4, .int x4), (5, .int t15_0)] → f_X11_made_J89 x1 x2 x3 x4 t15_0 M = some (r0, M0) → W p l e R s m args below meth c H locs 0 0 Q (F0 m 89 ls []) := by
                intro  H locs ls hH hl hf
                unfold f_X11_made_J89 at hf
                refine lv_iload hx hb dX11_made_89 (lv_at hl 5 rfl) ?_
                have hJ113 : ∀  (H : Heap) (locs : List Loc) (ls : Array Slot), nm_H D Y (fun q => s0 ≤ q) s.heap X nl ad (M.1, M.2, N, K) H locs → lv_has ls 7 [(0, .ref (ad 0)), (1, .int x1), (2, .int x2), (3, .int x3), (4, .int x4)] → f_X11_made_J113 x1 x2 x3 x4 M = some (r0, M0) → W p l e R s m args below meth c H locs 0 0 Q (F0 m 113 ls []) := by
                  intro  H locs ls hH hl hf
                  unfold f_X11_made_J113 at hf
                  refine lv_aload_n hx hb dX11_made_113 rfl (lv_at hl 0 rfl) ?_
                  refine gf_11_1 hK hx hb hts hown hH (cl_n0 hL) (cl_k0 hL) (hts _ tw_288) (fun _ h9 => h9) dX11_made_114 ?_
                  refine lv_iload_n hx hb dX11_made_117 rfl (lv_at hl 1 rfl) ?_
                  refine lv_iload_n hx hb dX11_made_118 rfl (lv_at hl 2 rfl) ?_
                  refine lv_iload_n hx hb dX11_made_119 rfl (lv_at hl 3 rfl) ?_
                  refine lv_iload hx hb dX11_made_120 (lv_at hl 4 rfl) ?_
                  obtain ⟨M13, hc14, hf⟩ := nm_sd1 hf
                  refine nm_callv (nm_runV (X := X) (nl := nl) (k_X3_tell hL hN (hf := hc14)) hx hb hml hown hts hs0 hK hZ hH tw_479 tw_476 tw_477 (sw_X3_tell) tw_2 hd_X3_tell (cl_n100 hL) (cl_k100 hL) (by decide) rfl rfl rfl ⟨Nat.le_trans (Nat.le_of_ble_eq_true rfl) hRf, Nat.le_trans (Nat.le_of_ble_eq_true rfl) hRl⟩ rfl hl.1 rfl (Nat.le_of_ble_eq_true rfl) dX11_made_122 ⟨Nat.zero_le _, Nat.zero_le _⟩) hH (fun H locs hH => ?_)
                  have hH : nm_H D Y (fun q => s0 ≤ q) s.heap X nl ad (M13.1, M13.2, N, K) H locs := hH
                  refine lv_iconst (v := 1) hx hb dX11_made_125 (by decide) ?_
                  exact nm_iret hx hb hr hlocks hQ hH (congrArg Prod.fst (Option.some.inj hf)) (congrArg (fun q => (q.2.1, q.2.2, N, K)) (Option.some.inj hf)) dX11_made_126
                refine lv_if_eq (tgt := 113) hx hb dX11_made_91 (by decide) (fun c15 => ?_) (fun c15 => ?_)
                · have hf := nm_it c15 hf
                  exact hJ113  _ _ _ hH (lv_sub hl [0, 1, 2, 3, 4] rfl) hf
                · have hf := nm_ie c15 hf
                  refine lv_iload hx hb dX11_made_94 (lv_at hl 4 rfl) ?_
                  refine lv_if_lt (tgt := 106) hx hb dX11_made_96 (by decide) (fun c16 => ?_) (fun c16 => ?_)
                  · have hf := nm_it c16 hf
                    refine lv_aload_n hx hb dX11_made_106 rfl (lv_at hl 0 rfl) ?_
                    refine lv_bipush (v := -7) hx hb dX11_made_107 (by decide) ?_
                    obtain ⟨r19, M17, hc18, hf⟩ := nm_sd2 hf
                    refine nm_calli (nm_runV (X := X) (nl := nl) (k_X11_refuse hL hN (hf := hc18)) hx hb hml hown hts hs0 hK hZ hH tw_325 tw_322 tw_324 (sw_X11_refuse) tw_1 hd_X11_refuse (cl_n0 hL) (cl_k0 hL) (by decide) rfl rfl rfl ⟨Nat.le_trans (Nat.le_of_ble_eq_true rfl) hRf, Nat.le_trans (Nat.le_of_ble_eq_true rfl) hRl⟩ rfl hl.1 rfl (Nat.le_of_ble_eq_true rfl) dX11_made_109 ⟨Nat.zero_le _, Nat.zero_le _⟩) hH (fun H locs hH => ?_)
                    have hH : nm_H D Y (fun q => s0 ≤ q) s.heap X nl ad (M17.1, M17.2, N, K) H locs := hH
                    exact nm_iret hx hb hr hlocks hQ hH (congrArg Prod.fst (Option.some.inj hf)) (congrArg (fun q => (q.2.1, q.2.2, N, K)) (Option.some.inj hf)) dX11_made_112
                  · have hf := nm_ie c16 hf
                    refine lv_iload hx hb dX11_made_99 (lv_at hl 4 rfl) ?_
                    refine lv_bipush (v := 9) hx hb dX11_made_101 (by decide) ?_
                    refine lv_icmp_le (tgt := 113) hx hb dX11_made_103 (by decide) (fun c20 => ?_) (fun c20 => ?_)
                    · have hf := nm_it c20 hf
                      exact hJ113  _ _ _ hH (lv_sub hl [0, 1, 2, 3, 4] rfl) hf
                    · have hf := nm_ie c20 hf
                      refine lv_aload_n hx hb dX11_made_106 rfl (lv_at hl 0 rfl) ?_
                      refine lv_bipush (v := -7) hx hb dX11_made_107 (by decide) ?_
                      obtain ⟨r23, M21, hc22, hf⟩ := nm_sd2 hf
                      refine nm_calli (nm_runV (X := X) (nl := nl) (k_X11_refuse hL hN (hf := hc22)) hx hb hml hown hts hs0 hK hZ hH tw_325 tw_322 tw_324 (sw_X11_refuse) tw_1 hd_X11_refuse (cl_n0 hL) (cl_k0 hL) (by decide) rfl rfl rfl ⟨Nat.le_trans (Nat.le_of_ble_eq_true rfl) hRf, Nat.le_trans (Nat.le_of_ble_eq_true rfl) hRl⟩ rfl hl.1 rfl (Nat.le_of_ble_eq_true rfl) dX11_made_109 ⟨Nat.zero_le _, Nat.zero_le _⟩) hH (fun H locs hH => ?_)
                      have hH : nm_H D Y (fun q => s0 ≤ q) s.heap X nl ad (M21.1, M21.2, N, K) H locs := hH
                      exact nm_iret hx hb hr hlocks hQ hH (congrArg Prod.fst (Option.some.inj hf)) (congrArg (fun q => (q.2.1, q.2.2, N, K)) (Option.some.inj hf)) dX11_made_112
              refine lv_if_ne (tgt := 89) hx hb dX11_made_81 (by decide) (fun c24 => ?_) (fun c24 => ?_)
              · have hf := nm_ie c24 hf
                exact hJ89  _ _ _ hH (lv_sub hl [0, 1, 2, 3, 4, 5] rfl) hf
              · have hf := nm_it c24 hf
                refine lv_iload hx hb dX11_made_84 (lv_at hl 5 rfl) ?_
                refine lv_if_eq (tgt := 106) hx hb dX11_made_86 (by decide) (fun c25 => ?_) (fun c25 => ?_)
                · have hf := nm_it c25 hf
                  refine lv_aload_n hx hb dX11_made_106 rfl (lv_at hl 0 rfl) ?_
                  refine lv_bipush (v := -7) hx hb dX11_made_107 (by decide) ?_
                  obtain ⟨r28, M26, hc27, hf⟩ := nm_sd2 hf
                  refine nm_calli (nm_runV (X := X) (nl := nl) (k_X11_refuse hL hN (hf := hc27)) hx hb hml hown hts hs0 hK hZ hH tw_325 tw_322 tw_324 (sw_X11_refuse) tw_1 hd_X11_refuse (cl_n0 hL) (cl_k0 hL) (by decide) rfl rfl rfl ⟨Nat.le_trans (Nat.le_of_ble_eq_true rfl) hRf, Nat.le_trans (Nat.le_of_ble_eq_true rfl) hRl⟩ rfl hl.1 rfl (Nat.le_of_ble_eq_true rfl) dX11_made_109 ⟨Nat.zero_le _, Nat.zero_le _⟩) hH (fun H locs hH => ?_)
                  have hH : nm_H D Y (fun q => s0 ≤ q) s.heap X nl ad (M26.1, M26.2, N, K) H locs := hH
                  exact nm_iret hx hb hr hlocks hQ hH (congrArg Prod.fst (Option.some.inj hf)) (congrArg (fun q => (q.2.1, q.2.2, N, K)) (Option.some.inj hf)) dX11_made_112
                · have hf := nm_ie c25 hf
                  exact hJ89  _ _ _ hH (lv_sub hl [0, 1, 2, 3, 4, 5] rfl) hf
            refine lv_if_eq (tgt := 79) hx hb dX11_made_60 (by decide) (fun c29 => ?_) (fun c29 => ?_)
            · have hf := nm_it c29 hf
              exact hJ79  _ _ _ hH (lv_sub hl [1, 2, 3, 4, 5, 6, 0] rfl) hf
            · have hf := nm_ie c29 hf
              refine lv_iload hx hb dX11_made_63 (lv_at hl 5 rfl) ?_
              refine lv_iload_n hx hb dX11_made_65 rfl (lv_at hl 2 rfl) ?_
              refine nm_calli (nm_runS (X := X) (nl := nl) (k_X11_outside hL hN (hf := (rfl : f_X11_outside x4 x1 = _))) hx hb hml hown hts hs0 hK hZ hH tw_321 tw_319 tw_320 tw_1 hd_X11_outside rfl rfl ⟨Nat.le_trans (Nat.le_of_ble_eq_true rfl) hRf, Nat.le_trans (Nat.le_of_ble_eq_true rfl) hRl⟩ rfl hl.1 rfl (Nat.le_of_ble_eq_true rfl) dX11_made_66 ⟨Nat.zero_le _, Nat.zero_le _⟩) hH (fun H locs hH => ?_)
              have hH : nm_H D Y (fun q => s0 ≤ q) s.heap X nl ad (M.1, M.2, N, K) H locs := hH
              refine lv_if_eq (tgt := 79) hx hb dX11_made_69 (by decide) (fun c30 => ?_) (fun c30 => ?_)
              · have hf := nm_it c30 hf
                exact hJ79  _ _ _ hH (lv_sub hl [1, 2, 3, 4, 5, 6, 0] rfl) hf
              · have hf := nm_ie c30 hf
                refine lv_aload_n hx hb dX11_made_72 rfl (lv_at hl 1 rfl) ?_
                refine lv_bipush (v := -3) hx hb dX11_made_73 (by decide) ?_
                obtain ⟨r33, M31, hc32, hf⟩ := nm_sd2 hf
                refine nm_calli (nm_runV (X := X) (nl := nl) (k_X11_refuse hL hN (hf := hc32)) hx hb hml hown hts hs0 hK hZ hH tw_325 tw_322 tw_324 (sw_X11_refuse) tw_1 hd_X11_refuse (cl_n0 hL) (cl_k0 hL) (by decide) rfl rfl rfl ⟨Nat.le_trans (Nat.le_of_ble_eq_true rfl) hRf, Nat.le_trans (Nat.le_of_ble_eq_true rfl) hRl⟩ rfl hl.1 rfl (Nat.le_of_ble_eq_true rfl) dX11_made_75 ⟨Nat.zero_le _, Nat.zero_le _⟩) hH (fun H locs hH => ?_)
                have hH : nm_H D Y (fun q => s0 ≤ q) s.heap X nl ad (M31.1, M31.2, N, K) H locs := hH
                exact nm_iret hx hb hr hlocks hQ hH (congrArg Prod.fst (Option.some.inj hf)) (congrArg (fun q => (q.2.1, q.2.2, N, K)) (Option.some.inj hf)) dX11_made_78
    have hJ35 : ∀  (H : Heap) (locs : List Loc) (ls : Array Slot), nm_H D Y (fun q => s0 ≤ q) s.heap X nl ad (M.1, M.2, N, K) H locs → lv_has ls 7 [(0, .ref (ad 0)), (1, .int x1), (2, .int x2), (3, .int x3), (4, .int x4), (5, .int t15_0)] → f_X11_made_J35 x1 x2 x3 x4 t15_0 M = some (r0, M0) → W p l e R s m args below meth c H locs 0 0 Q (F0 m 35 ls []) := by
      intro  H locs ls hH hl hf
      unfold f_X11_made_J35 at hf
      refine lv_iconst (v := 0) hx hb dX11_made_35 (by decide) ?_
      exact hJ36 (0 : Int32) _ _ _ hH (lv_sub hl [0, 1, 2, 3, 4, 5] rfl) hf
    refine lv_if_ne (tgt := 35) hx hb dX11_made_19 (by decide) (fun c34 => ?_) (fun c34 => ?_)
    · have hf := nm_ie c34 hf
      exact hJ35  _ _ _ hH (lv_sub hl [1, 2, 3, 4, 5, 0] rfl) hf
    · have hf := nm_it c34 hf
      refine lv_iload_n hx hb dX11_made_22 rfl (lv_at hl 3 rfl) ?_
      refine lv_if_lt (tgt := 35) hx hb dX11_made_23 (by decide) (fun c35 => ?_) (fun c35 => ?_)
      · have hf := nm_it c35 hf
        exact hJ35  _ _ _ hH (lv_sub hl [1, 2, 3, 4, 5, 0] rfl) hf
      · have hf := nm_ie c35 hf
        refine lv_iload_n hx hb dX11_made_26 rfl (lv_at hl 3 rfl) ?_
        refine lv_iconst (v := 5) hx hb dX11_made_27 (by decide) ?_
        refine lv_icmp_gt (tgt := 35) hx hb dX11_made_28 (by decide) (fun c36 => ?_) (fun c36 => ?_)
        · have hf := nm_it c36 hf
          exact hJ35  _ _ _ hH (lv_sub hl [1, 2, 3, 4, 5, 0] rfl) hf
        · have hf := nm_ie c36 hf
          refine lv_iconst (v := 1) hx hb dX11_made_31 (by decide) ?_
          refine lv_goto (tgt := 36) hx hb dX11_made_32 (by decide) ?_
          exact hJ36 (1 : Int32) _ _ _ hH (lv_sub hl [1, 2, 3, 4, 5, 0] rfl) hf
  have hJ10 : ∀  (H : Heap) (locs : List Loc) (ls : Array Slot), nm_H D Y (fun q => s0 ≤ q) s.heap X nl ad (M.1, M.2, N, K) H locs → lv_has ls 7 [(0, .ref (ad 0)), (1, .int x1), (2, .int x2), (3, .int x3), (4, .int x4)] → f_X11_made_J10 x1 x2 x3 x4 M = some (r0, M0) → W p l e R s m args below meth c H locs 0 0 Q (F0 m 10 ls []) := by
    intro  H locs ls hH hl hf
    unfold f_X11_made_J10 at hf
    refine lv_iconst (v := 1) hx hb dX11_made_10 (by decide) ?_
    refine lv_goto (tgt := 15) hx hb dX11_made_11 (by decide) ?_
    exact hJ15 (1 : Int32) _ _ _ hH (lv_sub hl [0, 1, 2, 3, 4] rfl) hf
  refine lv_icmp_eq (tgt := 10) hx hb dX11_made_2 (by decide) (fun c37 => ?_) (fun c37 => ?_)
  · have hf := nm_it c37 hf
    exact hJ10  _ _ _ hH (lv_sub hl [0, 1, 2, 3, 4] rfl) hf
  · have hf := nm_ie c37 hf
    refine lv_iload_n hx hb dX11_made_5 rfl (lv_at hl 2 rfl) ?_
    refine lv_iconst (v := 4) hx hb dX11_made_6 (by decide) ?_
    refine lv_icmp_ne (tgt := 14) hx hb dX11_made_7 (by decide) (fun c38 => ?_) (fun c38 => ?_)
    · have hf := nm_ie c38 hf
      refine lv_iconst (v := 0) hx hb dX11_made_14 (by decide) ?_
      exact hJ15 (0 : Int32) _ _ _ hH (lv_sub hl [0, 1, 2, 3, 4] rfl) hf
    · have hf := nm_it c38 hf
      exact hJ10  _ _ _ hH (lv_sub hl [0, 1, 2, 3, 4] rfl) hf
def f_X11_area (x1 : Int32) (M : cm) : Option (Int32 × cm) :=
(if (f_X11_outside x1 (16 : Int32)) = 0 then
(if (M.1 100 0) = 0 then
nm_s2 (f_X11_refuse (-2 : Int32) M) fun r5 M3 =>
some (r5, M3)
else
nm_s1 (f_X3_squaresOf x1 M) fun r6 =>
some (r6, M))
else
nm_s2 (f_X11_refuse (-3 : Int32) M) fun r10 M8 =>
some (r10, M8))
set_option maxHeartbeats 4000000 in
set_option maxRecDepth 100000 in
theorem k_X11_area {l : Launch} {D : va_G} {Y : nm_Y} {s0 : Nat} {X : va_W} {ad : Nat → Nat} {nl : List Nat} {N K : Nat → Nat} (hL : cl_L nl K) (hN : cl_N N) {x1 : Int32} {M : cm} {r0 : Int32} {M0 : cm} (hf : f_X11_area x1 M = some (r0, M0)) :
    nm_Met l yX11_area cX11_area 2 (some .int) { frames := 2, cells := 0, slots := 0, locals := 44 } [.ref (ad 0), .int x1] D Y s0 (nm_W Y X nl ad (M.1, M.2, N, K)) (nm_Qi D s0 r0 (nm_W Y X nl ad (M0.1, M0.2, N, K))) 0 0 := by
  refine nm_of (by decide) (Nat.le_of_ble_eq_true rfl) ?_
  intro p e R s m args below meth c Q ls hx hb hr hlocks hml hown hts hs0 hK hZ hRf hRl hRc hRs hQ hP hD hl
  have hH : nm_H D Y (fun q => s0 ≤ q) s.heap X nl ad (M.1, M.2, N, K) s.heap [] := ⟨hP, hD, va_S.rf⟩
  have hl : lv_has ls 2 [(0, .ref (ad 0)), (1, .int x1)] := hl
  unfold f_X11_area at hf
  refine lv_iload_n hx hb dX11_area_0 rfl (lv_at hl 1 rfl) ?_
  refine lv_bipush (v := 16) hx hb dX11_area_1 (by decide) ?_
  refine nm_calli (nm_runS (X := X) (nl := nl) (k_X11_outside hL hN (hf := (rfl : f_X11_outside x1 (16 : Int32) = _))) hx hb hml hown hts hs0 hK hZ hH tw_321 tw_319 tw_320 tw_1 hd_X11_outside rfl rfl ⟨Nat.le_trans (Nat.le_of_ble_eq_true rfl) hRf, Nat.le_trans (Nat.le_of_ble_eq_true rfl) hRl⟩ rfl hl.1 rfl (Nat.le_of_ble_eq_true rfl) dX11_area_3 ⟨Nat.zero_le _, Nat.zero_le _⟩) hH (fun H locs hH => ?_)
  have hH : nm_H D Y (fun q => s0 ≤ q) s.heap X nl ad (M.1, M.2, N, K) H locs := hH
  refine lv_if_eq (tgt := 16) hx hb dX11_area_6 (by decide) (fun c1 => ?_) (fun c1 => ?_)
  · have hf := nm_it c1 hf
    refine lv_aload_n hx hb dX11_area_16 rfl (lv_at hl 0 rfl) ?_
    refine gf_11_1 hK hx hb hts hown hH (cl_n0 hL) (cl_k0 hL) (hts _ tw_288) (fun _ h9 => h9) dX11_area_17 ?_
    refine gf_3_0 hK hx hb hts hown hH (cl_n100 hL) (cl_k100 hL) (hts _ tw_84) (fun _ h9 => h9) dX11_area_20 ?_
    refine lv_if_eq (tgt := 37) hx hb dX11_area_23 (by decide) (fun c2 => ?_) (fun c2 => ?_)
    · have hf := nm_it c2 hf
      refine lv_aload_n hx hb dX11_area_37 rfl (lv_at hl 0 rfl) ?_
      refine lv_bipush (v := -2) hx hb dX11_area_38 (by decide) ?_
      obtain ⟨r5, M3, hc4, hf⟩ := nm_sd2 hf
      refine nm_calli (nm_runV (X := X) (nl := nl) (k_X11_refuse hL hN (hf := hc4)) hx hb hml hown hts hs0 hK hZ hH tw_325 tw_322 tw_324 (sw_X11_refuse) tw_1 hd_X11_refuse (cl_n0 hL) (cl_k0 hL) (by decide) rfl rfl rfl ⟨Nat.le_trans (Nat.le_of_ble_eq_true rfl) hRf, Nat.le_trans (Nat.le_of_ble_eq_true rfl) hRl⟩ rfl hl.1 rfl (Nat.le_of_ble_eq_true rfl) dX11_area_40 ⟨Nat.zero_le _, Nat.zero_le _⟩) hH (fun H locs hH => ?_)
      have hH : nm_H D Y (fun q => s0 ≤ q) s.heap X nl ad (M3.1, M3.2, N, K) H locs := hH
      exact nm_iret hx hb hr hlocks hQ hH (congrArg Prod.fst (Option.some.inj hf)) (congrArg (fun q => (q.2.1, q.2.2, N, K)) (Option.some.inj hf)) dX11_area_43
    · have hf := nm_ie c2 hf
      refine lv_aload_n hx hb dX11_area_26 rfl (lv_at hl 0 rfl) ?_
      refine gf_11_1 hK hx hb hts hown hH (cl_n0 hL) (cl_k0 hL) (hts _ tw_288) (fun _ h9 => h9) dX11_area_27 ?_
      refine lv_iload_n hx hb dX11_area_30 rfl (lv_at hl 1 rfl) ?_
      obtain ⟨r6, hc7, hf⟩ := nm_sd1 hf
      refine nm_calli (nm_runV (X := X) (nl := nl) (k_X3_squaresOf hL hN (hf := hc7)) hx hb hml hown hts hs0 hK hZ hH tw_671 tw_677 tw_669 (sw_X3_squaresOf) tw_2 hd_X3_squaresOf (cl_n100 hL) (cl_k100 hL) (by decide) rfl rfl rfl ⟨Nat.le_trans (Nat.le_of_ble_eq_true rfl) hRf, Nat.le_trans (Nat.le_of_ble_eq_true rfl) hRl⟩ rfl hl.1 rfl (Nat.le_of_ble_eq_true rfl) dX11_area_31 ⟨Nat.zero_le _, Nat.zero_le _⟩) hH (fun H locs hH => ?_)
      have hH : nm_H D Y (fun q => s0 ≤ q) s.heap X nl ad (M.1, M.2, N, K) H locs := hH
      refine lv_goto (tgt := 43) hx hb dX11_area_34 (by decide) ?_
      exact nm_iret hx hb hr hlocks hQ hH (congrArg Prod.fst (Option.some.inj hf)) (congrArg (fun q => (q.2.1, q.2.2, N, K)) (Option.some.inj hf)) dX11_area_43
  · have hf := nm_ie c1 hf
    refine lv_aload_n hx hb dX11_area_9 rfl (lv_at hl 0 rfl) ?_
    refine lv_bipush (v := -3) hx hb dX11_area_10 (by decide) ?_
    obtain ⟨r10, M8, hc9, hf⟩ := nm_sd2 hf
    refine nm_calli (nm_runV (X := X) (nl := nl) (k_X11_refuse hL hN (hf := hc9)) hx hb hml hown hts hs0 hK hZ hH tw_325 tw_322 tw_324 (sw_X11_refuse) tw_1 hd_X11_refuse (cl_n0 hL) (cl_k0 hL) (by decide) rfl rfl rfl ⟨Nat.le_trans (Nat.le_of_ble_eq_true rfl) hRf, Nat.le_trans (Nat.le_of_ble_eq_true rfl) hRl⟩ rfl hl.1 rfl (Nat.le_of_ble_eq_true rfl) dX11_area_12 ⟨Nat.zero_le _, Nat.zero_le _⟩) hH (fun H locs hH => ?_)
    have hH : nm_H D Y (fun q => s0 ≤ q) s.heap X nl ad (M8.1, M8.2, N, K) H locs := hH
    exact nm_iret hx hb hr hlocks hQ hH (congrArg Prod.fst (Option.some.inj hf)) (congrArg (fun q => (q.2.1, q.2.2, N, K)) (Option.some.inj hf)) dX11_area_15
def f_X11_covered (x1 : Int32) (x2 : Int32) (M : cm) : Option (Int32 × cm) :=
(if (f_X11_outside x1 (16 : Int32)) = 0 then
(if (f_X11_outside x2 (4096 : Int32)) = 0 then
(if (M.1 100 0) = 0 then
nm_s2 (f_X11_refuse (-2 : Int32) M) fun r10 M8 =>
some (r10, M8)
else
nm_c (((64 : Int32) * x1) + (x2 / (64 : Int32))) 1024 (
some (((nm_shr (M.2 101 (((64 : Int32) * x1) + (x2 / (64 : Int32))).toNatClampNeg) (x2 - x2 / (64 : Int32) * (64 : Int32))) &&& (1 : Int64)).toInt32, M)))
else
nm_s2 (f_X11_refuse (-3 : Int32) M) fun r13 M11 =>
some (r13, M11))
else
nm_s2 (f_X11_refuse (-3 : Int32) M) fun r4 M2 =>
some (r4, M2))
set_option maxHeartbeats 4000000 in
set_option maxRecDepth 100000 in
theorem k_X11_covered {l : Launch} {D : va_G} {Y : nm_Y} {s0 : Nat} {X : va_W} {ad : Nat → Nat} {nl : List Nat} {N K : Nat → Nat} (hL : cl_L nl K) (hN : cl_N N) {x1 : Int32} {x2 : Int32} {M : cm} {r0 : Int32} {M0 : cm} (hf : f_X11_covered x1 x2 M = some (r0, M0)) :
    nm_Met l yX11_covered cX11_covered 3 (some .int) { frames := 1, cells := 0, slots := 0, locals := 21 } [.ref (ad 0), .int x1, .int x2] D Y s0 (nm_W Y X nl ad (M.1, M.2, N, K)) (nm_Qi D s0 r0 (nm_W Y X nl ad (M0.1, M0.2, N, K))) 0 0 := by
  refine nm_of (by decide) (Nat.le_of_ble_eq_true rfl) ?_
  intro p e R s m args below meth c Q ls hx hb hr hlocks hml hown hts hs0 hK hZ hRf hRl hRc hRs hQ hP hD hl
  have hH : nm_H D Y (fun q => s0 ≤ q) s.heap X nl ad (M.1, M.2, N, K) s.heap [] := ⟨hP, hD, va_S.rf⟩
  have hl : lv_has ls 3 [(0, .ref (ad 0)), (1, .int x1), (2, .int x2)] := hl
  unfold f_X11_covered at hf
  refine lv_iload_n hx hb dX11_covered_0 rfl (lv_at hl 1 rfl) ?_
  refine lv_bipush (v := 16) hx hb dX11_covered_1 (by decide) ?_
  refine nm_calli (nm_runS (X := X) (nl := nl) (k_X11_outside hL hN (hf := (rfl : f_X11_outside x1 (16 : Int32) = _))) hx hb hml hown hts hs0 hK hZ hH tw_321 tw_319 tw_320 tw_1 hd_X11_outside rfl rfl ⟨Nat.le_trans (Nat.le_of_ble_eq_true rfl) hRf, Nat.le_trans (Nat.le_of_ble_eq_true rfl) hRl⟩ rfl hl.1 rfl (Nat.le_of_ble_eq_true rfl) dX11_covered_3 ⟨Nat.zero_le _, Nat.zero_le _⟩) hH (fun H locs hH => ?_)
  have hH : nm_H D Y (fun q => s0 ≤ q) s.heap X nl ad (M.1, M.2, N, K) H locs := hH
  refine lv_if_ne (tgt := 19) hx hb dX11_covered_6 (by decide) (fun c1 => ?_) (fun c1 => ?_)
  · have hf := nm_ie c1 hf
    refine lv_aload_n hx hb dX11_covered_19 rfl (lv_at hl 0 rfl) ?_
    refine lv_bipush (v := -3) hx hb dX11_covered_20 (by decide) ?_
    obtain ⟨r4, M2, hc3, hf⟩ := nm_sd2 hf
    refine nm_calli (nm_runV (X := X) (nl := nl) (k_X11_refuse hL hN (hf := hc3)) hx hb hml hown hts hs0 hK hZ hH tw_325 tw_322 tw_324 (sw_X11_refuse) tw_1 hd_X11_refuse (cl_n0 hL) (cl_k0 hL) (by decide) rfl rfl rfl ⟨Nat.le_trans (Nat.le_of_ble_eq_true rfl) hRf, Nat.le_trans (Nat.le_of_ble_eq_true rfl) hRl⟩ rfl hl.1 rfl (Nat.le_of_ble_eq_true rfl) dX11_covered_22 ⟨Nat.zero_le _, Nat.zero_le _⟩) hH (fun H locs hH => ?_)
    have hH : nm_H D Y (fun q => s0 ≤ q) s.heap X nl ad (M2.1, M2.2, N, K) H locs := hH
    exact nm_iret hx hb hr hlocks hQ hH (congrArg Prod.fst (Option.some.inj hf)) (congrArg (fun q => (q.2.1, q.2.2, N, K)) (Option.some.inj hf)) dX11_covered_25
  · have hf := nm_it c1 hf
    refine lv_iload_n hx hb dX11_covered_9 rfl (lv_at hl 2 rfl) ?_
    refine lv_sipush (v := 4096) hx hb dX11_covered_10 (by decide) ?_
    refine nm_calli (nm_runS (X := X) (nl := nl) (k_X11_outside hL hN (hf := (rfl : f_X11_outside x2 (4096 : Int32) = _))) hx hb hml hown hts hs0 hK hZ hH tw_321 tw_319 tw_320 tw_1 hd_X11_outside rfl rfl ⟨Nat.le_trans (Nat.le_of_ble_eq_true rfl) hRf, Nat.le_trans (Nat.le_of_ble_eq_true rfl) hRl⟩ rfl hl.1 rfl (Nat.le_of_ble_eq_true rfl) dX11_covered_13 ⟨Nat.zero_le _, Nat.zero_le _⟩) hH (fun H locs hH => ?_)
    have hH : nm_H D Y (fun q => s0 ≤ q) s.heap X nl ad (M.1, M.2, N, K) H locs := hH
    refine lv_if_eq (tgt := 26) hx hb dX11_covered_16 (by decide) (fun c5 => ?_) (fun c5 => ?_)
    · have hf := nm_it c5 hf
      refine lv_aload_n hx hb dX11_covered_26 rfl (lv_at hl 0 rfl) ?_
      refine gf_11_1 hK hx hb hts hown hH (cl_n0 hL) (cl_k0 hL) (hts _ tw_288) (fun _ h9 => h9) dX11_covered_27 ?_
      refine gf_3_0 hK hx hb hts hown hH (cl_n100 hL) (cl_k100 hL) (hts _ tw_84) (fun _ h9 => h9) dX11_covered_30 ?_
      refine lv_if_ne (tgt := 43) hx hb dX11_covered_33 (by decide) (fun c6 => ?_) (fun c6 => ?_)
      · have hf := nm_ie c6 hf
        refine lv_aload_n hx hb dX11_covered_43 rfl (lv_at hl 0 rfl) ?_
        refine gf_11_1 hK hx hb hts hown hH (cl_n0 hL) (cl_k0 hL) (hts _ tw_288) (fun _ h9 => h9) dX11_covered_44 ?_
        refine gf_3_1 hK hx hb hts hown hH (cl_n100 hL) (cl_k100 hL) (hts _ tw_88) (fun _ h9 => h9) dX11_covered_47 ?_
        refine lv_bipush (v := 64) hx hb dX11_covered_50 (by decide) ?_
        refine lv_iload_n hx hb dX11_covered_52 rfl (lv_at hl 1 rfl) ?_
        refine lv_imul hx hb dX11_covered_53 ?_
        refine lv_iload_n hx hb dX11_covered_54 rfl (lv_at hl 2 rfl) ?_
        refine lv_bipush (v := 64) hx hb dX11_covered_55 (by decide) ?_
        refine lv_idiv hx hb dX11_covered_57 (by decide) ?_
        refine lv_iadd hx hb dX11_covered_58 ?_
        obtain ⟨hi7, hf⟩ := nm_chk hf
        refine nm_lald hx hb hK hH (cl_n101 hL) (cl_k101 hL) (cl_l101 hN) hi7 dX11_covered_59 ?_
        refine lv_iload_n hx hb dX11_covered_60 rfl (lv_at hl 2 rfl) ?_
        refine lv_bipush (v := 64) hx hb dX11_covered_61 (by decide) ?_
        refine lv_irem hx hb dX11_covered_63 (by decide) ?_
        refine lv_lushr (v := nm_shr (M.2 101 (((64 : Int32) * x1) + (x2 / (64 : Int32))).toNatClampNeg) (x2 - x2 / (64 : Int32) * (64 : Int32))) hx hb dX11_covered_64 rfl ?_
        refine lv_lconst (v := 1) hx hb dX11_covered_65 (by decide) ?_
        refine lv_land hx hb dX11_covered_66 ?_
        refine lv_l2i hx hb dX11_covered_67 rfl ?_
        exact nm_iret hx hb hr hlocks hQ hH (congrArg Prod.fst (Option.some.inj hf)) (congrArg (fun q => (q.2.1, q.2.2, N, K)) (Option.some.inj hf)) dX11_covered_68
      · have hf := nm_it c6 hf
        refine lv_aload_n hx hb dX11_covered_36 rfl (lv_at hl 0 rfl) ?_
        refine lv_bipush (v := -2) hx hb dX11_covered_37 (by decide) ?_
        obtain ⟨r10, M8, hc9, hf⟩ := nm_sd2 hf
        refine nm_calli (nm_runV (X := X) (nl := nl) (k_X11_refuse hL hN (hf := hc9)) hx hb hml hown hts hs0 hK hZ hH tw_325 tw_322 tw_324 (sw_X11_refuse) tw_1 hd_X11_refuse (cl_n0 hL) (cl_k0 hL) (by decide) rfl rfl rfl ⟨Nat.le_trans (Nat.le_of_ble_eq_true rfl) hRf, Nat.le_trans (Nat.le_of_ble_eq_true rfl) hRl⟩ rfl hl.1 rfl (Nat.le_of_ble_eq_true rfl) dX11_covered_39 ⟨Nat.zero_le _, Nat.zero_le _⟩) hH (fun H locs hH => ?_)
        have hH : nm_H D Y (fun q => s0 ≤ q) s.heap X nl ad (M8.1, M8.2, N, K) H locs := hH
        exact nm_iret hx hb hr hlocks hQ hH (congrArg Prod.fst (Option.some.inj hf)) (congrArg (fun q => (q.2.1, q.2.2, N, K)) (Option.some.inj hf)) dX11_covered_42
    · have hf := nm_ie c5 hf
      refine lv_aload_n hx hb dX11_covered_19 rfl (lv_at hl 0 rfl) ?_
      refine lv_bipush (v := -3) hx hb dX11_covered_20 (by decide) ?_
      obtain ⟨r13, M11, hc12, hf⟩ := nm_sd2 hf
      refine nm_calli (nm_runV (X := X) (nl := nl) (k_X11_refuse hL hN (hf := hc12)) hx hb hml hown hts hs0 hK hZ hH tw_325 tw_322 tw_324 (sw_X11_refuse) tw_1 hd_X11_refuse (cl_n0 hL) (cl_k0 hL) (by decide) rfl rfl rfl ⟨Nat.le_trans (Nat.le_of_ble_eq_true rfl) hRf, Nat.le_trans (Nat.le_of_ble_eq_true rfl) hRl⟩ rfl hl.1 rfl (Nat.le_of_ble_eq_true rfl) dX11_covered_22 ⟨Nat.zero_le _, Nat.zero_le _⟩) hH (fun H locs hH => ?_)
      have hH : nm_H D Y (fun q => s0 ≤ q) s.heap X nl ad (M11.1, M11.2, N, K) H locs := hH
      exact nm_iret hx hb hr hlocks hQ hH (congrArg Prod.fst (Option.some.inj hf)) (congrArg (fun q => (q.2.1, q.2.2, N, K)) (Option.some.inj hf)) dX11_covered_25
def f_X11_rule_J46 (x1 : Int32) (x2 : Int32) (x3 : Int32) (x4 : Int32) (M : cm) : Option (Int32 × cm) :=
(if x4 < 0 then
nm_s2 (f_X11_refuse (-7 : Int32) M) fun r13 M11 =>
some (r13, M11)
else
(if x4 ≤ (f_X8_greatest x1) then
(if (M.1 200 0) < (16 : Int32) then
nm_s2 (f_X8_add x1 x2 x3 x4 M) fun r18 M16 =>
some (r18, M16)
else
nm_s2 (f_X11_refuse (-8 : Int32) M) fun r21 M19 =>
some (r21, M19))
else
nm_s2 (f_X11_refuse (-7 : Int32) M) fun r24 M22 =>
some (r24, M22)))
def f_X11_rule (x1 : Int32) (x2 : Int32) (x3 : Int32) (x4 : Int32) (M : cm) : Option (Int32 × cm) :=
(if x1 < 0 then
nm_s2 (f_X11_refuse (-7 : Int32) M) fun r4 M2 =>
some (r4, M2)
else
(if x1 ≤ (4 : Int32) then
(if (f_X11_outside x2 (16 : Int32)) = 0 then
(if x1 = (2 : Int32) then
(if (f_X11_outside x3 (16 : Int32)) = 0 then
f_X11_rule_J46 x1 x2 x3 x4 M
else
nm_s2 (f_X11_refuse (-3 : Int32) M) fun r29 M27 =>
some (r29, M27))
else
f_X11_rule_J46 x1 x2 x3 x4 M)
else
nm_s2 (f_X11_refuse (-3 : Int32) M) fun r9 M7 =>
some (r9, M7))
else
nm_s2 (f_X11_refuse (-7 : Int32) M) fun r32 M30 =>
some (r32, M30)))
set_option maxHeartbeats 4000000 in
set_option maxRecDepth 100000 in
theorem k_X11_rule {l : Launch} {D : va_G} {Y : nm_Y} {s0 : Nat} {X : va_W} {ad : Nat → Nat} {nl : List Nat} {N K : Nat → Nat} (hL : cl_L nl K) (hN : cl_N N) {x1 : Int32} {x2 : Int32} {x3 : Int32} {x4 : Int32} {M : cm} {r0 : Int32} {M0 : cm} (hf : f_X11_rule x1 x2 x3 x4 M = some (r0, M0)) :
    nm_Met l yX11_rule cX11_rule 5 (some .int) { frames := 1, cells := 0, slots := 0, locals := 24 } [.ref (ad 0), .int x1, .int x2, .int x3, .int x4] D Y s0 (nm_W Y X nl ad (M.1, M.2, N, K)) (nm_Qi D s0 r0 (nm_W Y X nl ad (M0.1, M0.2, N, K))) 0 0 := by
  refine nm_of (by decide) (Nat.le_of_ble_eq_true rfl) ?_
  intro p e R s m args below meth c Q ls hx hb hr hlocks hml hown hts hs0 hK hZ hRf hRl hRc hRs hQ hP hD hl
  have hH : nm_H D Y (fun q => s0 ≤ q) s.heap X nl ad (M.1, M.2, N, K) s.heap [] := ⟨hP, hD, va_S.rf⟩
  have hl : lv_has ls 5 [(0, .ref (ad 0)), (1, .int x1), (2, .int x2), (3, .int x3), (4, .int x4)] := hl
  unfold f_X11_rule at hf
  refine lv_iload_n hx hb dX11_rule_0 rfl (lv_at hl 1 rfl) ?_
  refine lv_if_lt (tgt := 9) hx hb dX11_rule_1 (by decide) (fun c1 => ?_) (fun c1 => ?_)
  · have hf := nm_it c1 hf
    refine lv_aload_n hx hb dX11_rule_9 rfl (lv_at hl 0 rfl) ?_
    refine lv_bipush (v := -7) hx hb dX11_rule_10 (by decide) ?_
    obtain ⟨r4, M2, hc3, hf⟩ := nm_sd2 hf
    refine nm_calli (nm_runV (X := X) (nl := nl) (k_X11_refuse hL hN (hf := hc3)) hx hb hml hown hts hs0 hK hZ hH tw_325 tw_322 tw_324 (sw_X11_refuse) tw_1 hd_X11_refuse (cl_n0 hL) (cl_k0 hL) (by decide) rfl rfl rfl ⟨Nat.le_trans (Nat.le_of_ble_eq_true rfl) hRf, Nat.le_trans (Nat.le_of_ble_eq_true rfl) hRl⟩ rfl hl.1 rfl (Nat.le_of_ble_eq_true rfl) dX11_rule_12 ⟨Nat.zero_le _, Nat.zero_le _⟩) hH (fun H locs hH => ?_)
    have hH : nm_H D Y (fun q => s0 ≤ q) s.heap X nl ad (M2.1, M2.2, N, K) H locs := hH
    exact nm_iret hx hb hr hlocks hQ hH (congrArg Prod.fst (Option.some.inj hf)) (congrArg (fun q => (q.2.1, q.2.2, N, K)) (Option.some.inj hf)) dX11_rule_15
  · have hf := nm_ie c1 hf
    refine lv_iload_n hx hb dX11_rule_4 rfl (lv_at hl 1 rfl) ?_
    refine lv_iconst (v := 4) hx hb dX11_rule_5 (by decide) ?_
    refine lv_icmp_le (tgt := 16) hx hb dX11_rule_6 (by decide) (fun c5 => ?_) (fun c5 => ?_)
    · have hf := nm_it c5 hf
      refine lv_iload_n hx hb dX11_rule_16 rfl (lv_at hl 2 rfl) ?_
      refine lv_bipush (v := 16) hx hb dX11_rule_17 (by decide) ?_
      refine nm_calli (nm_runS (X := X) (nl := nl) (k_X11_outside hL hN (hf := (rfl : f_X11_outside x2 (16 : Int32) = _))) hx hb hml hown hts hs0 hK hZ hH tw_321 tw_319 tw_320 tw_1 hd_X11_outside rfl rfl ⟨Nat.le_trans (Nat.le_of_ble_eq_true rfl) hRf, Nat.le_trans (Nat.le_of_ble_eq_true rfl) hRl⟩ rfl hl.1 rfl (Nat.le_of_ble_eq_true rfl) dX11_rule_19 ⟨Nat.zero_le _, Nat.zero_le _⟩) hH (fun H locs hH => ?_)
      have hH : nm_H D Y (fun q => s0 ≤ q) s.heap X nl ad (M.1, M.2, N, K) H locs := hH
      refine lv_if_ne (tgt := 39) hx hb dX11_rule_22 (by decide) (fun c6 => ?_) (fun c6 => ?_)
      · have hf := nm_ie c6 hf
        refine lv_aload_n hx hb dX11_rule_39 rfl (lv_at hl 0 rfl) ?_
        refine lv_bipush (v := -3) hx hb dX11_rule_40 (by decide) ?_
        obtain ⟨r9, M7, hc8, hf⟩ := nm_sd2 hf
        refine nm_calli (nm_runV (X := X) (nl := nl) (k_X11_refuse hL hN (hf := hc8)) hx hb hml hown hts hs0 hK hZ hH tw_325 tw_322 tw_324 (sw_X11_refuse) tw_1 hd_X11_refuse (cl_n0 hL) (cl_k0 hL) (by decide) rfl rfl rfl ⟨Nat.le_trans (Nat.le_of_ble_eq_true rfl) hRf, Nat.le_trans (Nat.le_of_ble_eq_true rfl) hRl⟩ rfl hl.1 rfl (Nat.le_of_ble_eq_true rfl) dX11_rule_42 ⟨Nat.zero_le _, Nat.zero_le _⟩) hH (fun H locs hH => ?_)
        have hH : nm_H D Y (fun q => s0 ≤ q) s.heap X nl ad (M7.1, M7.2, N, K) H locs := hH
        exact nm_iret hx hb hr hlocks hQ hH (congrArg Prod.fst (Option.some.inj hf)) (congrArg (fun q => (q.2.1, q.2.2, N, K)) (Option.some.inj hf)) dX11_rule_45
      · have hf := nm_it c6 hf
        refine lv_iload_n hx hb dX11_rule_25 rfl (lv_at hl 1 rfl) ?_
        refine lv_iconst (v := 2) hx hb dX11_rule_26 (by decide) ?_
        have hJ46 : ∀  (H : Heap) (locs : List Loc) (ls : Array Slot), nm_H D Y (fun q => s0 ≤ q) s.heap X nl ad (M.1, M.2, N, K) H locs → lv_has ls 5 [(0, .ref (ad 0)), (1, .int x1), (2, .int x2), (3, .int x3), (4, .int x4)] → f_X11_rule_J46 x1 x2 x3 x4 M = some (r0, M0) → W p l e R s m args below meth c H locs 0 0 Q (F0 m 46 ls []) := by
          intro  H locs ls hH hl hf
          unfold f_X11_rule_J46 at hf
          refine lv_iload hx hb dX11_rule_46 (lv_at hl 4 rfl) ?_
          refine lv_if_lt (tgt := 60) hx hb dX11_rule_48 (by decide) (fun c10 => ?_) (fun c10 => ?_)
          · have hf := nm_it c10 hf
            refine lv_aload_n hx hb dX11_rule_60 rfl (lv_at hl 0 rfl) ?_
            refine lv_bipush (v := -7) hx hb dX11_rule_61 (by decide) ?_
            obtain ⟨r13, M11, hc12, hf⟩ := nm_sd2 hf
            refine nm_calli (nm_runV (X := X) (nl := nl) (k_X11_refuse hL hN (hf := hc12)) hx hb hml hown hts hs0 hK hZ hH tw_325 tw_322 tw_324 (sw_X11_refuse) tw_1 hd_X11_refuse (cl_n0 hL) (cl_k0 hL) (by decide) rfl rfl rfl ⟨Nat.le_trans (Nat.le_of_ble_eq_true rfl) hRf, Nat.le_trans (Nat.le_of_ble_eq_true rfl) hRl⟩ rfl hl.1 rfl (Nat.le_of_ble_eq_true rfl) dX11_rule_63 ⟨Nat.zero_le _, Nat.zero_le _⟩) hH (fun H locs hH => ?_)
            have hH : nm_H D Y (fun q => s0 ≤ q) s.heap X nl ad (M11.1, M11.2, N, K) H locs := hH
            exact nm_iret hx hb hr hlocks hQ hH (congrArg Prod.fst (Option.some.inj hf)) (congrArg (fun q => (q.2.1, q.2.2, N, K)) (Option.some.inj hf)) dX11_rule_66
          · have hf := nm_ie c10 hf
            refine lv_iload hx hb dX11_rule_51 (lv_at hl 4 rfl) ?_
            refine lv_iload_n hx hb dX11_rule_53 rfl (lv_at hl 1 rfl) ?_
            refine nm_calli (nm_runS (X := X) (nl := nl) (k_X8_greatest hL hN (hf := (rfl : f_X8_greatest x1 = _))) hx hb hml hown hts hs0 hK hZ hH tw_696 tw_694 tw_695 tw_5 hd_X8_greatest rfl rfl ⟨Nat.le_trans (Nat.le_of_ble_eq_true rfl) hRf, Nat.le_trans (Nat.le_of_ble_eq_true rfl) hRl⟩ rfl hl.1 rfl (Nat.le_of_ble_eq_true rfl) dX11_rule_54 ⟨Nat.zero_le _, Nat.zero_le _⟩) hH (fun H locs hH => ?_)
            have hH : nm_H D Y (fun q => s0 ≤ q) s.heap X nl ad (M.1, M.2, N, K) H locs := hH
            refine lv_icmp_le (tgt := 67) hx hb dX11_rule_57 (by decide) (fun c14 => ?_) (fun c14 => ?_)
            · have hf := nm_it c14 hf
              refine lv_aload_n hx hb dX11_rule_67 rfl (lv_at hl 0 rfl) ?_
              refine gf_11_2 hK hx hb hts hown hH (cl_n0 hL) (cl_k0 hL) (hts _ tw_289) (fun _ h9 => h9) dX11_rule_68 ?_
              refine gf_8_0 hK hx hb hts hown hH (cl_n200 hL) (cl_k200 hL) (hts _ tw_121) (fun _ h9 => h9) dX11_rule_71 ?_
              refine lv_bipush (v := 16) hx hb dX11_rule_74 (by decide) ?_
              refine lv_icmp_lt (tgt := 86) hx hb dX11_rule_76 (by decide) (fun c15 => ?_) (fun c15 => ?_)
              · have hf := nm_it c15 hf
                refine lv_aload_n hx hb dX11_rule_86 rfl (lv_at hl 0 rfl) ?_
                refine gf_11_2 hK hx hb hts hown hH (cl_n0 hL) (cl_k0 hL) (hts _ tw_289) (fun _ h9 => h9) dX11_rule_87 ?_
                refine lv_iload_n hx hb dX11_rule_90 rfl (lv_at hl 1 rfl) ?_
                refine lv_iload_n hx hb dX11_rule_91 rfl (lv_at hl 2 rfl) ?_
                refine lv_iload_n hx hb dX11_rule_92 rfl (lv_at hl 3 rfl) ?_
                refine lv_iload hx hb dX11_rule_93 (lv_at hl 4 rfl) ?_
                obtain ⟨r18, M16, hc17, hf⟩ := nm_sd2 hf
                refine nm_calli (nm_runV (X := X) (nl := nl) (k_X8_add hL hN (hf := hc17)) hx hb hml hown hts hs0 hK hZ hH tw_700 tw_697 tw_698 (sw_X8_add) tw_5 hd_X8_add (cl_n200 hL) (cl_k200 hL) (by decide) rfl rfl rfl ⟨Nat.le_trans (Nat.le_of_ble_eq_true rfl) hRf, Nat.le_trans (Nat.le_of_ble_eq_true rfl) hRl⟩ rfl hl.1 rfl (Nat.le_of_ble_eq_true rfl) dX11_rule_95 ⟨Nat.zero_le _, Nat.zero_le _⟩) hH (fun H locs hH => ?_)
                have hH : nm_H D Y (fun q => s0 ≤ q) s.heap X nl ad (M16.1, M16.2, N, K) H locs := hH
                exact nm_iret hx hb hr hlocks hQ hH (congrArg Prod.fst (Option.some.inj hf)) (congrArg (fun q => (q.2.1, q.2.2, N, K)) (Option.some.inj hf)) dX11_rule_98
              · have hf := nm_ie c15 hf
                refine lv_aload_n hx hb dX11_rule_79 rfl (lv_at hl 0 rfl) ?_
                refine lv_bipush (v := -8) hx hb dX11_rule_80 (by decide) ?_
                obtain ⟨r21, M19, hc20, hf⟩ := nm_sd2 hf
                refine nm_calli (nm_runV (X := X) (nl := nl) (k_X11_refuse hL hN (hf := hc20)) hx hb hml hown hts hs0 hK hZ hH tw_325 tw_322 tw_324 (sw_X11_refuse) tw_1 hd_X11_refuse (cl_n0 hL) (cl_k0 hL) (by decide) rfl rfl rfl ⟨Nat.le_trans (Nat.le_of_ble_eq_true rfl) hRf, Nat.le_trans (Nat.le_of_ble_eq_true rfl) hRl⟩ rfl hl.1 rfl (Nat.le_of_ble_eq_true rfl) dX11_rule_82 ⟨Nat.zero_le _, Nat.zero_le _⟩) hH (fun H locs hH => ?_)
                have hH : nm_H D Y (fun q => s0 ≤ q) s.heap X nl ad (M19.1, M19.2, N, K) H locs := hH
                exact nm_iret hx hb hr hlocks hQ hH (congrArg Prod.fst (Option.some.inj hf)) (congrArg (fun q => (q.2.1, q.2.2, N, K)) (Option.some.inj hf)) dX11_rule_85
            · have hf := nm_ie c14 hf
              refine lv_aload_n hx hb dX11_rule_60 rfl (lv_at hl 0 rfl) ?_
              refine lv_bipush (v := -7) hx hb dX11_rule_61 (by decide) ?_
              obtain ⟨r24, M22, hc23, hf⟩ := nm_sd2 hf
              refine nm_calli (nm_runV (X := X) (nl := nl) (k_X11_refuse hL hN (hf := hc23)) hx hb hml hown hts hs0 hK hZ hH tw_325 tw_322 tw_324 (sw_X11_refuse) tw_1 hd_X11_refuse (cl_n0 hL) (cl_k0 hL) (by decide) rfl rfl rfl ⟨Nat.le_trans (Nat.le_of_ble_eq_true rfl) hRf, Nat.le_trans (Nat.le_of_ble_eq_true rfl) hRl⟩ rfl hl.1 rfl (Nat.le_of_ble_eq_true rfl) dX11_rule_63 ⟨Nat.zero_le _, Nat.zero_le _⟩) hH (fun H locs hH => ?_)
              have hH : nm_H D Y (fun q => s0 ≤ q) s.heap X nl ad (M22.1, M22.2, N, K) H locs := hH
              exact nm_iret hx hb hr hlocks hQ hH (congrArg Prod.fst (Option.some.inj hf)) (congrArg (fun q => (q.2.1, q.2.2, N, K)) (Option.some.inj hf)) dX11_rule_66
        refine lv_icmp_ne (tgt := 46) hx hb dX11_rule_27 (by decide) (fun c25 => ?_) (fun c25 => ?_)
        · have hf := nm_ie c25 hf
          exact hJ46  _ _ _ hH (lv_sub hl [0, 1, 2, 3, 4] rfl) hf
        · have hf := nm_it c25 hf
          refine lv_iload_n hx hb dX11_rule_30 rfl (lv_at hl 3 rfl) ?_
          refine lv_bipush (v := 16) hx hb dX11_rule_31 (by decide) ?_
          refine nm_calli (nm_runS (X := X) (nl := nl) (k_X11_outside hL hN (hf := (rfl : f_X11_outside x3 (16 : Int32) = _))) hx hb hml hown hts hs0 hK hZ hH tw_321 tw_319 tw_320 tw_1 hd_X11_outside rfl rfl ⟨Nat.le_trans (Nat.le_of_ble_eq_true rfl) hRf, Nat.le_trans (Nat.le_of_ble_eq_true rfl) hRl⟩ rfl hl.1 rfl (Nat.le_of_ble_eq_true rfl) dX11_rule_33 ⟨Nat.zero_le _, Nat.zero_le _⟩) hH (fun H locs hH => ?_)
          have hH : nm_H D Y (fun q => s0 ≤ q) s.heap X nl ad (M.1, M.2, N, K) H locs := hH
          refine lv_if_eq (tgt := 46) hx hb dX11_rule_36 (by decide) (fun c26 => ?_) (fun c26 => ?_)
          · have hf := nm_it c26 hf
            exact hJ46  _ _ _ hH (lv_sub hl [0, 1, 2, 3, 4] rfl) hf
          · have hf := nm_ie c26 hf
            refine lv_aload_n hx hb dX11_rule_39 rfl (lv_at hl 0 rfl) ?_
            refine lv_bipush (v := -3) hx hb dX11_rule_40 (by decide) ?_
            obtain ⟨r29, M27, hc28, hf⟩ := nm_sd2 hf
            refine nm_calli (nm_runV (X := X) (nl := nl) (k_X11_refuse hL hN (hf := hc28)) hx hb hml hown hts hs0 hK hZ hH tw_325 tw_322 tw_324 (sw_X11_refuse) tw_1 hd_X11_refuse (cl_n0 hL) (cl_k0 hL) (by decide) rfl rfl rfl ⟨Nat.le_trans (Nat.le_of_ble_eq_true rfl) hRf, Nat.le_trans (Nat.le_of_ble_eq_true rfl) hRl⟩ rfl hl.1 rfl (Nat.le_of_ble_eq_true rfl) dX11_rule_42 ⟨Nat.zero_le _, Nat.zero_le _⟩) hH (fun H locs hH => ?_)
            have hH : nm_H D Y (fun q => s0 ≤ q) s.heap X nl ad (M27.1, M27.2, N, K) H locs := hH
            exact nm_iret hx hb hr hlocks hQ hH (congrArg Prod.fst (Option.some.inj hf)) (congrArg (fun q => (q.2.1, q.2.2, N, K)) (Option.some.inj hf)) dX11_rule_45
    · have hf := nm_ie c5 hf
      refine lv_aload_n hx hb dX11_rule_9 rfl (lv_at hl 0 rfl) ?_
      refine lv_bipush (v := -7) hx hb dX11_rule_10 (by decide) ?_
      obtain ⟨r32, M30, hc31, hf⟩ := nm_sd2 hf
      refine nm_calli (nm_runV (X := X) (nl := nl) (k_X11_refuse hL hN (hf := hc31)) hx hb hml hown hts hs0 hK hZ hH tw_325 tw_322 tw_324 (sw_X11_refuse) tw_1 hd_X11_refuse (cl_n0 hL) (cl_k0 hL) (by decide) rfl rfl rfl ⟨Nat.le_trans (Nat.le_of_ble_eq_true rfl) hRf, Nat.le_trans (Nat.le_of_ble_eq_true rfl) hRl⟩ rfl hl.1 rfl (Nat.le_of_ble_eq_true rfl) dX11_rule_12 ⟨Nat.zero_le _, Nat.zero_le _⟩) hH (fun H locs hH => ?_)
      have hH : nm_H D Y (fun q => s0 ≤ q) s.heap X nl ad (M30.1, M30.2, N, K) H locs := hH
      exact nm_iret hx hb hr hlocks hQ hH (congrArg Prod.fst (Option.some.inj hf)) (congrArg (fun q => (q.2.1, q.2.2, N, K)) (Option.some.inj hf)) dX11_rule_15
def f_X11_fault (N : Nat → Nat) (x1 : Int32) (x2 : Int32) (M : cm) : Option (Int32 × cm) :=
(if (M.1 200 1) = 0 then
nm_s2 (f_X11_refuse (-2 : Int32) M) fun r13 M11 =>
some (r13, M11)
else
(if (f_X11_outside x1 (nm_min (M.1 200 2) (600 : Int32))) = 0 then
(if (f_X11_outside x2 (4 : Int32)) = 0 then
nm_c (((4 : Int32) * x1) + x2) (N 201) (
some (M.1 201 (((4 : Int32) * x1) + x2).toNatClampNeg, M))
else
nm_s2 (f_X11_refuse (-7 : Int32) M) fun r7 M5 =>
some (r7, M5))
else
nm_s2 (f_X11_refuse (-3 : Int32) M) fun r10 M8 =>
some (r10, M8)))
set_option maxHeartbeats 4000000 in
set_option maxRecDepth 100000 in
theorem k_X11_fault {l : Launch} {D : va_G} {Y : nm_Y} {s0 : Nat} {X : va_W} {ad : Nat → Nat} {nl : List Nat} {N K : Nat → Nat} (hL : cl_L nl K) (hN : cl_N N) {x1 : Int32} {x2 : Int32} {M : cm} {r0 : Int32} {M0 : cm} (hf : f_X11_fault N x1 x2 M = some (r0, M0)) :
    nm_Met l yX11_fault cX11_fault 3 (some .int) { frames := 1, cells := 0, slots := 0, locals := 21 } [.ref (ad 0), .int x1, .int x2] D Y s0 (nm_W Y X nl ad (M.1, M.2, N, K)) (nm_Qi D s0 r0 (nm_W Y X nl ad (M0.1, M0.2, N, K))) 0 0 := by
  refine nm_of (by decide) (Nat.le_of_ble_eq_true rfl) ?_
  intro p e R s m args below meth c Q ls hx hb hr hlocks hml hown hts hs0 hK hZ hRf hRl hRc hRs hQ hP hD hl
  have hH : nm_H D Y (fun q => s0 ≤ q) s.heap X nl ad (M.1, M.2, N, K) s.heap [] := ⟨hP, hD, va_S.rf⟩
  have hl : lv_has ls 3 [(0, .ref (ad 0)), (1, .int x1), (2, .int x2)] := hl
  unfold f_X11_fault at hf
  refine lv_aload_n hx hb dX11_fault_0 rfl (lv_at hl 0 rfl) ?_
  refine gf_11_2 hK hx hb hts hown hH (cl_n0 hL) (cl_k0 hL) (hts _ tw_289) (fun _ h9 => h9) dX11_fault_1 ?_
  refine gf_8_1 hK hx hb hts hown hH (cl_n200 hL) (cl_k200 hL) (hts _ tw_123) (fun _ h9 => h9) dX11_fault_4 ?_
  refine lv_if_ne (tgt := 17) hx hb dX11_fault_7 (by decide) (fun c1 => ?_) (fun c1 => ?_)
  · have hf := nm_ie c1 hf
    refine lv_iload_n hx hb dX11_fault_17 rfl (lv_at hl 1 rfl) ?_
    refine lv_aload_n hx hb dX11_fault_18 rfl (lv_at hl 0 rfl) ?_
    refine gf_11_2 hK hx hb hts hown hH (cl_n0 hL) (cl_k0 hL) (hts _ tw_289) (fun _ h9 => h9) dX11_fault_19 ?_
    refine gf_8_2 hK hx hb hts hown hH (cl_n200 hL) (cl_k200 hL) (hts _ tw_125) (fun _ h9 => h9) dX11_fault_22 ?_
    refine lv_sipush (v := 600) hx hb dX11_fault_25 (by decide) ?_
    refine nm_mmin hx hb (hml.trans hl.1.symm) hown hts tw_396 (Nat.le_trans (Nat.le_of_ble_eq_true rfl) hRf) (Nat.le_trans (Nat.le_of_ble_eq_true rfl) hRl) (Nat.zero_le _) (Nat.zero_le _) dX11_fault_28 ?_
    refine nm_calli (nm_runS (X := X) (nl := nl) (k_X11_outside hL hN (hf := (rfl : f_X11_outside x1 (nm_min (M.1 200 2) (600 : Int32)) = _))) hx hb hml hown hts hs0 hK hZ hH tw_321 tw_319 tw_320 tw_1 hd_X11_outside rfl rfl ⟨Nat.le_trans (Nat.le_of_ble_eq_true rfl) hRf, Nat.le_trans (Nat.le_of_ble_eq_true rfl) hRl⟩ rfl hl.1 rfl (Nat.le_of_ble_eq_true rfl) dX11_fault_31 ⟨Nat.zero_le _, Nat.zero_le _⟩) hH (fun H locs hH => ?_)
    have hH : nm_H D Y (fun q => s0 ≤ q) s.heap X nl ad (M.1, M.2, N, K) H locs := hH
    refine lv_if_eq (tgt := 44) hx hb dX11_fault_34 (by decide) (fun c2 => ?_) (fun c2 => ?_)
    · have hf := nm_it c2 hf
      refine lv_iload_n hx hb dX11_fault_44 rfl (lv_at hl 2 rfl) ?_
      refine lv_iconst (v := 4) hx hb dX11_fault_45 (by decide) ?_
      refine nm_calli (nm_runS (X := X) (nl := nl) (k_X11_outside hL hN (hf := (rfl : f_X11_outside x2 (4 : Int32) = _))) hx hb hml hown hts hs0 hK hZ hH tw_321 tw_319 tw_320 tw_1 hd_X11_outside rfl rfl ⟨Nat.le_trans (Nat.le_of_ble_eq_true rfl) hRf, Nat.le_trans (Nat.le_of_ble_eq_true rfl) hRl⟩ rfl hl.1 rfl (Nat.le_of_ble_eq_true rfl) dX11_fault_46 ⟨Nat.zero_le _, Nat.zero_le _⟩) hH (fun H locs hH => ?_)
      have hH : nm_H D Y (fun q => s0 ≤ q) s.heap X nl ad (M.1, M.2, N, K) H locs := hH
      refine lv_if_eq (tgt := 61) hx hb dX11_fault_49 (by decide) (fun c3 => ?_) (fun c3 => ?_)
      · have hf := nm_it c3 hf
        refine lv_aload_n hx hb dX11_fault_61 rfl (lv_at hl 0 rfl) ?_
        refine gf_11_2 hK hx hb hts hown hH (cl_n0 hL) (cl_k0 hL) (hts _ tw_289) (fun _ h9 => h9) dX11_fault_62 ?_
        refine gf_8_3 hK hx hb hts hown hH (cl_n200 hL) (cl_k200 hL) (hts _ tw_127) (fun _ h9 => h9) dX11_fault_65 ?_
        refine lv_iconst (v := 4) hx hb dX11_fault_68 (by decide) ?_
        refine lv_iload_n hx hb dX11_fault_69 rfl (lv_at hl 1 rfl) ?_
        refine lv_imul hx hb dX11_fault_70 ?_
        refine lv_iload_n hx hb dX11_fault_71 rfl (lv_at hl 2 rfl) ?_
        refine lv_iadd hx hb dX11_fault_72 ?_
        obtain ⟨hi4, hf⟩ := nm_chk hf
        refine nm_iald hx hb hK hH (cl_n201 hL) (cl_k201 hL) rfl hi4 dX11_fault_73 ?_
        exact nm_iret hx hb hr hlocks hQ hH (congrArg Prod.fst (Option.some.inj hf)) (congrArg (fun q => (q.2.1, q.2.2, N, K)) (Option.some.inj hf)) dX11_fault_74
      · have hf := nm_ie c3 hf
        refine lv_aload_n hx hb dX11_fault_52 rfl (lv_at hl 0 rfl) ?_
        refine lv_bipush (v := -7) hx hb dX11_fault_53 (by decide) ?_
        obtain ⟨r7, M5, hc6, hf⟩ := nm_sd2 hf
        refine nm_calli (nm_runV (X := X) (nl := nl) (k_X11_refuse hL hN (hf := hc6)) hx hb hml hown hts hs0 hK hZ hH tw_325 tw_322 tw_324 (sw_X11_refuse) tw_1 hd_X11_refuse (cl_n0 hL) (cl_k0 hL) (by decide) rfl rfl rfl ⟨Nat.le_trans (Nat.le_of_ble_eq_true rfl) hRf, Nat.le_trans (Nat.le_of_ble_eq_true rfl) hRl⟩ rfl hl.1 rfl (Nat.le_of_ble_eq_true rfl) dX11_fault_55 ⟨Nat.zero_le _, Nat.zero_le _⟩) hH (fun H locs hH => ?_)
        have hH : nm_H D Y (fun q => s0 ≤ q) s.heap X nl ad (M5.1, M5.2, N, K) H locs := hH
        refine lv_goto (tgt := 74) hx hb dX11_fault_58 (by decide) ?_
        exact nm_iret hx hb hr hlocks hQ hH (congrArg Prod.fst (Option.some.inj hf)) (congrArg (fun q => (q.2.1, q.2.2, N, K)) (Option.some.inj hf)) dX11_fault_74
    · have hf := nm_ie c2 hf
      refine lv_aload_n hx hb dX11_fault_37 rfl (lv_at hl 0 rfl) ?_
      refine lv_bipush (v := -3) hx hb dX11_fault_38 (by decide) ?_
      obtain ⟨r10, M8, hc9, hf⟩ := nm_sd2 hf
      refine nm_calli (nm_runV (X := X) (nl := nl) (k_X11_refuse hL hN (hf := hc9)) hx hb hml hown hts hs0 hK hZ hH tw_325 tw_322 tw_324 (sw_X11_refuse) tw_1 hd_X11_refuse (cl_n0 hL) (cl_k0 hL) (by decide) rfl rfl rfl ⟨Nat.le_trans (Nat.le_of_ble_eq_true rfl) hRf, Nat.le_trans (Nat.le_of_ble_eq_true rfl) hRl⟩ rfl hl.1 rfl (Nat.le_of_ble_eq_true rfl) dX11_fault_40 ⟨Nat.zero_le _, Nat.zero_le _⟩) hH (fun H locs hH => ?_)
      have hH : nm_H D Y (fun q => s0 ≤ q) s.heap X nl ad (M8.1, M8.2, N, K) H locs := hH
      exact nm_iret hx hb hr hlocks hQ hH (congrArg Prod.fst (Option.some.inj hf)) (congrArg (fun q => (q.2.1, q.2.2, N, K)) (Option.some.inj hf)) dX11_fault_43
  · have hf := nm_it c1 hf
    refine lv_aload_n hx hb dX11_fault_10 rfl (lv_at hl 0 rfl) ?_
    refine lv_bipush (v := -2) hx hb dX11_fault_11 (by decide) ?_
    obtain ⟨r13, M11, hc12, hf⟩ := nm_sd2 hf
    refine nm_calli (nm_runV (X := X) (nl := nl) (k_X11_refuse hL hN (hf := hc12)) hx hb hml hown hts hs0 hK hZ hH tw_325 tw_322 tw_324 (sw_X11_refuse) tw_1 hd_X11_refuse (cl_n0 hL) (cl_k0 hL) (by decide) rfl rfl rfl ⟨Nat.le_trans (Nat.le_of_ble_eq_true rfl) hRf, Nat.le_trans (Nat.le_of_ble_eq_true rfl) hRl⟩ rfl hl.1 rfl (Nat.le_of_ble_eq_true rfl) dX11_fault_13 ⟨Nat.zero_le _, Nat.zero_le _⟩) hH (fun H locs hH => ?_)
    have hH : nm_H D Y (fun q => s0 ≤ q) s.heap X nl ad (M11.1, M11.2, N, K) H locs := hH
    exact nm_iret hx hb hr hlocks hQ hH (congrArg Prod.fst (Option.some.inj hf)) (congrArg (fun q => (q.2.1, q.2.2, N, K)) (Option.some.inj hf)) dX11_fault_16
def f_X11_faults (x1 : Int32) (x2 : Int32) (M : cm) : Option (Int32 × cm) :=
(if (f_X11_outside x1 (M.1 200 0)) = 0 then
(if (M.1 200 1) = 0 then
nm_s2 (f_X11_refuse (-2 : Int32) M) fun r12 M10 =>
some (r12, M10)
else
(if (f_X11_outside x2 (2 : Int32)) = 0 then
(if x2 = 0 then
nm_c x1 16 (
some (M.1 202 x1.toNatClampNeg, M))
else
nm_c x1 16 (
some (M.1 203 x1.toNatClampNeg, M)))
else
nm_s2 (f_X11_refuse (-7 : Int32) M) fun r9 M7 =>
some (r9, M7)))
else
nm_s2 (f_X11_refuse (-3 : Int32) M) fun r15 M13 =>
some (r15, M13))
set_option maxHeartbeats 4000000 in
set_option maxRecDepth 100000 in
theorem k_X11_faults {l : Launch} {D : va_G} {Y : nm_Y} {s0 : Nat} {X : va_W} {ad : Nat → Nat} {nl : List Nat} {N K : Nat → Nat} (hL : cl_L nl K) (hN : cl_N N) {x1 : Int32} {x2 : Int32} {M : cm} {r0 : Int32} {M0 : cm} (hf : f_X11_faults x1 x2 M = some (r0, M0)) :
    nm_Met l yX11_faults cX11_faults 3 (some .int) { frames := 1, cells := 0, slots := 0, locals := 21 } [.ref (ad 0), .int x1, .int x2] D Y s0 (nm_W Y X nl ad (M.1, M.2, N, K)) (nm_Qi D s0 r0 (nm_W Y X nl ad (M0.1, M0.2, N, K))) 0 0 := by
  refine nm_of (by decide) (Nat.le_of_ble_eq_true rfl) ?_
  intro p e R s m args below meth c Q ls hx hb hr hlocks hml hown hts hs0 hK hZ hRf hRl hRc hRs hQ hP hD hl
  have hH : nm_H D Y (fun q => s0 ≤ q) s.heap X nl ad (M.1, M.2, N, K) s.heap [] := ⟨hP, hD, va_S.rf⟩
  have hl : lv_has ls 3 [(0, .ref (ad 0)), (1, .int x1), (2, .int x2)] := hl
  unfold f_X11_faults at hf
  refine lv_iload_n hx hb dX11_faults_0 rfl (lv_at hl 1 rfl) ?_
  refine lv_aload_n hx hb dX11_faults_1 rfl (lv_at hl 0 rfl) ?_
  refine gf_11_2 hK hx hb hts hown hH (cl_n0 hL) (cl_k0 hL) (hts _ tw_289) (fun _ h9 => h9) dX11_faults_2 ?_
  refine gf_8_0 hK hx hb hts hown hH (cl_n200 hL) (cl_k200 hL) (hts _ tw_121) (fun _ h9 => h9) dX11_faults_5 ?_
  refine nm_calli (nm_runS (X := X) (nl := nl) (k_X11_outside hL hN (hf := (rfl : f_X11_outside x1 (M.1 200 0) = _))) hx hb hml hown hts hs0 hK hZ hH tw_321 tw_319 tw_320 tw_1 hd_X11_outside rfl rfl ⟨Nat.le_trans (Nat.le_of_ble_eq_true rfl) hRf, Nat.le_trans (Nat.le_of_ble_eq_true rfl) hRl⟩ rfl hl.1 rfl (Nat.le_of_ble_eq_true rfl) dX11_faults_8 ⟨Nat.zero_le _, Nat.zero_le _⟩) hH (fun H locs hH => ?_)
  have hH : nm_H D Y (fun q => s0 ≤ q) s.heap X nl ad (M.1, M.2, N, K) H locs := hH
  refine lv_if_eq (tgt := 21) hx hb dX11_faults_11 (by decide) (fun c1 => ?_) (fun c1 => ?_)
  · have hf := nm_it c1 hf
    refine lv_aload_n hx hb dX11_faults_21 rfl (lv_at hl 0 rfl) ?_
    refine gf_11_2 hK hx hb hts hown hH (cl_n0 hL) (cl_k0 hL) (hts _ tw_289) (fun _ h9 => h9) dX11_faults_22 ?_
    refine gf_8_1 hK hx hb hts hown hH (cl_n200 hL) (cl_k200 hL) (hts _ tw_123) (fun _ h9 => h9) dX11_faults_25 ?_
    refine lv_if_ne (tgt := 38) hx hb dX11_faults_28 (by decide) (fun c2 => ?_) (fun c2 => ?_)
    · have hf := nm_ie c2 hf
      refine lv_iload_n hx hb dX11_faults_38 rfl (lv_at hl 2 rfl) ?_
      refine lv_iconst (v := 2) hx hb dX11_faults_39 (by decide) ?_
      refine nm_calli (nm_runS (X := X) (nl := nl) (k_X11_outside hL hN (hf := (rfl : f_X11_outside x2 (2 : Int32) = _))) hx hb hml hown hts hs0 hK hZ hH tw_321 tw_319 tw_320 tw_1 hd_X11_outside rfl rfl ⟨Nat.le_trans (Nat.le_of_ble_eq_true rfl) hRf, Nat.le_trans (Nat.le_of_ble_eq_true rfl) hRl⟩ rfl hl.1 rfl (Nat.le_of_ble_eq_true rfl) dX11_faults_40 ⟨Nat.zero_le _, Nat.zero_le _⟩) hH (fun H locs hH => ?_)
      have hH : nm_H D Y (fun q => s0 ≤ q) s.heap X nl ad (M.1, M.2, N, K) H locs := hH
      refine lv_if_eq (tgt := 53) hx hb dX11_faults_43 (by decide) (fun c3 => ?_) (fun c3 => ?_)
      · have hf := nm_it c3 hf
        refine lv_iload_n hx hb dX11_faults_53 rfl (lv_at hl 2 rfl) ?_
        refine lv_if_ne (tgt := 69) hx hb dX11_faults_54 (by decide) (fun c4 => ?_) (fun c4 => ?_)
        · have hf := nm_ie c4 hf
          refine lv_aload_n hx hb dX11_faults_69 rfl (lv_at hl 0 rfl) ?_
          refine gf_11_2 hK hx hb hts hown hH (cl_n0 hL) (cl_k0 hL) (hts _ tw_289) (fun _ h9 => h9) dX11_faults_70 ?_
          refine gf_8_5 hK hx hb hts hown hH (cl_n200 hL) (cl_k200 hL) (hts _ tw_131) (fun _ h9 => h9) dX11_faults_73 ?_
          refine lv_iload_n hx hb dX11_faults_76 rfl (lv_at hl 1 rfl) ?_
          obtain ⟨hi5, hf⟩ := nm_chk hf
          refine nm_iald hx hb hK hH (cl_n203 hL) (cl_k203 hL) (cl_l203 hN) hi5 dX11_faults_77 ?_
          exact nm_iret hx hb hr hlocks hQ hH (congrArg Prod.fst (Option.some.inj hf)) (congrArg (fun q => (q.2.1, q.2.2, N, K)) (Option.some.inj hf)) dX11_faults_78
        · have hf := nm_it c4 hf
          refine lv_aload_n hx hb dX11_faults_57 rfl (lv_at hl 0 rfl) ?_
          refine gf_11_2 hK hx hb hts hown hH (cl_n0 hL) (cl_k0 hL) (hts _ tw_289) (fun _ h9 => h9) dX11_faults_58 ?_
          refine gf_8_4 hK hx hb hts hown hH (cl_n200 hL) (cl_k200 hL) (hts _ tw_129) (fun _ h9 => h9) dX11_faults_61 ?_
          refine lv_iload_n hx hb dX11_faults_64 rfl (lv_at hl 1 rfl) ?_
          obtain ⟨hi6, hf⟩ := nm_chk hf
          refine nm_iald hx hb hK hH (cl_n202 hL) (cl_k202 hL) (cl_l202 hN) hi6 dX11_faults_65 ?_
          refine lv_goto (tgt := 78) hx hb dX11_faults_66 (by decide) ?_
          exact nm_iret hx hb hr hlocks hQ hH (congrArg Prod.fst (Option.some.inj hf)) (congrArg (fun q => (q.2.1, q.2.2, N, K)) (Option.some.inj hf)) dX11_faults_78
      · have hf := nm_ie c3 hf
        refine lv_aload_n hx hb dX11_faults_46 rfl (lv_at hl 0 rfl) ?_
        refine lv_bipush (v := -7) hx hb dX11_faults_47 (by decide) ?_
        obtain ⟨r9, M7, hc8, hf⟩ := nm_sd2 hf
        refine nm_calli (nm_runV (X := X) (nl := nl) (k_X11_refuse hL hN (hf := hc8)) hx hb hml hown hts hs0 hK hZ hH tw_325 tw_322 tw_324 (sw_X11_refuse) tw_1 hd_X11_refuse (cl_n0 hL) (cl_k0 hL) (by decide) rfl rfl rfl ⟨Nat.le_trans (Nat.le_of_ble_eq_true rfl) hRf, Nat.le_trans (Nat.le_of_ble_eq_true rfl) hRl⟩ rfl hl.1 rfl (Nat.le_of_ble_eq_true rfl) dX11_faults_49 ⟨Nat.zero_le _, Nat.zero_le _⟩) hH (fun H locs hH => ?_)
        have hH : nm_H D Y (fun q => s0 ≤ q) s.heap X nl ad (M7.1, M7.2, N, K) H locs := hH
        exact nm_iret hx hb hr hlocks hQ hH (congrArg Prod.fst (Option.some.inj hf)) (congrArg (fun q => (q.2.1, q.2.2, N, K)) (Option.some.inj hf)) dX11_faults_52
    · have hf := nm_it c2 hf
      refine lv_aload_n hx hb dX11_faults_31 rfl (lv_at hl 0 rfl) ?_
      refine lv_bipush (v := -2) hx hb dX11_faults_32 (by decide) ?_
      obtain ⟨r12, M10, hc11, hf⟩ := nm_sd2 hf
      refine nm_calli (nm_runV (X := X) (nl := nl) (k_X11_refuse hL hN (hf := hc11)) hx hb hml hown hts hs0 hK hZ hH tw_325 tw_322 tw_324 (sw_X11_refuse) tw_1 hd_X11_refuse (cl_n0 hL) (cl_k0 hL) (by decide) rfl rfl rfl ⟨Nat.le_trans (Nat.le_of_ble_eq_true rfl) hRf, Nat.le_trans (Nat.le_of_ble_eq_true rfl) hRl⟩ rfl hl.1 rfl (Nat.le_of_ble_eq_true rfl) dX11_faults_34 ⟨Nat.zero_le _, Nat.zero_le _⟩) hH (fun H locs hH => ?_)
      have hH : nm_H D Y (fun q => s0 ≤ q) s.heap X nl ad (M10.1, M10.2, N, K) H locs := hH
      exact nm_iret hx hb hr hlocks hQ hH (congrArg Prod.fst (Option.some.inj hf)) (congrArg (fun q => (q.2.1, q.2.2, N, K)) (Option.some.inj hf)) dX11_faults_37
  · have hf := nm_ie c1 hf
    refine lv_aload_n hx hb dX11_faults_14 rfl (lv_at hl 0 rfl) ?_
    refine lv_bipush (v := -3) hx hb dX11_faults_15 (by decide) ?_
    obtain ⟨r15, M13, hc14, hf⟩ := nm_sd2 hf
    refine nm_calli (nm_runV (X := X) (nl := nl) (k_X11_refuse hL hN (hf := hc14)) hx hb hml hown hts hs0 hK hZ hH tw_325 tw_322 tw_324 (sw_X11_refuse) tw_1 hd_X11_refuse (cl_n0 hL) (cl_k0 hL) (by decide) rfl rfl rfl ⟨Nat.le_trans (Nat.le_of_ble_eq_true rfl) hRf, Nat.le_trans (Nat.le_of_ble_eq_true rfl) hRl⟩ rfl hl.1 rfl (Nat.le_of_ble_eq_true rfl) dX11_faults_17 ⟨Nat.zero_le _, Nat.zero_le _⟩) hH (fun H locs hH => ?_)
    have hH : nm_H D Y (fun q => s0 ≤ q) s.heap X nl ad (M13.1, M13.2, N, K) H locs := hH
    exact nm_iret hx hb hr hlocks hQ hH (congrArg Prod.fst (Option.some.inj hf)) (congrArg (fun q => (q.2.1, q.2.2, N, K)) (Option.some.inj hf)) dX11_faults_20
def f_X11_conducts (x1 : Int32) (x2 : Int32) (M : cm) : Option (Int32 × cm) :=
(if (f_X11_outside x1 (16 : Int32)) = 0 then
nm_l (((M.1 300 0) >>> (x1 &&& 31)) &&& (1 : Int32)) fun v2 =>
nm_l ((nm_up M.1 300 0 ((M.1 300 0) &&& (((1 : Int32) <<< (x1 &&& 31)) ^^^ (-1 : Int32))), M.2)) fun M3 =>
(if x2 = 0 then
some (v2, M3)
else
nm_l ((nm_up M3.1 300 0 ((M3.1 300 0) ||| ((1 : Int32) <<< (x1 &&& 31))), M3.2)) fun M5 =>
some (v2, M5))
else
nm_s2 (f_X11_refuse (-3 : Int32) M) fun r8 M6 =>
some (r8, M6))
set_option maxHeartbeats 4000000 in
set_option maxRecDepth 100000 in
theorem k_X11_conducts {l : Launch} {D : va_G} {Y : nm_Y} {s0 : Nat} {X : va_W} {ad : Nat → Nat} {nl : List Nat} {N K : Nat → Nat} (hL : cl_L nl K) (hN : cl_N N) {x1 : Int32} {x2 : Int32} {M : cm} {r0 : Int32} {M0 : cm} (hf : f_X11_conducts x1 x2 M = some (r0, M0)) :
    nm_Met l yX11_conducts cX11_conducts 4 (some .int) { frames := 1, cells := 0, slots := 0, locals := 21 } [.ref (ad 0), .int x1, .int x2] D Y s0 (nm_W Y X nl ad (M.1, M.2, N, K)) (nm_Qi D s0 r0 (nm_W Y X nl ad (M0.1, M0.2, N, K))) 0 0 := by
  refine nm_of (by decide) (Nat.le_of_ble_eq_true rfl) ?_
  intro p e R s m args below meth c Q ls hx hb hr hlocks hml hown hts hs0 hK hZ hRf hRl hRc hRs hQ hP hD hl
  have hH : nm_H D Y (fun q => s0 ≤ q) s.heap X nl ad (M.1, M.2, N, K) s.heap [] := ⟨hP, hD, va_S.rf⟩
  have hl : lv_has ls 4 [(0, .ref (ad 0)), (1, .int x1), (2, .int x2)] := hl
  unfold f_X11_conducts at hf
  refine lv_iload_n hx hb dX11_conducts_0 rfl (lv_at hl 1 rfl) ?_
  refine lv_bipush (v := 16) hx hb dX11_conducts_1 (by decide) ?_
  refine nm_calli (nm_runS (X := X) (nl := nl) (k_X11_outside hL hN (hf := (rfl : f_X11_outside x1 (16 : Int32) = _))) hx hb hml hown hts hs0 hK hZ hH tw_321 tw_319 tw_320 tw_1 hd_X11_outside rfl rfl ⟨Nat.le_trans (Nat.le_of_ble_eq_true rfl) hRf, Nat.le_trans (Nat.le_of_ble_eq_true rfl) hRl⟩ rfl hl.1 rfl (Nat.le_of_ble_eq_true rfl) dX11_conducts_3 ⟨Nat.zero_le _, Nat.zero_le _⟩) hH (fun H locs hH => ?_)
  have hH : nm_H D Y (fun q => s0 ≤ q) s.heap X nl ad (M.1, M.2, N, K) H locs := hH
  refine lv_if_eq (tgt := 16) hx hb dX11_conducts_6 (by decide) (fun c1 => ?_) (fun c1 => ?_)
  · have hf := nm_it c1 hf
    refine lv_aload_n hx hb dX11_conducts_16 rfl (lv_at hl 0 rfl) ?_
    refine gf_11_3 hK hx hb hts hown hH (cl_n0 hL) (cl_k0 hL) (hts _ tw_290) (fun _ h9 => h9) dX11_conducts_17 ?_
    refine gf_2_0 hK hx hb hts hown hH (cl_n300 hL) (cl_k300 hL) (hts _ tw_169) (fun _ h9 => h9) dX11_conducts_20 ?_
    refine lv_iload_n hx hb dX11_conducts_23 rfl (lv_at hl 1 rfl) ?_
    refine lv_ishr hx hb dX11_conducts_24 ?_
    refine lv_iconst (v := 1) hx hb dX11_conducts_25 (by decide) ?_
    refine lv_iand hx hb dX11_conducts_26 ?_
    obtain ⟨v2, ev2, hf⟩ := nm_let hf
    refine nm_topi ev2 ?_
    refine lv_istore_n (lv' := [(3, .int v2), (0, .ref (ad 0)), (1, .int x1), (2, .int x2)]) hx hb dX11_conducts_27 rfl hl (by decide) rfl (fun ls hl => ?_)
    refine lv_aload_n hx hb dX11_conducts_28 rfl (lv_at hl 1 rfl) ?_
    refine gf_11_3 hK hx hb hts hown hH (cl_n0 hL) (cl_k0 hL) (hts _ tw_290) (fun _ h9 => h9) dX11_conducts_29 ?_
    refine lv_dup hx hb dX11_conducts_32 rfl ?_
    refine gf_2_0 hK hx hb hts hown hH (cl_n300 hL) (cl_k300 hL) (hts _ tw_169) (fun _ h9 => h9) dX11_conducts_33 ?_
    refine lv_iconst (v := 1) hx hb dX11_conducts_36 (by decide) ?_
    refine lv_iload_n hx hb dX11_conducts_37 rfl (lv_at hl 2 rfl) ?_
    refine lv_ishl hx hb dX11_conducts_38 ?_
    refine lv_iconst (v := -1) hx hb dX11_conducts_39 (by decide) ?_
    refine lv_ixor hx hb dX11_conducts_40 ?_
    refine lv_iand hx hb dX11_conducts_41 ?_
    obtain ⟨M3, eM3, hf⟩ := nm_let hf
    refine pf_2_0 hK hx hb hts hown hH (cl_n300 hL) (cl_k300 hL) (hts _ tw_169) (fun _ h9 => h9) dX11_conducts_42 (fun H locs hH => ?_)
    have hH : nm_H D Y (fun q => s0 ≤ q) s.heap X nl ad (M3.1, M3.2, N, K) H locs := by rw [eM3]; exact hH
    refine lv_iload_n hx hb dX11_conducts_45 rfl (lv_at hl 3 rfl) ?_
    refine lv_if_eq (tgt := 64) hx hb dX11_conducts_46 (by decide) (fun c4 => ?_) (fun c4 => ?_)
    · have hf := nm_it c4 hf
      refine lv_iload_n hx hb dX11_conducts_64 rfl (lv_at hl 0 rfl) ?_
      exact nm_iret hx hb hr hlocks hQ hH (congrArg Prod.fst (Option.some.inj hf)) (congrArg (fun q => (q.2.1, q.2.2, N, K)) (Option.some.inj hf)) dX11_conducts_65
    · have hf := nm_ie c4 hf
      refine lv_aload_n hx hb dX11_conducts_49 rfl (lv_at hl 1 rfl) ?_
      refine gf_11_3 hK hx hb hts hown hH (cl_n0 hL) (cl_k0 hL) (hts _ tw_290) (fun _ h9 => h9) dX11_conducts_50 ?_
      refine lv_dup hx hb dX11_conducts_53 rfl ?_
      refine gf_2_0 hK hx hb hts hown hH (cl_n300 hL) (cl_k300 hL) (hts _ tw_169) (fun _ h9 => h9) dX11_conducts_54 ?_
      refine lv_iconst (v := 1) hx hb dX11_conducts_57 (by decide) ?_
      refine lv_iload_n hx hb dX11_conducts_58 rfl (lv_at hl 2 rfl) ?_
      refine lv_ishl hx hb dX11_conducts_59 ?_
      refine lv_ior hx hb dX11_conducts_60 ?_
      obtain ⟨M5, eM5, hf⟩ := nm_let hf
      refine pf_2_0 hK hx hb hts hown hH (cl_n300 hL) (cl_k300 hL) (hts _ tw_169) (fun _ h9 => h9) dX11_conducts_61 (fun H locs hH => ?_)
      have hH : nm_H D Y (fun q => s0 ≤ q) s.heap X nl ad (M5.1, M5.2, N, K) H locs := by rw [eM5]; exact hH
      refine lv_iload_n hx hb dX11_conducts_64 rfl (lv_at hl 0 rfl) ?_
      exact nm_iret hx hb hr hlocks hQ hH (congrArg Prod.fst (Option.some.inj hf)) (congrArg (fun q => (q.2.1, q.2.2, N, K)) (Option.some.inj hf)) dX11_conducts_65
  · have hf := nm_ie c1 hf
    refine lv_aload_n hx hb dX11_conducts_9 rfl (lv_at hl 0 rfl) ?_
    refine lv_bipush (v := -3) hx hb dX11_conducts_10 (by decide) ?_
    obtain ⟨r8, M6, hc7, hf⟩ := nm_sd2 hf
    refine nm_calli (nm_runV (X := X) (nl := nl) (k_X11_refuse hL hN (hf := hc7)) hx hb hml hown hts hs0 hK hZ hH tw_325 tw_322 tw_324 (sw_X11_refuse) tw_1 hd_X11_refuse (cl_n0 hL) (cl_k0 hL) (by decide) rfl rfl rfl ⟨Nat.le_trans (Nat.le_of_ble_eq_true rfl) hRf, Nat.le_trans (Nat.le_of_ble_eq_true rfl) hRl⟩ rfl hl.1 rfl (Nat.le_of_ble_eq_true rfl) dX11_conducts_12 ⟨Nat.zero_le _, Nat.zero_le _⟩) hH (fun H locs hH => ?_)
    have hH : nm_H D Y (fun q => s0 ≤ q) s.heap X nl ad (M6.1, M6.2, N, K) H locs := hH
    exact nm_iret hx hb hr hlocks hQ hH (congrArg Prod.fst (Option.some.inj hf)) (congrArg (fun q => (q.2.1, q.2.2, N, K)) (Option.some.inj hf)) dX11_conducts_15
def f_X11_joint (x1 : Int32) (x2 : Int32) (x3 : Int32) (M : cm) : Option (Int32 × cm) :=
(if (f_X11_outside x1 (16 : Int32)) = 0 then
(if (f_X11_outside x2 (16 : Int32)) = 0 then
(if (f_X11_outside x3 (16 : Int32)) = 0 then
(if (M.1 300 1) < (8 : Int32) then
nm_s2 (f_X2_addJoint x1 x2 x3 M) fun r13 M11 =>
some (r13, M11)
else
nm_s2 (f_X11_refuse (-8 : Int32) M) fun r16 M14 =>
some (r16, M14))
else
nm_s2 (f_X11_refuse (-3 : Int32) M) fun r19 M17 =>
some (r19, M17))
else
nm_s2 (f_X11_refuse (-3 : Int32) M) fun r8 M6 =>
some (r8, M6))
else
nm_s2 (f_X11_refuse (-3 : Int32) M) fun r4 M2 =>
some (r4, M2))
set_option maxHeartbeats 4000000 in
set_option maxRecDepth 100000 in
theorem k_X11_joint {l : Launch} {D : va_G} {Y : nm_Y} {s0 : Nat} {X : va_W} {ad : Nat → Nat} {nl : List Nat} {N K : Nat → Nat} (hL : cl_L nl K) (hN : cl_N N) {x1 : Int32} {x2 : Int32} {x3 : Int32} {M : cm} {r0 : Int32} {M0 : cm} (hf : f_X11_joint x1 x2 x3 M = some (r0, M0)) :
    nm_Met l yX11_joint cX11_joint 4 (some .int) { frames := 1, cells := 0, slots := 0, locals := 23 } [.ref (ad 0), .int x1, .int x2, .int x3] D Y s0 (nm_W Y X nl ad (M.1, M.2, N, K)) (nm_Qi D s0 r0 (nm_W Y X nl ad (M0.1, M0.2, N, K))) 0 0 := by
  refine nm_of (by decide) (Nat.le_of_ble_eq_true rfl) ?_
  intro p e R s m args below meth c Q ls hx hb hr hlocks hml hown hts hs0 hK hZ hRf hRl hRc hRs hQ hP hD hl
  have hH : nm_H D Y (fun q => s0 ≤ q) s.heap X nl ad (M.1, M.2, N, K) s.heap [] := ⟨hP, hD, va_S.rf⟩
  have hl : lv_has ls 4 [(0, .ref (ad 0)), (1, .int x1), (2, .int x2), (3, .int x3)] := hl
  unfold f_X11_joint at hf
  refine lv_iload_n hx hb dX11_joint_0 rfl (lv_at hl 1 rfl) ?_
  refine lv_bipush (v := 16) hx hb dX11_joint_1 (by decide) ?_
  refine nm_calli (nm_runS (X := X) (nl := nl) (k_X11_outside hL hN (hf := (rfl : f_X11_outside x1 (16 : Int32) = _))) hx hb hml hown hts hs0 hK hZ hH tw_321 tw_319 tw_320 tw_1 hd_X11_outside rfl rfl ⟨Nat.le_trans (Nat.le_of_ble_eq_true rfl) hRf, Nat.le_trans (Nat.le_of_ble_eq_true rfl) hRl⟩ rfl hl.1 rfl (Nat.le_of_ble_eq_true rfl) dX11_joint_3 ⟨Nat.zero_le _, Nat.zero_le _⟩) hH (fun H locs hH => ?_)
  have hH : nm_H D Y (fun q => s0 ≤ q) s.heap X nl ad (M.1, M.2, N, K) H locs := hH
  refine lv_if_ne (tgt := 27) hx hb dX11_joint_6 (by decide) (fun c1 => ?_) (fun c1 => ?_)
  · have hf := nm_ie c1 hf
    refine lv_aload_n hx hb dX11_joint_27 rfl (lv_at hl 0 rfl) ?_
    refine lv_bipush (v := -3) hx hb dX11_joint_28 (by decide) ?_
    obtain ⟨r4, M2, hc3, hf⟩ := nm_sd2 hf
    refine nm_calli (nm_runV (X := X) (nl := nl) (k_X11_refuse hL hN (hf := hc3)) hx hb hml hown hts hs0 hK hZ hH tw_325 tw_322 tw_324 (sw_X11_refuse) tw_1 hd_X11_refuse (cl_n0 hL) (cl_k0 hL) (by decide) rfl rfl rfl ⟨Nat.le_trans (Nat.le_of_ble_eq_true rfl) hRf, Nat.le_trans (Nat.le_of_ble_eq_true rfl) hRl⟩ rfl hl.1 rfl (Nat.le_of_ble_eq_true rfl) dX11_joint_30 ⟨Nat.zero_le _, Nat.zero_le _⟩) hH (fun H locs hH => ?_)
    have hH : nm_H D Y (fun q => s0 ≤ q) s.heap X nl ad (M2.1, M2.2, N, K) H locs := hH
    exact nm_iret hx hb hr hlocks hQ hH (congrArg Prod.fst (Option.some.inj hf)) (congrArg (fun q => (q.2.1, q.2.2, N, K)) (Option.some.inj hf)) dX11_joint_33
  · have hf := nm_it c1 hf
    refine lv_iload_n hx hb dX11_joint_9 rfl (lv_at hl 2 rfl) ?_
    refine lv_bipush (v := 16) hx hb dX11_joint_10 (by decide) ?_
    refine nm_calli (nm_runS (X := X) (nl := nl) (k_X11_outside hL hN (hf := (rfl : f_X11_outside x2 (16 : Int32) = _))) hx hb hml hown hts hs0 hK hZ hH tw_321 tw_319 tw_320 tw_1 hd_X11_outside rfl rfl ⟨Nat.le_trans (Nat.le_of_ble_eq_true rfl) hRf, Nat.le_trans (Nat.le_of_ble_eq_true rfl) hRl⟩ rfl hl.1 rfl (Nat.le_of_ble_eq_true rfl) dX11_joint_12 ⟨Nat.zero_le _, Nat.zero_le _⟩) hH (fun H locs hH => ?_)
    have hH : nm_H D Y (fun q => s0 ≤ q) s.heap X nl ad (M.1, M.2, N, K) H locs := hH
    refine lv_if_ne (tgt := 27) hx hb dX11_joint_15 (by decide) (fun c5 => ?_) (fun c5 => ?_)
    · have hf := nm_ie c5 hf
      refine lv_aload_n hx hb dX11_joint_27 rfl (lv_at hl 0 rfl) ?_
      refine lv_bipush (v := -3) hx hb dX11_joint_28 (by decide) ?_
      obtain ⟨r8, M6, hc7, hf⟩ := nm_sd2 hf
      refine nm_calli (nm_runV (X := X) (nl := nl) (k_X11_refuse hL hN (hf := hc7)) hx hb hml hown hts hs0 hK hZ hH tw_325 tw_322 tw_324 (sw_X11_refuse) tw_1 hd_X11_refuse (cl_n0 hL) (cl_k0 hL) (by decide) rfl rfl rfl ⟨Nat.le_trans (Nat.le_of_ble_eq_true rfl) hRf, Nat.le_trans (Nat.le_of_ble_eq_true rfl) hRl⟩ rfl hl.1 rfl (Nat.le_of_ble_eq_true rfl) dX11_joint_30 ⟨Nat.zero_le _, Nat.zero_le _⟩) hH (fun H locs hH => ?_)
      have hH : nm_H D Y (fun q => s0 ≤ q) s.heap X nl ad (M6.1, M6.2, N, K) H locs := hH
      exact nm_iret hx hb hr hlocks hQ hH (congrArg Prod.fst (Option.some.inj hf)) (congrArg (fun q => (q.2.1, q.2.2, N, K)) (Option.some.inj hf)) dX11_joint_33
    · have hf := nm_it c5 hf
      refine lv_iload_n hx hb dX11_joint_18 rfl (lv_at hl 3 rfl) ?_
      refine lv_bipush (v := 16) hx hb dX11_joint_19 (by decide) ?_
      refine nm_calli (nm_runS (X := X) (nl := nl) (k_X11_outside hL hN (hf := (rfl : f_X11_outside x3 (16 : Int32) = _))) hx hb hml hown hts hs0 hK hZ hH tw_321 tw_319 tw_320 tw_1 hd_X11_outside rfl rfl ⟨Nat.le_trans (Nat.le_of_ble_eq_true rfl) hRf, Nat.le_trans (Nat.le_of_ble_eq_true rfl) hRl⟩ rfl hl.1 rfl (Nat.le_of_ble_eq_true rfl) dX11_joint_21 ⟨Nat.zero_le _, Nat.zero_le _⟩) hH (fun H locs hH => ?_)
      have hH : nm_H D Y (fun q => s0 ≤ q) s.heap X nl ad (M.1, M.2, N, K) H locs := hH
      refine lv_if_eq (tgt := 34) hx hb dX11_joint_24 (by decide) (fun c9 => ?_) (fun c9 => ?_)
      · have hf := nm_it c9 hf
        refine lv_aload_n hx hb dX11_joint_34 rfl (lv_at hl 0 rfl) ?_
        refine gf_11_3 hK hx hb hts hown hH (cl_n0 hL) (cl_k0 hL) (hts _ tw_290) (fun _ h9 => h9) dX11_joint_35 ?_
        refine gf_2_1 hK hx hb hts hown hH (cl_n300 hL) (cl_k300 hL) (hts _ tw_171) (fun _ h9 => h9) dX11_joint_38 ?_
        refine lv_bipush (v := 8) hx hb dX11_joint_41 (by decide) ?_
        refine lv_icmp_lt (tgt := 53) hx hb dX11_joint_43 (by decide) (fun c10 => ?_) (fun c10 => ?_)
        · have hf := nm_it c10 hf
          refine lv_aload_n hx hb dX11_joint_53 rfl (lv_at hl 0 rfl) ?_
          refine gf_11_3 hK hx hb hts hown hH (cl_n0 hL) (cl_k0 hL) (hts _ tw_290) (fun _ h9 => h9) dX11_joint_54 ?_
          refine lv_iload_n hx hb dX11_joint_57 rfl (lv_at hl 1 rfl) ?_
          refine lv_iload_n hx hb dX11_joint_58 rfl (lv_at hl 2 rfl) ?_
          refine lv_iload_n hx hb dX11_joint_59 rfl (lv_at hl 3 rfl) ?_
          obtain ⟨r13, M11, hc12, hf⟩ := nm_sd2 hf
          refine nm_calli (nm_runV (X := X) (nl := nl) (k_X2_addJoint hL hN (hf := hc12)) hx hb hml hown hts hs0 hK hZ hH tw_772 tw_769 tw_770 (sw_X2_addJoint) tw_6 hd_X2_addJoint (cl_n300 hL) (cl_k300 hL) (by decide) rfl rfl rfl ⟨Nat.le_trans (Nat.le_of_ble_eq_true rfl) hRf, Nat.le_trans (Nat.le_of_ble_eq_true rfl) hRl⟩ rfl hl.1 rfl (Nat.le_of_ble_eq_true rfl) dX11_joint_60 ⟨Nat.zero_le _, Nat.zero_le _⟩) hH (fun H locs hH => ?_)
          have hH : nm_H D Y (fun q => s0 ≤ q) s.heap X nl ad (M11.1, M11.2, N, K) H locs := hH
          exact nm_iret hx hb hr hlocks hQ hH (congrArg Prod.fst (Option.some.inj hf)) (congrArg (fun q => (q.2.1, q.2.2, N, K)) (Option.some.inj hf)) dX11_joint_63
        · have hf := nm_ie c10 hf
          refine lv_aload_n hx hb dX11_joint_46 rfl (lv_at hl 0 rfl) ?_
          refine lv_bipush (v := -8) hx hb dX11_joint_47 (by decide) ?_
          obtain ⟨r16, M14, hc15, hf⟩ := nm_sd2 hf
          refine nm_calli (nm_runV (X := X) (nl := nl) (k_X11_refuse hL hN (hf := hc15)) hx hb hml hown hts hs0 hK hZ hH tw_325 tw_322 tw_324 (sw_X11_refuse) tw_1 hd_X11_refuse (cl_n0 hL) (cl_k0 hL) (by decide) rfl rfl rfl ⟨Nat.le_trans (Nat.le_of_ble_eq_true rfl) hRf, Nat.le_trans (Nat.le_of_ble_eq_true rfl) hRl⟩ rfl hl.1 rfl (Nat.le_of_ble_eq_true rfl) dX11_joint_49 ⟨Nat.zero_le _, Nat.zero_le _⟩) hH (fun H locs hH => ?_)
          have hH : nm_H D Y (fun q => s0 ≤ q) s.heap X nl ad (M14.1, M14.2, N, K) H locs := hH
          exact nm_iret hx hb hr hlocks hQ hH (congrArg Prod.fst (Option.some.inj hf)) (congrArg (fun q => (q.2.1, q.2.2, N, K)) (Option.some.inj hf)) dX11_joint_52
      · have hf := nm_ie c9 hf
        refine lv_aload_n hx hb dX11_joint_27 rfl (lv_at hl 0 rfl) ?_
        refine lv_bipush (v := -3) hx hb dX11_joint_28 (by decide) ?_
        obtain ⟨r19, M17, hc18, hf⟩ := nm_sd2 hf
        refine nm_calli (nm_runV (X := X) (nl := nl) (k_X11_refuse hL hN (hf := hc18)) hx hb hml hown hts hs0 hK hZ hH tw_325 tw_322 tw_324 (sw_X11_refuse) tw_1 hd_X11_refuse (cl_n0 hL) (cl_k0 hL) (by decide) rfl rfl rfl ⟨Nat.le_trans (Nat.le_of_ble_eq_true rfl) hRf, Nat.le_trans (Nat.le_of_ble_eq_true rfl) hRl⟩ rfl hl.1 rfl (Nat.le_of_ble_eq_true rfl) dX11_joint_30 ⟨Nat.zero_le _, Nat.zero_le _⟩) hH (fun H locs hH => ?_)
        have hH : nm_H D Y (fun q => s0 ≤ q) s.heap X nl ad (M17.1, M17.2, N, K) H locs := hH
        exact nm_iret hx hb hr hlocks hQ hH (congrArg Prod.fst (Option.some.inj hf)) (congrArg (fun q => (q.2.1, q.2.2, N, K)) (Option.some.inj hf)) dX11_joint_33
def f_X11_gates (x1 : Int32) (x2 : Int32) (x3 : Int32) (M : cm) : Option (Int32 × cm) :=
(if (f_X11_outside x1 (16 : Int32)) = 0 then
(if (f_X11_outside x2 (16 : Int32)) = 0 then
(if (f_X11_outside x3 (16 : Int32)) = 0 then
(if ((M.1 300 0) &&& ((1 : Int32) <<< (x3 &&& 31))) = 0 then
nm_s2 (f_X11_refuse (-7 : Int32) M) fun r15 M13 =>
some (r15, M13)
else
nm_s1 (f_X2_tellGates x1 x2 x3 M) fun M11 =>
some ((1 : Int32), M11))
else
nm_s2 (f_X11_refuse (-3 : Int32) M) fun r18 M16 =>
some (r18, M16))
else
nm_s2 (f_X11_refuse (-3 : Int32) M) fun r8 M6 =>
some (r8, M6))
else
nm_s2 (f_X11_refuse (-3 : Int32) M) fun r4 M2 =>
some (r4, M2))
set_option maxHeartbeats 4000000 in
set_option maxRecDepth 100000 in
theorem k_X11_gates {l : Launch} {D : va_G} {Y : nm_Y} {s0 : Nat} {X : va_W} {ad : Nat → Nat} {nl : List Nat} {N K : Nat → Nat} (hL : cl_L nl K) (hN : cl_N N) {x1 : Int32} {x2 : Int32} {x3 : Int32} {M : cm} {r0 : Int32} {M0 : cm} (hf : f_X11_gates x1 x2 x3 M = some (r0, M0)) :
    nm_Met l yX11_gates cX11_gates 4 (some .int) { frames := 1, cells := 0, slots := 0, locals := 23 } [.ref (ad 0), .int x1, .int x2, .int x3] D Y s0 (nm_W Y X nl ad (M.1, M.2, N, K)) (nm_Qi D s0 r0 (nm_W Y X nl ad (M0.1, M0.2, N, K))) 0 0 := by
  refine nm_of (by decide) (Nat.le_of_ble_eq_true rfl) ?_
  intro p e R s m args below meth c Q ls hx hb hr hlocks hml hown hts hs0 hK hZ hRf hRl hRc hRs hQ hP hD hl
  have hH : nm_H D Y (fun q => s0 ≤ q) s.heap X nl ad (M.1, M.2, N, K) s.heap [] := ⟨hP, hD, va_S.rf⟩
  have hl : lv_has ls 4 [(0, .ref (ad 0)), (1, .int x1), (2, .int x2), (3, .int x3)] := hl
  unfold f_X11_gates at hf
  refine lv_iload_n hx hb dX11_gates_0 rfl (lv_at hl 1 rfl) ?_
  refine lv_bipush (v := 16) hx hb dX11_gates_1 (by decide) ?_
  refine nm_calli (nm_runS (X := X) (nl := nl) (k_X11_outside hL hN (hf := (rfl : f_X11_outside x1 (16 : Int32) = _))) hx hb hml hown hts hs0 hK hZ hH tw_321 tw_319 tw_320 tw_1 hd_X11_outside rfl rfl ⟨Nat.le_trans (Nat.le_of_ble_eq_true rfl) hRf, Nat.le_trans (Nat.le_of_ble_eq_true rfl) hRl⟩ rfl hl.1 rfl (Nat.le_of_ble_eq_true rfl) dX11_gates_3 ⟨Nat.zero_le _, Nat.zero_le _⟩) hH (fun H locs hH => ?_)
  have hH : nm_H D Y (fun q => s0 ≤ q) s.heap X nl ad (M.1, M.2, N, K) H locs := hH
  refine lv_if_ne (tgt := 27) hx hb dX11_gates_6 (by decide) (fun c1 => ?_) (fun c1 => ?_)
  · have hf := nm_ie c1 hf
    refine lv_aload_n hx hb dX11_gates_27 rfl (lv_at hl 0 rfl) ?_
    refine lv_bipush (v := -3) hx hb dX11_gates_28 (by decide) ?_
    obtain ⟨r4, M2, hc3, hf⟩ := nm_sd2 hf
    refine nm_calli (nm_runV (X := X) (nl := nl) (k_X11_refuse hL hN (hf := hc3)) hx hb hml hown hts hs0 hK hZ hH tw_325 tw_322 tw_324 (sw_X11_refuse) tw_1 hd_X11_refuse (cl_n0 hL) (cl_k0 hL) (by decide) rfl rfl rfl ⟨Nat.le_trans (Nat.le_of_ble_eq_true rfl) hRf, Nat.le_trans (Nat.le_of_ble_eq_true rfl) hRl⟩ rfl hl.1 rfl (Nat.le_of_ble_eq_true rfl) dX11_gates_30 ⟨Nat.zero_le _, Nat.zero_le _⟩) hH (fun H locs hH => ?_)
    have hH : nm_H D Y (fun q => s0 ≤ q) s.heap X nl ad (M2.1, M2.2, N, K) H locs := hH
    exact nm_iret hx hb hr hlocks hQ hH (congrArg Prod.fst (Option.some.inj hf)) (congrArg (fun q => (q.2.1, q.2.2, N, K)) (Option.some.inj hf)) dX11_gates_33
  · have hf := nm_it c1 hf
    refine lv_iload_n hx hb dX11_gates_9 rfl (lv_at hl 2 rfl) ?_
    refine lv_bipush (v := 16) hx hb dX11_gates_10 (by decide) ?_
    refine nm_calli (nm_runS (X := X) (nl := nl) (k_X11_outside hL hN (hf := (rfl : f_X11_outside x2 (16 : Int32) = _))) hx hb hml hown hts hs0 hK hZ hH tw_321 tw_319 tw_320 tw_1 hd_X11_outside rfl rfl ⟨Nat.le_trans (Nat.le_of_ble_eq_true rfl) hRf, Nat.le_trans (Nat.le_of_ble_eq_true rfl) hRl⟩ rfl hl.1 rfl (Nat.le_of_ble_eq_true rfl) dX11_gates_12 ⟨Nat.zero_le _, Nat.zero_le _⟩) hH (fun H locs hH => ?_)
    have hH : nm_H D Y (fun q => s0 ≤ q) s.heap X nl ad (M.1, M.2, N, K) H locs := hH
    refine lv_if_ne (tgt := 27) hx hb dX11_gates_15 (by decide) (fun c5 => ?_) (fun c5 => ?_)
    · have hf := nm_ie c5 hf
      refine lv_aload_n hx hb dX11_gates_27 rfl (lv_at hl 0 rfl) ?_
      refine lv_bipush (v := -3) hx hb dX11_gates_28 (by decide) ?_
      obtain ⟨r8, M6, hc7, hf⟩ := nm_sd2 hf
      refine nm_calli (nm_runV (X := X) (nl := nl) (k_X11_refuse hL hN (hf := hc7)) hx hb hml hown hts hs0 hK hZ hH tw_325 tw_322 tw_324 (sw_X11_refuse) tw_1 hd_X11_refuse (cl_n0 hL) (cl_k0 hL) (by decide) rfl rfl rfl ⟨Nat.le_trans (Nat.le_of_ble_eq_true rfl) hRf, Nat.le_trans (Nat.le_of_ble_eq_true rfl) hRl⟩ rfl hl.1 rfl (Nat.le_of_ble_eq_true rfl) dX11_gates_30 ⟨Nat.zero_le _, Nat.zero_le _⟩) hH (fun H locs hH => ?_)
      have hH : nm_H D Y (fun q => s0 ≤ q) s.heap X nl ad (M6.1, M6.2, N, K) H locs := hH
      exact nm_iret hx hb hr hlocks hQ hH (congrArg Prod.fst (Option.some.inj hf)) (congrArg (fun q => (q.2.1, q.2.2, N, K)) (Option.some.inj hf)) dX11_gates_33
    · have hf := nm_it c5 hf
      refine lv_iload_n hx hb dX11_gates_18 rfl (lv_at hl 3 rfl) ?_
      refine lv_bipush (v := 16) hx hb dX11_gates_19 (by decide) ?_
      refine nm_calli (nm_runS (X := X) (nl := nl) (k_X11_outside hL hN (hf := (rfl : f_X11_outside x3 (16 : Int32) = _))) hx hb hml hown hts hs0 hK hZ hH tw_321 tw_319 tw_320 tw_1 hd_X11_outside rfl rfl ⟨Nat.le_trans (Nat.le_of_ble_eq_true rfl) hRf, Nat.le_trans (Nat.le_of_ble_eq_true rfl) hRl⟩ rfl hl.1 rfl (Nat.le_of_ble_eq_true rfl) dX11_gates_21 ⟨Nat.zero_le _, Nat.zero_le _⟩) hH (fun H locs hH => ?_)
      have hH : nm_H D Y (fun q => s0 ≤ q) s.heap X nl ad (M.1, M.2, N, K) H locs := hH
      refine lv_if_eq (tgt := 34) hx hb dX11_gates_24 (by decide) (fun c9 => ?_) (fun c9 => ?_)
      · have hf := nm_it c9 hf
        refine lv_aload_n hx hb dX11_gates_34 rfl (lv_at hl 0 rfl) ?_
        refine gf_11_3 hK hx hb hts hown hH (cl_n0 hL) (cl_k0 hL) (hts _ tw_290) (fun _ h9 => h9) dX11_gates_35 ?_
        refine gf_2_0 hK hx hb hts hown hH (cl_n300 hL) (cl_k300 hL) (hts _ tw_169) (fun _ h9 => h9) dX11_gates_38 ?_
        refine lv_iconst (v := 1) hx hb dX11_gates_41 (by decide) ?_
        refine lv_iload_n hx hb dX11_gates_42 rfl (lv_at hl 3 rfl) ?_
        refine lv_ishl hx hb dX11_gates_43 ?_
        refine lv_iand hx hb dX11_gates_44 ?_
        refine lv_if_ne (tgt := 55) hx hb dX11_gates_45 (by decide) (fun c10 => ?_) (fun c10 => ?_)
        · have hf := nm_ie c10 hf
          refine lv_aload_n hx hb dX11_gates_55 rfl (lv_at hl 0 rfl) ?_
          refine gf_11_3 hK hx hb hts hown hH (cl_n0 hL) (cl_k0 hL) (hts _ tw_290) (fun _ h9 => h9) dX11_gates_56 ?_
          refine lv_iload_n hx hb dX11_gates_59 rfl (lv_at hl 1 rfl) ?_
          refine lv_iload_n hx hb dX11_gates_60 rfl (lv_at hl 2 rfl) ?_
          refine lv_iload_n hx hb dX11_gates_61 rfl (lv_at hl 3 rfl) ?_
          obtain ⟨M11, hc12, hf⟩ := nm_sd1 hf
          refine nm_callv (nm_runV (X := X) (nl := nl) (k_X2_tellGates hL hN (hf := hc12)) hx hb hml hown hts hs0 hK hZ hH tw_780 tw_777 tw_778 (sw_X2_tellGates) tw_6 hd_X2_tellGates (cl_n300 hL) (cl_k300 hL) (by decide) rfl rfl rfl ⟨Nat.le_trans (Nat.le_of_ble_eq_true rfl) hRf, Nat.le_trans (Nat.le_of_ble_eq_true rfl) hRl⟩ rfl hl.1 rfl (Nat.le_of_ble_eq_true rfl) dX11_gates_62 ⟨Nat.zero_le _, Nat.zero_le _⟩) hH (fun H locs hH => ?_)
          have hH : nm_H D Y (fun q => s0 ≤ q) s.heap X nl ad (M11.1, M11.2, N, K) H locs := hH
          refine lv_iconst (v := 1) hx hb dX11_gates_65 (by decide) ?_
          exact nm_iret hx hb hr hlocks hQ hH (congrArg Prod.fst (Option.some.inj hf)) (congrArg (fun q => (q.2.1, q.2.2, N, K)) (Option.some.inj hf)) dX11_gates_66
        · have hf := nm_it c10 hf
          refine lv_aload_n hx hb dX11_gates_48 rfl (lv_at hl 0 rfl) ?_
          refine lv_bipush (v := -7) hx hb dX11_gates_49 (by decide) ?_
          obtain ⟨r15, M13, hc14, hf⟩ := nm_sd2 hf
          refine nm_calli (nm_runV (X := X) (nl := nl) (k_X11_refuse hL hN (hf := hc14)) hx hb hml hown hts hs0 hK hZ hH tw_325 tw_322 tw_324 (sw_X11_refuse) tw_1 hd_X11_refuse (cl_n0 hL) (cl_k0 hL) (by decide) rfl rfl rfl ⟨Nat.le_trans (Nat.le_of_ble_eq_true rfl) hRf, Nat.le_trans (Nat.le_of_ble_eq_true rfl) hRl⟩ rfl hl.1 rfl (Nat.le_of_ble_eq_true rfl) dX11_gates_51 ⟨Nat.zero_le _, Nat.zero_le _⟩) hH (fun H locs hH => ?_)
          have hH : nm_H D Y (fun q => s0 ≤ q) s.heap X nl ad (M13.1, M13.2, N, K) H locs := hH
          exact nm_iret hx hb hr hlocks hQ hH (congrArg Prod.fst (Option.some.inj hf)) (congrArg (fun q => (q.2.1, q.2.2, N, K)) (Option.some.inj hf)) dX11_gates_54
      · have hf := nm_ie c9 hf
        refine lv_aload_n hx hb dX11_gates_27 rfl (lv_at hl 0 rfl) ?_
        refine lv_bipush (v := -3) hx hb dX11_gates_28 (by decide) ?_
        obtain ⟨r18, M16, hc17, hf⟩ := nm_sd2 hf
        refine nm_calli (nm_runV (X := X) (nl := nl) (k_X11_refuse hL hN (hf := hc17)) hx hb hml hown hts hs0 hK hZ hH tw_325 tw_322 tw_324 (sw_X11_refuse) tw_1 hd_X11_refuse (cl_n0 hL) (cl_k0 hL) (by decide) rfl rfl rfl ⟨Nat.le_trans (Nat.le_of_ble_eq_true rfl) hRf, Nat.le_trans (Nat.le_of_ble_eq_true rfl) hRl⟩ rfl hl.1 rfl (Nat.le_of_ble_eq_true rfl) dX11_gates_30 ⟨Nat.zero_le _, Nat.zero_le _⟩) hH (fun H locs hH => ?_)
        have hH : nm_H D Y (fun q => s0 ≤ q) s.heap X nl ad (M16.1, M16.2, N, K) H locs := hH
        exact nm_iret hx hb hr hlocks hQ hH (congrArg Prod.fst (Option.some.inj hf)) (congrArg (fun q => (q.2.1, q.2.2, N, K)) (Option.some.inj hf)) dX11_gates_33
def f_X11_net (N : Nat → Nat) (x1 : Int32) (x2 : Int32) (M : cm) : Option (Int32 × cm) :=
(if (f_X11_outside x1 (16 : Int32)) = 0 then
(if (f_X11_outside x2 (4096 : Int32)) = 0 then
(if (M.1 300 2) = 0 then
nm_s2 (f_X11_refuse (-2 : Int32) M) fun r15 M13 =>
some (r15, M13)
else
(if (f_X2_conducted x1 M) = 0 then
nm_s2 (f_X11_refuse (-7 : Int32) M) fun r10 M8 =>
some (r10, M8)
else
nm_s1 (f_X2_netAt N x1 x2 M) fun r11 =>
some (r11, M)))
else
nm_s2 (f_X11_refuse (-3 : Int32) M) fun r18 M16 =>
some (r18, M16))
else
nm_s2 (f_X11_refuse (-3 : Int32) M) fun r4 M2 =>
some (r4, M2))
set_option maxHeartbeats 4000000 in
set_option maxRecDepth 100000 in
theorem k_X11_net {l : Launch} {D : va_G} {Y : nm_Y} {s0 : Nat} {X : va_W} {ad : Nat → Nat} {nl : List Nat} {N K : Nat → Nat} (hL : cl_L nl K) (hN : cl_N N) {x1 : Int32} {x2 : Int32} {M : cm} {r0 : Int32} {M0 : cm} (hf : f_X11_net N x1 x2 M = some (r0, M0)) :
    nm_Met l yX11_net cX11_net 3 (some .int) { frames := 4, cells := 0, slots := 0, locals := 89 } [.ref (ad 0), .int x1, .int x2] D Y s0 (nm_W Y X nl ad (M.1, M.2, N, K)) (nm_Qi D s0 r0 (nm_W Y X nl ad (M0.1, M0.2, N, K))) 0 0 := by
  refine nm_of (by decide) (Nat.le_of_ble_eq_true rfl) ?_
  intro p e R s m args below meth c Q ls hx hb hr hlocks hml hown hts hs0 hK hZ hRf hRl hRc hRs hQ hP hD hl
  have hH : nm_H D Y (fun q => s0 ≤ q) s.heap X nl ad (M.1, M.2, N, K) s.heap [] := ⟨hP, hD, va_S.rf⟩
  have hl : lv_has ls 3 [(0, .ref (ad 0)), (1, .int x1), (2, .int x2)] := hl
  unfold f_X11_net at hf
  refine lv_iload_n hx hb dX11_net_0 rfl (lv_at hl 1 rfl) ?_
  refine lv_bipush (v := 16) hx hb dX11_net_1 (by decide) ?_
  refine nm_calli (nm_runS (X := X) (nl := nl) (k_X11_outside hL hN (hf := (rfl : f_X11_outside x1 (16 : Int32) = _))) hx hb hml hown hts hs0 hK hZ hH tw_321 tw_319 tw_320 tw_1 hd_X11_outside rfl rfl ⟨Nat.le_trans (Nat.le_of_ble_eq_true rfl) hRf, Nat.le_trans (Nat.le_of_ble_eq_true rfl) hRl⟩ rfl hl.1 rfl (Nat.le_of_ble_eq_true rfl) dX11_net_3 ⟨Nat.zero_le _, Nat.zero_le _⟩) hH (fun H locs hH => ?_)
  have hH : nm_H D Y (fun q => s0 ≤ q) s.heap X nl ad (M.1, M.2, N, K) H locs := hH
  refine lv_if_ne (tgt := 19) hx hb dX11_net_6 (by decide) (fun c1 => ?_) (fun c1 => ?_)
  · have hf := nm_ie c1 hf
    refine lv_aload_n hx hb dX11_net_19 rfl (lv_at hl 0 rfl) ?_
    refine lv_bipush (v := -3) hx hb dX11_net_20 (by decide) ?_
    obtain ⟨r4, M2, hc3, hf⟩ := nm_sd2 hf
    refine nm_calli (nm_runV (X := X) (nl := nl) (k_X11_refuse hL hN (hf := hc3)) hx hb hml hown hts hs0 hK hZ hH tw_325 tw_322 tw_324 (sw_X11_refuse) tw_1 hd_X11_refuse (cl_n0 hL) (cl_k0 hL) (by decide) rfl rfl rfl ⟨Nat.le_trans (Nat.le_of_ble_eq_true rfl) hRf, Nat.le_trans (Nat.le_of_ble_eq_true rfl) hRl⟩ rfl hl.1 rfl (Nat.le_of_ble_eq_true rfl) dX11_net_22 ⟨Nat.zero_le _, Nat.zero_le _⟩) hH (fun H locs hH => ?_)
    have hH : nm_H D Y (fun q => s0 ≤ q) s.heap X nl ad (M2.1, M2.2, N, K) H locs := hH
    exact nm_iret hx hb hr hlocks hQ hH (congrArg Prod.fst (Option.some.inj hf)) (congrArg (fun q => (q.2.1, q.2.2, N, K)) (Option.some.inj hf)) dX11_net_25
  · have hf := nm_it c1 hf
    refine lv_iload_n hx hb dX11_net_9 rfl (lv_at hl 2 rfl) ?_
    refine lv_sipush (v := 4096) hx hb dX11_net_10 (by decide) ?_
    refine nm_calli (nm_runS (X := X) (nl := nl) (k_X11_outside hL hN (hf := (rfl : f_X11_outside x2 (4096 : Int32) = _))) hx hb hml hown hts hs0 hK hZ hH tw_321 tw_319 tw_320 tw_1 hd_X11_outside rfl rfl ⟨Nat.le_trans (Nat.le_of_ble_eq_true rfl) hRf, Nat.le_trans (Nat.le_of_ble_eq_true rfl) hRl⟩ rfl hl.1 rfl (Nat.le_of_ble_eq_true rfl) dX11_net_13 ⟨Nat.zero_le _, Nat.zero_le _⟩) hH (fun H locs hH => ?_)
    have hH : nm_H D Y (fun q => s0 ≤ q) s.heap X nl ad (M.1, M.2, N, K) H locs := hH
    refine lv_if_eq (tgt := 26) hx hb dX11_net_16 (by decide) (fun c5 => ?_) (fun c5 => ?_)
    · have hf := nm_it c5 hf
      refine lv_aload_n hx hb dX11_net_26 rfl (lv_at hl 0 rfl) ?_
      refine gf_11_3 hK hx hb hts hown hH (cl_n0 hL) (cl_k0 hL) (hts _ tw_290) (fun _ h9 => h9) dX11_net_27 ?_
      refine gf_2_2 hK hx hb hts hown hH (cl_n300 hL) (cl_k300 hL) (hts _ tw_173) (fun _ h9 => h9) dX11_net_30 ?_
      refine lv_if_ne (tgt := 43) hx hb dX11_net_33 (by decide) (fun c6 => ?_) (fun c6 => ?_)
      · have hf := nm_ie c6 hf
        refine lv_aload_n hx hb dX11_net_43 rfl (lv_at hl 0 rfl) ?_
        refine gf_11_3 hK hx hb hts hown hH (cl_n0 hL) (cl_k0 hL) (hts _ tw_290) (fun _ h9 => h9) dX11_net_44 ?_
        refine lv_iload_n hx hb dX11_net_47 rfl (lv_at hl 1 rfl) ?_
        refine nm_calli (nm_runV (X := X) (nl := nl) (k_X2_conducted hL hN (hf := (rfl : f_X2_conducted x1 M = _))) hx hb hml hown hts hs0 hK hZ hH tw_844 tw_841 tw_842 (sw_X2_conducted) tw_6 hd_X2_conducted (cl_n300 hL) (cl_k300 hL) (by decide) rfl rfl rfl ⟨Nat.le_trans (Nat.le_of_ble_eq_true rfl) hRf, Nat.le_trans (Nat.le_of_ble_eq_true rfl) hRl⟩ rfl hl.1 rfl (Nat.le_of_ble_eq_true rfl) dX11_net_48 ⟨Nat.zero_le _, Nat.zero_le _⟩) hH (fun H locs hH => ?_)
        have hH : nm_H D Y (fun q => s0 ≤ q) s.heap X nl ad (M.1, M.2, N, K) H locs := hH
        refine lv_if_eq (tgt := 66) hx hb dX11_net_51 (by decide) (fun c7 => ?_) (fun c7 => ?_)
        · have hf := nm_it c7 hf
          refine lv_aload_n hx hb dX11_net_66 rfl (lv_at hl 0 rfl) ?_
          refine lv_bipush (v := -7) hx hb dX11_net_67 (by decide) ?_
          obtain ⟨r10, M8, hc9, hf⟩ := nm_sd2 hf
          refine nm_calli (nm_runV (X := X) (nl := nl) (k_X11_refuse hL hN (hf := hc9)) hx hb hml hown hts hs0 hK hZ hH tw_325 tw_322 tw_324 (sw_X11_refuse) tw_1 hd_X11_refuse (cl_n0 hL) (cl_k0 hL) (by decide) rfl rfl rfl ⟨Nat.le_trans (Nat.le_of_ble_eq_true rfl) hRf, Nat.le_trans (Nat.le_of_ble_eq_true rfl) hRl⟩ rfl hl.1 rfl (Nat.le_of_ble_eq_true rfl) dX11_net_69 ⟨Nat.zero_le _, Nat.zero_le _⟩) hH (fun H locs hH => ?_)
          have hH : nm_H D Y (fun q => s0 ≤ q) s.heap X nl ad (M8.1, M8.2, N, K) H locs := hH
          exact nm_iret hx hb hr hlocks hQ hH (congrArg Prod.fst (Option.some.inj hf)) (congrArg (fun q => (q.2.1, q.2.2, N, K)) (Option.some.inj hf)) dX11_net_72
        · have hf := nm_ie c7 hf
          refine lv_aload_n hx hb dX11_net_54 rfl (lv_at hl 0 rfl) ?_
          refine gf_11_3 hK hx hb hts hown hH (cl_n0 hL) (cl_k0 hL) (hts _ tw_290) (fun _ h9 => h9) dX11_net_55 ?_
          refine lv_iload_n hx hb dX11_net_58 rfl (lv_at hl 1 rfl) ?_
          refine lv_iload_n hx hb dX11_net_59 rfl (lv_at hl 2 rfl) ?_
          obtain ⟨r11, hc12, hf⟩ := nm_sd1 hf
          refine nm_calli (nm_runV (X := X) (nl := nl) (k_X2_netAt hL hN (hf := hc12)) hx hb hml hown hts hs0 hK hZ hH tw_814 tw_845 tw_812 (sw_X2_netAt) tw_6 hd_X2_netAt (cl_n300 hL) (cl_k300 hL) (by decide) rfl rfl rfl ⟨Nat.le_trans (Nat.le_of_ble_eq_true rfl) hRf, Nat.le_trans (Nat.le_of_ble_eq_true rfl) hRl⟩ rfl hl.1 rfl (Nat.le_of_ble_eq_true rfl) dX11_net_60 ⟨Nat.zero_le _, Nat.zero_le _⟩) hH (fun H locs hH => ?_)
          have hH : nm_H D Y (fun q => s0 ≤ q) s.heap X nl ad (M.1, M.2, N, K) H locs := hH
          refine lv_goto (tgt := 72) hx hb dX11_net_63 (by decide) ?_
          exact nm_iret hx hb hr hlocks hQ hH (congrArg Prod.fst (Option.some.inj hf)) (congrArg (fun q => (q.2.1, q.2.2, N, K)) (Option.some.inj hf)) dX11_net_72
      · have hf := nm_it c6 hf
        refine lv_aload_n hx hb dX11_net_36 rfl (lv_at hl 0 rfl) ?_
        refine lv_bipush (v := -2) hx hb dX11_net_37 (by decide) ?_
        obtain ⟨r15, M13, hc14, hf⟩ := nm_sd2 hf
        refine nm_calli (nm_runV (X := X) (nl := nl) (k_X11_refuse hL hN (hf := hc14)) hx hb hml hown hts hs0 hK hZ hH tw_325 tw_322 tw_324 (sw_X11_refuse) tw_1 hd_X11_refuse (cl_n0 hL) (cl_k0 hL) (by decide) rfl rfl rfl ⟨Nat.le_trans (Nat.le_of_ble_eq_true rfl) hRf, Nat.le_trans (Nat.le_of_ble_eq_true rfl) hRl⟩ rfl hl.1 rfl (Nat.le_of_ble_eq_true rfl) dX11_net_39 ⟨Nat.zero_le _, Nat.zero_le _⟩) hH (fun H locs hH => ?_)
        have hH : nm_H D Y (fun q => s0 ≤ q) s.heap X nl ad (M13.1, M13.2, N, K) H locs := hH
        exact nm_iret hx hb hr hlocks hQ hH (congrArg Prod.fst (Option.some.inj hf)) (congrArg (fun q => (q.2.1, q.2.2, N, K)) (Option.some.inj hf)) dX11_net_42
    · have hf := nm_ie c5 hf
      refine lv_aload_n hx hb dX11_net_19 rfl (lv_at hl 0 rfl) ?_
      refine lv_bipush (v := -3) hx hb dX11_net_20 (by decide) ?_
      obtain ⟨r18, M16, hc17, hf⟩ := nm_sd2 hf
      refine nm_calli (nm_runV (X := X) (nl := nl) (k_X11_refuse hL hN (hf := hc17)) hx hb hml hown hts hs0 hK hZ hH tw_325 tw_322 tw_324 (sw_X11_refuse) tw_1 hd_X11_refuse (cl_n0 hL) (cl_k0 hL) (by decide) rfl rfl rfl ⟨Nat.le_trans (Nat.le_of_ble_eq_true rfl) hRf, Nat.le_trans (Nat.le_of_ble_eq_true rfl) hRl⟩ rfl hl.1 rfl (Nat.le_of_ble_eq_true rfl) dX11_net_22 ⟨Nat.zero_le _, Nat.zero_le _⟩) hH (fun H locs hH => ?_)
      have hH : nm_H D Y (fun q => s0 ≤ q) s.heap X nl ad (M16.1, M16.2, N, K) H locs := hH
      exact nm_iret hx hb hr hlocks hQ hH (congrArg Prod.fst (Option.some.inj hf)) (congrArg (fun q => (q.2.1, q.2.2, N, K)) (Option.some.inj hf)) dX11_net_25
def f_X11_name (N : Nat → Nat) (x1 : Int32) (x2 : Int32) (M : cm) : Option (Int32 × cm) :=
(if (M.1 300 2) = 0 then
nm_s2 (f_X11_refuse (-2 : Int32) M) fun r14 M12 =>
some (r14, M12)
else
(if (f_X11_outside x1 (M.1 310 1)) = 0 then
(if 0 ≤ x2 then
nm_s1 (f_X2_nameOf N x1 x2 M) fun r4 =>
some (r4, M)
else
nm_s2 (f_X11_refuse (-4 : Int32) M) fun r8 M6 =>
some (r8, M6))
else
nm_s2 (f_X11_refuse (-3 : Int32) M) fun r11 M9 =>
some (r11, M9)))
set_option maxHeartbeats 4000000 in
set_option maxRecDepth 100000 in
theorem k_X11_name {l : Launch} {D : va_G} {Y : nm_Y} {s0 : Nat} {X : va_W} {ad : Nat → Nat} {nl : List Nat} {N K : Nat → Nat} (hL : cl_L nl K) (hN : cl_N N) {x1 : Int32} {x2 : Int32} {M : cm} {r0 : Int32} {M0 : cm} (hf : f_X11_name N x1 x2 M = some (r0, M0)) :
    nm_Met l yX11_name cX11_name 3 (some .int) { frames := 5, cells := 0, slots := 0, locals := 115 } [.ref (ad 0), .int x1, .int x2] D Y s0 (nm_W Y X nl ad (M.1, M.2, N, K)) (nm_Qi D s0 r0 (nm_W Y X nl ad (M0.1, M0.2, N, K))) 0 0 := by
  refine nm_of (by decide) (Nat.le_of_ble_eq_true rfl) ?_
  intro p e R s m args below meth c Q ls hx hb hr hlocks hml hown hts hs0 hK hZ hRf hRl hRc hRs hQ hP hD hl
  have hH : nm_H D Y (fun q => s0 ≤ q) s.heap X nl ad (M.1, M.2, N, K) s.heap [] := ⟨hP, hD, va_S.rf⟩
  have hl : lv_has ls 3 [(0, .ref (ad 0)), (1, .int x1), (2, .int x2)] := hl
  unfold f_X11_name at hf
  refine lv_aload_n hx hb dX11_name_0 rfl (lv_at hl 0 rfl) ?_
  refine gf_11_3 hK hx hb hts hown hH (cl_n0 hL) (cl_k0 hL) (hts _ tw_290) (fun _ h9 => h9) dX11_name_1 ?_
  refine gf_2_2 hK hx hb hts hown hH (cl_n300 hL) (cl_k300 hL) (hts _ tw_173) (fun _ h9 => h9) dX11_name_4 ?_
  refine lv_if_ne (tgt := 17) hx hb dX11_name_7 (by decide) (fun c1 => ?_) (fun c1 => ?_)
  · have hf := nm_ie c1 hf
    refine lv_iload_n hx hb dX11_name_17 rfl (lv_at hl 1 rfl) ?_
    refine lv_aload_n hx hb dX11_name_18 rfl (lv_at hl 0 rfl) ?_
    refine gf_11_3 hK hx hb hts hown hH (cl_n0 hL) (cl_k0 hL) (hts _ tw_290) (fun _ h9 => h9) dX11_name_19 ?_
    refine gf_2_4 hK hx hb hts hown hH (cl_n300 hL) (cl_k300 hL) (hts _ tw_178) (fun _ h9 => h9) dX11_name_22 ?_
    refine gf_4_1 hK hx hb hts hown hH (cl_n310 hL) (cl_k310 hL) (hts _ tw_45) (fun _ h9 => h9) dX11_name_25 ?_
    refine nm_calli (nm_runS (X := X) (nl := nl) (k_X11_outside hL hN (hf := (rfl : f_X11_outside x1 (M.1 310 1) = _))) hx hb hml hown hts hs0 hK hZ hH tw_321 tw_319 tw_320 tw_1 hd_X11_outside rfl rfl ⟨Nat.le_trans (Nat.le_of_ble_eq_true rfl) hRf, Nat.le_trans (Nat.le_of_ble_eq_true rfl) hRl⟩ rfl hl.1 rfl (Nat.le_of_ble_eq_true rfl) dX11_name_28 ⟨Nat.zero_le _, Nat.zero_le _⟩) hH (fun H locs hH => ?_)
    have hH : nm_H D Y (fun q => s0 ≤ q) s.heap X nl ad (M.1, M.2, N, K) H locs := hH
    refine lv_if_eq (tgt := 41) hx hb dX11_name_31 (by decide) (fun c2 => ?_) (fun c2 => ?_)
    · have hf := nm_it c2 hf
      refine lv_iload_n hx hb dX11_name_41 rfl (lv_at hl 2 rfl) ?_
      refine lv_if_ge (tgt := 54) hx hb dX11_name_42 (by decide) (fun c3 => ?_) (fun c3 => ?_)
      · have hf := nm_it c3 hf
        refine lv_aload_n hx hb dX11_name_54 rfl (lv_at hl 0 rfl) ?_
        refine gf_11_3 hK hx hb hts hown hH (cl_n0 hL) (cl_k0 hL) (hts _ tw_290) (fun _ h9 => h9) dX11_name_55 ?_
        refine lv_aload_n hx hb dX11_name_58 rfl (lv_at hl 0 rfl) ?_
        refine gf_11_1 hK hx hb hts hown hH (cl_n0 hL) (cl_k0 hL) (hts _ tw_288) (fun _ h9 => h9) dX11_name_59 ?_
        refine lv_iload_n hx hb dX11_name_62 rfl (lv_at hl 1 rfl) ?_
        refine lv_iload_n hx hb dX11_name_63 rfl (lv_at hl 2 rfl) ?_
        obtain ⟨r4, hc5, hf⟩ := nm_sd1 hf
        refine nm_calli (nm_runV (X := X) (nl := nl) (k_X2_nameOf hL hN (hf := hc5)) hx hb hml hown hts hs0 hK hZ hH tw_853 tw_850 tw_851 (sw_X2_nameOf) tw_6 hd_X2_nameOf (cl_n300 hL) (cl_k300 hL) (by decide) rfl rfl rfl ⟨Nat.le_trans (Nat.le_of_ble_eq_true rfl) hRf, Nat.le_trans (Nat.le_of_ble_eq_true rfl) hRl⟩ rfl hl.1 rfl (Nat.le_of_ble_eq_true rfl) dX11_name_64 ⟨Nat.zero_le _, Nat.zero_le _⟩) hH (fun H locs hH => ?_)
        have hH : nm_H D Y (fun q => s0 ≤ q) s.heap X nl ad (M.1, M.2, N, K) H locs := hH
        exact nm_iret hx hb hr hlocks hQ hH (congrArg Prod.fst (Option.some.inj hf)) (congrArg (fun q => (q.2.1, q.2.2, N, K)) (Option.some.inj hf)) dX11_name_67
      · have hf := nm_ie c3 hf
        refine lv_aload_n hx hb dX11_name_45 rfl (lv_at hl 0 rfl) ?_
        refine lv_bipush (v := -4) hx hb dX11_name_46 (by decide) ?_
        obtain ⟨r8, M6, hc7, hf⟩ := nm_sd2 hf
        refine nm_calli (nm_runV (X := X) (nl := nl) (k_X11_refuse hL hN (hf := hc7)) hx hb hml hown hts hs0 hK hZ hH tw_325 tw_322 tw_324 (sw_X11_refuse) tw_1 hd_X11_refuse (cl_n0 hL) (cl_k0 hL) (by decide) rfl rfl rfl ⟨Nat.le_trans (Nat.le_of_ble_eq_true rfl) hRf, Nat.le_trans (Nat.le_of_ble_eq_true rfl) hRl⟩ rfl hl.1 rfl (Nat.le_of_ble_eq_true rfl) dX11_name_48 ⟨Nat.zero_le _, Nat.zero_le _⟩) hH (fun H locs hH => ?_)
        have hH : nm_H D Y (fun q => s0 ≤ q) s.heap X nl ad (M6.1, M6.2, N, K) H locs := hH
        refine lv_goto (tgt := 67) hx hb dX11_name_51 (by decide) ?_
        exact nm_iret hx hb hr hlocks hQ hH (congrArg Prod.fst (Option.some.inj hf)) (congrArg (fun q => (q.2.1, q.2.2, N, K)) (Option.some.inj hf)) dX11_name_67
    · have hf := nm_ie c2 hf
      refine lv_aload_n hx hb dX11_name_34 rfl (lv_at hl 0 rfl) ?_
      refine lv_bipush (v := -3) hx hb dX11_name_35 (by decide) ?_
      obtain ⟨r11, M9, hc10, hf⟩ := nm_sd2 hf
      refine nm_calli (nm_runV (X := X) (nl := nl) (k_X11_refuse hL hN (hf := hc10)) hx hb hml hown hts hs0 hK hZ hH tw_325 tw_322 tw_324 (sw_X11_refuse) tw_1 hd_X11_refuse (cl_n0 hL) (cl_k0 hL) (by decide) rfl rfl rfl ⟨Nat.le_trans (Nat.le_of_ble_eq_true rfl) hRf, Nat.le_trans (Nat.le_of_ble_eq_true rfl) hRl⟩ rfl hl.1 rfl (Nat.le_of_ble_eq_true rfl) dX11_name_37 ⟨Nat.zero_le _, Nat.zero_le _⟩) hH (fun H locs hH => ?_)
      have hH : nm_H D Y (fun q => s0 ≤ q) s.heap X nl ad (M9.1, M9.2, N, K) H locs := hH
      exact nm_iret hx hb hr hlocks hQ hH (congrArg Prod.fst (Option.some.inj hf)) (congrArg (fun q => (q.2.1, q.2.2, N, K)) (Option.some.inj hf)) dX11_name_40
  · have hf := nm_it c1 hf
    refine lv_aload_n hx hb dX11_name_10 rfl (lv_at hl 0 rfl) ?_
    refine lv_bipush (v := -2) hx hb dX11_name_11 (by decide) ?_
    obtain ⟨r14, M12, hc13, hf⟩ := nm_sd2 hf
    refine nm_calli (nm_runV (X := X) (nl := nl) (k_X11_refuse hL hN (hf := hc13)) hx hb hml hown hts hs0 hK hZ hH tw_325 tw_322 tw_324 (sw_X11_refuse) tw_1 hd_X11_refuse (cl_n0 hL) (cl_k0 hL) (by decide) rfl rfl rfl ⟨Nat.le_trans (Nat.le_of_ble_eq_true rfl) hRf, Nat.le_trans (Nat.le_of_ble_eq_true rfl) hRl⟩ rfl hl.1 rfl (Nat.le_of_ble_eq_true rfl) dX11_name_13 ⟨Nat.zero_le _, Nat.zero_le _⟩) hH (fun H locs hH => ?_)
    have hH : nm_H D Y (fun q => s0 ≤ q) s.heap X nl ad (M12.1, M12.2, N, K) H locs := hH
    exact nm_iret hx hb hr hlocks hQ hH (congrArg Prod.fst (Option.some.inj hf)) (congrArg (fun q => (q.2.1, q.2.2, N, K)) (Option.some.inj hf)) dX11_name_16
