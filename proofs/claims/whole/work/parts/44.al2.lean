def f_X11_flat_J46 (K : Nat → Nat) (x2 : Int32) (x3 : Int32) (S5 : ca) (k : Int32 → Int32 → ca → Option (Int32 × ca)) : Option (Int32 × ca) :=
k x2 (x3 + (-1)) S5
def f_X11_flat_L22 (K : Nat → Nat) : Nat → Int32 → Int32 → ca → Option (Int32 × ca)
  | 0, _, _, _ => none
  | n22 + 1, x2, x3, S3 =>
    (if x3 < 0 then
    some (x2, S3)
    else
    (if (x2 &&& ((1 : Int32) <<< (x3 &&& 31))) = 0 then
    f_X11_flat_J46 K x2 x3 S3 (f_X11_flat_L22 K n22)
    else
    nm_c x3 8 (
    nm_l (1000 + 100 * x3.toNatClampNeg) fun w8 =>
    nm_s1 (f_X1_placedCells w8 K S3.1) fun r9 =>
    nm_l (x2 ||| r9) fun v11 =>
    f_X11_flat_J46 K v11 x3 S3 (f_X11_flat_L22 K n22))))
def f_X11_flat_J84 (K : Nat → Nat) (x3 : Int32) (S16 : ca) (k : Int32 → ca → Option ((ca) × Nat × Nat)) : Option ((ca) × Nat × Nat) :=
k (x3 + 1) S16
def f_X11_flat_L54 (K : Nat → Nat) (x1 : Int32) (y12 : Int32) : Nat → Int32 → ca → Option ((ca) × Nat × Nat)
  | 0, _, _ => none
  | n54 + 1, x3, S14 =>
    (if x1 < x3 then
    some (S14, 0, 0)
    else
    (if (y12 &&& ((1 : Int32) <<< (x3 &&& 31))) = 0 then
    f_X11_flat_J84 K x3 S14 (f_X11_flat_L54 K x1 y12 n54)
    else
    nm_c x3 8 (
    nm_l (1000 + 100 * x3.toNatClampNeg) fun w19 =>
    nm_a1 (f_X1_settle w19 K S14) fun S20 =>
    f_X11_flat_J84 K x3 S20 (f_X11_flat_L54 K x1 y12 n54))))
def f_X11_flat (K : Nat → Nat) (x1 : Int32) (S : ca) : Option ((Int32 × ca) × Nat × Nat) :=
(if (f_X11_outside x1 (8 : Int32)) = 0 then
nm_l ((1 : Int32) <<< (x1 &&& 31)) fun v2 =>
nm_s2 (f_X11_flat_L22 K nm_F v2 x1 S) fun y12 S13 =>
nm_a1 (f_X11_flat_L54 K x1 y12 nm_F (0 : Int32) S13) fun S24 =>
nm_l (((nm_up S24.1.1 200 1 (0 : Int32), S24.1.2), S24.2)) fun S25 =>
nm_l (((nm_up S25.1.1 300 2 (0 : Int32), S25.1.2), S25.2)) fun S26 =>
nm_l (((nm_up S26.1.1 400 3 (0 : Int32), S26.1.2), S26.2)) fun S27 =>
nm_c x1 8 (
nm_l (1000 + 100 * x1.toNatClampNeg) fun w29 =>
nm_a2 (f_X3_take w29 S27) fun r34 S30 =>
some ((r34, S30), 0, 0))
else
nm_s2 (f_X11_refuse (-3 : Int32) S.1) fun r41 M39 =>
nm_l (M39, S.2) fun S42 =>
some ((r41, S42), 0, 0))
set_option maxHeartbeats 4000000 in
set_option maxRecDepth 100000 in
theorem k_X11_flat {l : Launch} {D : va_G} {Y : nm_Y} {s0 : Nat} {X : va_W} {ad : Nat → Nat} {nl : List Nat} {K : Nat → Nat} (hL : cl_L nl K) {x1 : Int32} {S M0 : ca} {r0 : Int32} {dc ds : Nat} (hN : cl_N S.2) (hf : f_X11_flat K x1 S = some ((r0, M0), dc, ds)) :
    nm_Met l yX11_flat cX11_flat 4 (some .int) { frames := 7, cells := dc, slots := ds, locals := 168 } [.ref (ad 0), .int x1] D Y s0 (nm_W Y X nl ad (S.1.1, S.1.2, S.2, K)) (nm_QiA D Y s0 X nl ad r0 (M0.1.1, M0.1.2, M0.2, K)) dc ds := by
  refine nm_of (by decide) (Nat.le_of_ble_eq_true rfl) ?_
  intro p e R s m args below meth c Q ls hx hb hr hlocks hml hown hts hs0 hK hZ hRf hRl hRc hRs hQ hP hD hl
  have hH : nm_H D Y (fun q => s0 ≤ q) s.heap X nl ad (S.1.1, S.1.2, S.2, K) s.heap [] := ⟨hP, hD, va_S.rf⟩
  have hl : lv_has ls 4 [(0, .ref (ad 0)), (1, .int x1)] := hl
  obtain ⟨ad0, had0⟩ : ∃ y, y = ad := ⟨_, rfl⟩
  have hAd : cl_a ad0 ad := by rw [had0]; exact cl_a.rf
  rw [← had0] at hQ
  obtain ⟨cells, ecells⟩ : ∃ y, y = 0 := ⟨_, rfl⟩
  obtain ⟨slots, eslots⟩ : ∃ y, y = 0 := ⟨_, rfl⟩
  have hC : cells + dc ≤ R.cells ∧ slots + ds ≤ R.slots := ⟨by omega, by omega⟩
  refine W.widen (k := cells) (n := slots) (Nat.zero_le _) (Nat.zero_le _) ?_
  obtain ⟨mc, emc⟩ : ∃ y, y = dc := ⟨_, rfl⟩
  obtain ⟨ms, ems⟩ : ∃ y, y = ds := ⟨_, rfl⟩
  rw [← emc] at hRc hQ
  rw [← ems] at hRs hQ
  obtain ⟨tc, htc⟩ : ∃ y, y = cells + dc := ⟨_, rfl⟩
  obtain ⟨tsl, htsl⟩ : ∃ y, y = slots + ds := ⟨_, rfl⟩
  unfold f_X11_flat at hf
  refine lv_iload_n hx hb dX11_flat_0 rfl (lv_at hl 1 rfl) ?_
  refine lv_bipush (v := 8) hx hb dX11_flat_1 (by decide) ?_
  refine nm_calli (nm_runS (X := X) (nl := nl) (k_X11_outside hL hN (hf := (rfl : f_X11_outside x1 (8 : Int32) = _))) hx hb hml hown hts hs0 hK hZ hH tw_321 tw_319 tw_320 tw_1 hd_X11_outside rfl rfl ⟨Nat.le_trans (Nat.le_of_ble_eq_true rfl) hRf, Nat.le_trans (Nat.le_of_ble_eq_true rfl) hRl⟩ rfl hl.1 rfl (Nat.le_of_ble_eq_true rfl) dX11_flat_3 ⟨Nat.le_trans (Nat.le_add_right _ _) hC.1, Nat.le_trans (Nat.le_add_right _ _) hC.2⟩) hH (fun H locs hH => ?_)
  have hH : nm_H D Y (fun q => s0 ≤ q) s.heap X nl ad (S.1.1, S.1.2, S.2, K) H locs := hH
  refine lv_if_eq (tgt := 16) hx hb dX11_flat_6 (by decide) (fun c1 => ?_) (fun c1 => ?_)
  · have hf := nm_it c1 hf
    refine lv_iconst (v := 1) hx hb dX11_flat_16 (by decide) ?_
    refine lv_iload_n hx hb dX11_flat_17 rfl (lv_at hl 1 rfl) ?_
    refine lv_ishl hx hb dX11_flat_18 ?_
    obtain ⟨v2, ev2, hf⟩ := nm_let hf
    refine nm_topi ev2 ?_
    refine lv_istore_n (lv' := [(2, .int v2), (0, .ref (ad 0)), (1, .int x1)]) hx hb dX11_flat_19 rfl hl (by decide) rfl (fun ls hl => ?_)
    refine lv_iload_n hx hb dX11_flat_20 rfl (lv_at hl 2 rfl) ?_
    refine lv_istore_n (lv' := [(3, .int x1), (2, .int v2), (0, .ref (ad 0)), (1, .int x1)]) hx hb dX11_flat_21 rfl hl (by decide) rfl (fun ls hl => ?_)
    have hL22 : ∀ (n22 : Nat) (x2 : Int32) (x3 : Int32) (S3 : ca) (H : Heap) (locs : List Loc) (ls : Array Slot) (o22 : Int32 × ca), cl_N S3.2 → nm_H D Y (fun q => s0 ≤ q) s.heap X nl ad (S3.1.1, S3.1.2, S3.2, K) H locs → lv_has ls 4 [(0, .ref (ad 0)), (1, .int x1), (2, .int x2), (3, .int x3)] → f_X11_flat_L22 K n22 x2 x3 S3 = some o22 → (∀ (H : Heap) (locs : List Loc) (ls : Array Slot), cl_N o22.2.2 → nm_H D Y (fun q => s0 ≤ q) s.heap X nl ad (o22.2.1.1, o22.2.1.2, o22.2.2, K) H locs → lv_has ls 4 [(0, .ref (ad 0)), (1, .int x1), (2, .int o22.1)] → W p l e R s m args below meth c H locs cells slots Q (F0 m 52 ls [])) → W p l e R s m args below meth c H locs cells slots Q (F0 m 22 ls []) := by
      intro n22
      induction n22 with
      | zero =>
        intro x2 x3 S3 H locs ls o22 hN hH hl hf hX22
        cases hf
      | succ n22 ih22 =>
        intro x2 x3 S3 H locs ls o22 hN hH hl hf hX22
        rw [f_X11_flat_L22] at hf
        refine lv_iload_n hx hb dX11_flat_22 rfl (lv_at hl 3 rfl) ?_
        refine lv_if_lt (tgt := 52) hx hb dX11_flat_23 (by decide) (fun c4 => ?_) (fun c4 => ?_)
        · have hf := nm_it c4 hf
          cases hf
          exact hX22 _ _ _ hN hH (lv_sub hl [0, 1, 2] rfl)
        · have hf := nm_ie c4 hf
          refine lv_iload_n hx hb dX11_flat_26 rfl (lv_at hl 2 rfl) ?_
          refine lv_iconst (v := 1) hx hb dX11_flat_27 (by decide) ?_
          refine lv_iload_n hx hb dX11_flat_28 rfl (lv_at hl 3 rfl) ?_
          refine lv_ishl hx hb dX11_flat_29 ?_
          refine lv_iand hx hb dX11_flat_30 ?_
          have hJ46 : ∀ (x2 : Int32) (S5 : ca) (H : Heap) (locs : List Loc) (ls : Array Slot), cl_N S5.2 → nm_H D Y (fun q => s0 ≤ q) s.heap X nl ad (S5.1.1, S5.1.2, S5.2, K) H locs → lv_has ls 4 [(0, .ref (ad 0)), (1, .int x1), (2, .int x2), (3, .int x3)] → f_X11_flat_J46 K x2 x3 S5 (f_X11_flat_L22 K n22) = some o22 → W p l e R s m args below meth c H locs cells slots Q (F0 m 46 ls []) := by
            intro x2 S5 H locs ls hN hH hl hf
            unfold f_X11_flat_J46 at hf
            refine lv_iinc (v := x3 + (-1)) (lv' := [(3, .int (x3 + (-1))), (0, .ref (ad 0)), (1, .int x1), (2, .int x2)]) hx hb dX11_flat_46 hl (k := 3) rfl rfl (by decide) rfl (fun ls hl => ?_)
            refine lv_goto (tgt := 22) hx hb dX11_flat_49 (by decide) ?_
            exact ih22 x2 (x3 + (-1)) S5 _ _ _ _ hN hH (lv_sub hl [1, 2, 3, 0] rfl) hf hX22
          refine lv_if_eq (tgt := 46) hx hb dX11_flat_31 (by decide) (fun c6 => ?_) (fun c6 => ?_)
          · have hf := nm_it c6 hf
            exact hJ46 x2 S3 _ _ _ hN hH (lv_sub hl [0, 1, 2, 3] rfl) hf
          · have hf := nm_ie c6 hf
            refine lv_iload_n hx hb dX11_flat_34 rfl (lv_at hl 2 rfl) ?_
            refine lv_aload_n hx hb dX11_flat_35 rfl (lv_at hl 0 rfl) ?_
            refine gf_11_0 hK hx hb hts hown hH (cl_n0 hL) (cl_k0 hL) (hts _ tw_287) (fun _ h9 => h9) dX11_flat_36 ?_
            refine lv_iload_n hx hb dX11_flat_39 rfl (lv_at hl 3 rfl) ?_
            obtain ⟨hi7, hf⟩ := nm_chk hf
            obtain ⟨w8, ew8, hf⟩ := nm_let hf
            have hw8 : cl_w w8 := cl_wi ew8 hi7
            refine nm_cald hx hb hK hH (cl_n1 hL) (cl_k1 hL) (cl_l1 hN) hi7 ew8 dX11_flat_40 ?_
            obtain ⟨r9, hc10, hf⟩ := nm_sd1 hf
            refine nm_calli (nm_runV (X := X) (nl := nl) (k_X1_placedCells hL hN hw8 (hf := hc10)) hx hb hml hown hts hs0 hK hZ hH tw_487 tw_484 tw_485 (sw_X1_placedCells) tw_8 hd_X1_placedCells (cl_nw0 hL hw8) (cl_kw0 hL hw8) (by decide) rfl rfl rfl ⟨Nat.le_trans (Nat.le_of_ble_eq_true rfl) hRf, Nat.le_trans (Nat.le_of_ble_eq_true rfl) hRl⟩ rfl hl.1 rfl (Nat.le_of_ble_eq_true rfl) dX11_flat_41 ⟨Nat.le_trans (Nat.le_add_right _ _) hC.1, Nat.le_trans (Nat.le_add_right _ _) hC.2⟩) hH (fun H locs hH => ?_)
            have hH : nm_H D Y (fun q => s0 ≤ q) s.heap X nl ad (S3.1.1, S3.1.2, S3.2, K) H locs := hH
            refine lv_ior hx hb dX11_flat_44 ?_
            obtain ⟨v11, ev11, hf⟩ := nm_let hf
            refine nm_topi ev11 ?_
            refine lv_istore_n (lv' := [(2, .int v11), (0, .ref (ad 0)), (1, .int x1), (3, .int x3)]) hx hb dX11_flat_45 rfl hl (by decide) rfl (fun ls hl => ?_)
            exact hJ46 v11 S3 _ _ _ hN hH (lv_sub hl [1, 2, 0, 3] rfl) hf
    obtain ⟨y12, S13, hl38, hf⟩ := nm_sd2 hf
    refine hL22 nm_F v2 x1 S _ _ _ _ hN hH (lv_sub hl [2, 3, 1, 0] rfl) hl38 (fun H locs ls hN hH hl => ?_)
    have hl : lv_has ls 4 [(0, .ref (ad 0)), (1, .int x1), (2, .int y12)] := hl
    have hH : nm_H D Y (fun q => s0 ≤ q) s.heap X nl ad (S13.1.1, S13.1.2, S13.2, K) H locs := hH
    have hN : cl_N S13.2 := hN
    refine lv_iconst (v := 0) hx hb dX11_flat_52 (by decide) ?_
    refine lv_istore_n (lv' := [(3, .int (0 : Int32)), (0, .ref (ad 0)), (1, .int x1), (2, .int y12)]) hx hb dX11_flat_53 rfl hl (by decide) rfl (fun ls hl => ?_)
    have hL54 : ∀ (n54 : Nat) (x3 : Int32) (S14 : ca) (ad : Nat → Nat) (H : Heap) (locs : List Loc) (ls : Array Slot) (cells slots : Nat) (o54 : ca) (dc ds : Nat), cl_N S14.2 → cl_a ad0 ad → cells + dc ≤ R.cells ∧ slots + ds ≤ R.slots → nm_H D Y (fun q => s0 ≤ q) s.heap X nl ad (S14.1.1, S14.1.2, S14.2, K) H locs → lv_has ls 4 [(0, .ref (ad 0)), (1, .int x1), (2, .int y12), (3, .int x3)] → f_X11_flat_L54 K x1 y12 n54 x3 S14 = some (o54, dc, ds) → (∀ (ad : Nat → Nat) (H : Heap) (locs : List Loc) (ls : Array Slot) (cells9 slots9 : Nat), cl_N o54.2 → cl_a ad0 ad → cells9 = cells + dc → slots9 = slots + ds → nm_H D Y (fun q => s0 ≤ q) s.heap X nl ad (o54.1.1, o54.1.2, o54.2, K) H locs → lv_has ls 4 [(0, .ref (ad 0)), (1, .int x1)] → W p l e R s m args below meth c H locs cells9 slots9 Q (F0 m 90 ls [])) → W p l e R s m args below meth c H locs cells slots Q (F0 m 54 ls []) := by
      intro n54
      induction n54 with
      | zero =>
        intro x3 S14 ad H locs ls cells slots o54 dc ds hN hAd hC hH hl hf hX54
        cases hf
      | succ n54 ih54 =>
        intro x3 S14 ad H locs ls cells slots o54 dc ds hN hAd hC hH hl hf hX54
        obtain ⟨tc, htc⟩ : ∃ y, y = cells + dc := ⟨_, rfl⟩
        obtain ⟨tsl, htsl⟩ : ∃ y, y = slots + ds := ⟨_, rfl⟩
        rw [f_X11_flat_L54] at hf
        refine lv_iload_n hx hb dX11_flat_54 rfl (lv_at hl 3 rfl) ?_
        refine lv_iload_n hx hb dX11_flat_55 rfl (lv_at hl 1 rfl) ?_
        refine lv_icmp_gt (tgt := 90) hx hb dX11_flat_56 (by decide) (fun c15 => ?_) (fun c15 => ?_)
        · have hf := nm_it c15 hf
          cases hf
          exact hX54 _ _ _ _ _ _ hN hAd (by omega) (by omega) hH (lv_sub hl [0, 1] rfl)
        · have hf := nm_ie c15 hf
          refine lv_iload_n hx hb dX11_flat_59 rfl (lv_at hl 2 rfl) ?_
          refine lv_iconst (v := 1) hx hb dX11_flat_60 (by decide) ?_
          refine lv_iload_n hx hb dX11_flat_61 rfl (lv_at hl 3 rfl) ?_
          refine lv_ishl hx hb dX11_flat_62 ?_
          refine lv_iand hx hb dX11_flat_63 ?_
          have hJ84 : ∀ (S16 : ca) (ad : Nat → Nat) (H : Heap) (locs : List Loc) (ls : Array Slot) (cells slots dc ds : Nat), cl_N S16.2 → cl_a ad0 ad → cells + dc ≤ R.cells ∧ slots + ds ≤ R.slots → cells + dc = tc ∧ slots + ds = tsl → nm_H D Y (fun q => s0 ≤ q) s.heap X nl ad (S16.1.1, S16.1.2, S16.2, K) H locs → lv_has ls 4 [(0, .ref (ad 0)), (1, .int x1), (2, .int y12), (3, .int x3)] → f_X11_flat_J84 K x3 S16 (f_X11_flat_L54 K x1 y12 n54) = some (o54, dc, ds) → W p l e R s m args below meth c H locs cells slots Q (F0 m 84 ls []) := by
            intro S16 ad H locs ls cells slots dc ds hN hAd hC hT hH hl hf
            unfold f_X11_flat_J84 at hf
            refine lv_iinc (v := x3 + 1) (lv' := [(3, .int (x3 + 1)), (0, .ref (ad 0)), (1, .int x1), (2, .int y12)]) hx hb dX11_flat_84 hl (k := 3) rfl rfl (by decide) rfl (fun ls hl => ?_)
            refine lv_goto (tgt := 54) hx hb dX11_flat_87 (by decide) ?_
            exact ih54 (x3 + 1) S16 _ _ _ _ _ _ _ _ _ hN hAd hC hH (lv_sub hl [1, 2, 3, 0] rfl) hf (fun ad H locs ls cells slots h1 h2 e1 e2 h3 h4 => hX54 ad H locs ls cells slots h1 h2 (by omega) (by omega) h3 h4)
          refine lv_if_eq (tgt := 84) hx hb dX11_flat_64 (by decide) (fun c17 => ?_) (fun c17 => ?_)
          · have hf := nm_it c17 hf
            exact hJ84 S14 _ _ _ _ _ _ _ _ hN hAd hC ⟨by omega, by omega⟩ hH (lv_sub hl [0, 1, 2, 3] rfl) hf
          · have hf := nm_ie c17 hf
            refine lv_aload_n hx hb dX11_flat_67 rfl (lv_at hl 0 rfl) ?_
            refine gf_11_0 hK hx hb hts hown hH (cl_n0 hL) (cl_k0 hL) (hts _ tw_287) (fun _ h9 => h9) dX11_flat_68 ?_
            refine lv_iload_n hx hb dX11_flat_71 rfl (lv_at hl 3 rfl) ?_
            obtain ⟨hi18, hf⟩ := nm_chk hf
            obtain ⟨w19, ew19, hf⟩ := nm_let hf
            have hw19 : cl_w w19 := cl_wi ew19 hi18
            refine nm_cald hx hb hK hH (cl_n1 hL) (cl_k1 hL) (cl_l1 hN) hi18 ew19 dX11_flat_72 ?_
            refine lv_aload_n hx hb dX11_flat_73 rfl (lv_at hl 0 rfl) ?_
            refine gf_11_0 hK hx hb hts hown hH (cl_n0 hL) (cl_k0 hL) (hts _ tw_287) (fun _ h9 => h9) dX11_flat_74 ?_
            refine lv_aload_n hx hb dX11_flat_77 rfl (lv_at hl 0 rfl) ?_
            refine gf_11_6 hK hx hb hts hown hH (cl_n0 hL) (cl_k0 hL) (hts _ tw_293) (fun _ h9 => h9) dX11_flat_78 ?_
            obtain ⟨S20, c22, s23, dc, ds, hc21, hf, edc, eds⟩ := nm_ad1 hf
            refine nm_callvA (nm_runV (X := X) (nl := nl) (k_X1_settle hL hw19 (hN := hN) (hf := hc21)) hx hb hml hown hts hs0 hK hZ hH tw_492 tw_489 tw_490 (sw_X1_settle) tw_8 hd_X1_settle (cl_nw0 hL hw19) (cl_kw0 hL hw19) (by decide) rfl rfl rfl ⟨Nat.le_trans (Nat.le_of_ble_eq_true rfl) hRf, Nat.le_trans (Nat.le_of_ble_eq_true rfl) hRl⟩ rfl hl.1 rfl (Nat.le_of_ble_eq_true rfl) dX11_flat_81 ⟨by omega, by omega⟩) hH (fun ad hu H locs cells slots ec es hN hH => ?_)
            have hH : nm_H D Y (fun q => s0 ≤ q) s.heap X nl ad (S20.1.1, S20.1.2, S20.2, K) H locs := hH
            have hN : cl_N S20.2 := hN
            have hl : lv_has ls 4 [(0, .ref (ad 0)), (1, .int x1), (2, .int y12), (3, .int x3)] := by rw [hu 0 (by decide)]; exact hl
            have hAd : cl_a ad0 ad := cl_a.tr hAd hu
            have hC : cells + dc ≤ R.cells ∧ slots + ds ≤ R.slots := ⟨by omega, by omega⟩
            exact hJ84 S20 _ _ _ _ _ _ _ _ hN hAd hC ⟨by omega, by omega⟩ hH (lv_sub hl [0, 1, 2, 3] rfl) hf
    obtain ⟨S24, c36, s37, dc, ds, hl35, hf, edc, eds⟩ := nm_ad1 hf
    refine hL54 nm_F (0 : Int32) S13 _ _ _ _ _ _ _ _ _ hN hAd ⟨by omega, by omega⟩ hH (lv_sub hl [1, 2, 3, 0] rfl) hl35 (fun ad H locs ls cells slots hN hAd ec es hH hl => ?_)
    have hC : cells + dc ≤ R.cells ∧ slots + ds ≤ R.slots := ⟨by omega, by omega⟩
    have hl : lv_has ls 4 [(0, .ref (ad 0)), (1, .int x1)] := hl
    have hH : nm_H D Y (fun q => s0 ≤ q) s.heap X nl ad (S24.1.1, S24.1.2, S24.2, K) H locs := hH
    have hN : cl_N S24.2 := hN
    refine lv_aload_n hx hb dX11_flat_90 rfl (lv_at hl 0 rfl) ?_
    refine gf_11_2 hK hx hb hts hown hH (cl_n0 hL) (cl_k0 hL) (hts _ tw_289) (fun _ h9 => h9) dX11_flat_91 ?_
    refine lv_iconst (v := 0) hx hb dX11_flat_94 (by decide) ?_
    obtain ⟨S25, eS25, hf⟩ := nm_let hf
    refine pf_8_1 hK hx hb hts hown hH (cl_n200 hL) (cl_k200 hL) (hts _ tw_123) (fun _ h9 => h9) rfl rfl dX11_flat_95 (fun H locs hH => ?_)
    have hH : nm_H D Y (fun q => s0 ≤ q) s.heap X nl ad (S25.1.1, S25.1.2, S25.2, K) H locs := by rw [eS25]; exact hH
    have hN : cl_N S25.2 := by rw [eS25]; exact hN
    refine lv_aload_n hx hb dX11_flat_98 rfl (lv_at hl 0 rfl) ?_
    refine gf_11_3 hK hx hb hts hown hH (cl_n0 hL) (cl_k0 hL) (hts _ tw_290) (fun _ h9 => h9) dX11_flat_99 ?_
    refine lv_iconst (v := 0) hx hb dX11_flat_102 (by decide) ?_
    obtain ⟨S26, eS26, hf⟩ := nm_let hf
    refine pf_2_2 hK hx hb hts hown hH (cl_n300 hL) (cl_k300 hL) (hts _ tw_173) (fun _ h9 => h9) rfl rfl dX11_flat_103 (fun H locs hH => ?_)
    have hH : nm_H D Y (fun q => s0 ≤ q) s.heap X nl ad (S26.1.1, S26.1.2, S26.2, K) H locs := by rw [eS26]; exact hH
    have hN : cl_N S26.2 := by rw [eS26]; exact hN
    refine lv_aload_n hx hb dX11_flat_106 rfl (lv_at hl 0 rfl) ?_
    refine gf_11_4 hK hx hb hts hown hH (cl_n0 hL) (cl_k0 hL) (hts _ tw_291) (fun _ h9 => h9) dX11_flat_107 ?_
    refine lv_iconst (v := 0) hx hb dX11_flat_110 (by decide) ?_
    obtain ⟨S27, eS27, hf⟩ := nm_let hf
    refine pf_10_3 hK hx hb hts hown hH (cl_n400 hL) (cl_k400 hL) (hts _ tw_230) (fun _ h9 => h9) rfl rfl dX11_flat_111 (fun H locs hH => ?_)
    have hH : nm_H D Y (fun q => s0 ≤ q) s.heap X nl ad (S27.1.1, S27.1.2, S27.2, K) H locs := by rw [eS27]; exact hH
    have hN : cl_N S27.2 := by rw [eS27]; exact hN
    refine lv_aload_n hx hb dX11_flat_114 rfl (lv_at hl 0 rfl) ?_
    refine gf_11_1 hK hx hb hts hown hH (cl_n0 hL) (cl_k0 hL) (hts _ tw_288) (fun _ h9 => h9) dX11_flat_115 ?_
    refine lv_aload_n hx hb dX11_flat_118 rfl (lv_at hl 0 rfl) ?_
    refine gf_11_0 hK hx hb hts hown hH (cl_n0 hL) (cl_k0 hL) (hts _ tw_287) (fun _ h9 => h9) dX11_flat_119 ?_
    refine lv_iload_n hx hb dX11_flat_122 rfl (lv_at hl 1 rfl) ?_
    obtain ⟨hi28, hf⟩ := nm_chk hf
    obtain ⟨w29, ew29, hf⟩ := nm_let hf
    have hw29 : cl_w w29 := cl_wi ew29 hi28
    refine nm_cald hx hb hK hH (cl_n1 hL) (cl_k1 hL) (cl_l1 hN) hi28 ew29 dX11_flat_123 ?_
    obtain ⟨r34, S30, c32, s33, dc, ds, hc31, hf, edc, eds⟩ := nm_ad2 hf
    refine nm_calliA (nm_runV (X := X) (nl := nl) (k_X3_take hL hw29 (hN := hN) (hf := hc31)) hx hb hml hown hts hs0 hK hZ hH tw_588 tw_585 tw_586 (sw_X3_take) tw_2 hd_X3_take (cl_n100 hL) (cl_k100 hL) (by decide) rfl rfl rfl ⟨Nat.le_trans (Nat.le_of_ble_eq_true rfl) hRf, Nat.le_trans (Nat.le_of_ble_eq_true rfl) hRl⟩ rfl hl.1 rfl (Nat.le_of_ble_eq_true rfl) dX11_flat_124 ⟨by omega, by omega⟩) hH (fun ad hu H locs cells slots ec es hN hH => ?_)
    have hH : nm_H D Y (fun q => s0 ≤ q) s.heap X nl ad (S30.1.1, S30.1.2, S30.2, K) H locs := hH
    have hN : cl_N S30.2 := hN
    have hl : lv_has ls 4 [(0, .ref (ad 0)), (1, .int x1)] := by rw [hu 0 (by decide)]; exact hl
    have hAd : cl_a ad0 ad := cl_a.tr hAd hu
    have hC : cells + dc ≤ R.cells ∧ slots + ds ≤ R.slots := ⟨by omega, by omega⟩
    exact nm_iretA hx hb hr hlocks hQ hRc hRs hC hN hAd hH hf dX11_flat_127
  · have hf := nm_ie c1 hf
    refine lv_aload_n hx hb dX11_flat_9 rfl (lv_at hl 0 rfl) ?_
    refine lv_bipush (v := -3) hx hb dX11_flat_10 (by decide) ?_
    obtain ⟨r41, M39, hc40, hf⟩ := nm_sd2 hf
    obtain ⟨S42, eS42, hf⟩ := nm_let hf
    refine nm_calli (nm_runV (X := X) (nl := nl) (k_X11_refuse hL hN (hf := hc40)) hx hb hml hown hts hs0 hK hZ hH tw_325 tw_322 tw_324 (sw_X11_refuse) tw_1 hd_X11_refuse (cl_n0 hL) (cl_k0 hL) (by decide) rfl rfl rfl ⟨Nat.le_trans (Nat.le_of_ble_eq_true rfl) hRf, Nat.le_trans (Nat.le_of_ble_eq_true rfl) hRl⟩ rfl hl.1 rfl (Nat.le_of_ble_eq_true rfl) dX11_flat_12 ⟨Nat.le_trans (Nat.le_add_right _ _) hC.1, Nat.le_trans (Nat.le_add_right _ _) hC.2⟩) hH (fun H locs hH => ?_)
    have hH : nm_H D Y (fun q => s0 ≤ q) s.heap X nl ad (S42.1.1, S42.1.2, S42.2, K) H locs := by rw [eS42]; exact hH
    have hN : cl_N S42.2 := by rw [eS42]; exact hN
    exact nm_iretA hx hb hr hlocks hQ hRc hRs hC hN hAd hH hf dX11_flat_15
def f_X11_pieces (x1 : Int32) (x2 : Int32) (S : ca) : Option ((Int32 × ca) × Nat × Nat) :=
(if (f_X11_outside x1 (16 : Int32)) = 0 then
(if (S.1.1 100 0) = 0 then
nm_s2 (f_X11_refuse (-2 : Int32) S.1) fun r16 M14 =>
nm_l (M14, S.2) fun S17 =>
some ((r16, S17), 0, 0)
else
nm_a1 (f_X3_piecesOf x1 S) fun S3 =>
(if x2 = (-1 : Int32) then
some ((S3.1.1 110 1, S3), 0, 0)
else
(if (f_X11_outside x2 (S3.1.1 110 1)) = 0 then
nm_c x2 (S3.2 112) (
some ((S3.1.1 112 x2.toNatClampNeg, S3), 0, 0))
else
nm_s2 (f_X11_refuse (-3 : Int32) S3.1) fun r12 M10 =>
nm_l (M10, S3.2) fun S13 =>
some ((r12, S13), 0, 0))))
else
nm_s2 (f_X11_refuse (-3 : Int32) S.1) fun r20 M18 =>
nm_l (M18, S.2) fun S21 =>
some ((r20, S21), 0, 0))
set_option maxHeartbeats 4000000 in
set_option maxRecDepth 100000 in
theorem k_X11_pieces {l : Launch} {D : va_G} {Y : nm_Y} {s0 : Nat} {X : va_W} {ad : Nat → Nat} {nl : List Nat} {K : Nat → Nat} (hL : cl_L nl K) {x1 : Int32} {x2 : Int32} {S M0 : ca} {r0 : Int32} {dc ds : Nat} (hN : cl_N S.2) (hf : f_X11_pieces x1 x2 S = some ((r0, M0), dc, ds)) :
    nm_Met l yX11_pieces cX11_pieces 4 (some .int) { frames := 6, cells := dc, slots := ds, locals := 140 } [.ref (ad 0), .int x1, .int x2] D Y s0 (nm_W Y X nl ad (S.1.1, S.1.2, S.2, K)) (nm_QiA D Y s0 X nl ad r0 (M0.1.1, M0.1.2, M0.2, K)) dc ds := by
  refine nm_of (by decide) (Nat.le_of_ble_eq_true rfl) ?_
  intro p e R s m args below meth c Q ls hx hb hr hlocks hml hown hts hs0 hK hZ hRf hRl hRc hRs hQ hP hD hl
  have hH : nm_H D Y (fun q => s0 ≤ q) s.heap X nl ad (S.1.1, S.1.2, S.2, K) s.heap [] := ⟨hP, hD, va_S.rf⟩
  have hl : lv_has ls 4 [(0, .ref (ad 0)), (1, .int x1), (2, .int x2)] := hl
  obtain ⟨ad0, had0⟩ : ∃ y, y = ad := ⟨_, rfl⟩
  have hAd : cl_a ad0 ad := by rw [had0]; exact cl_a.rf
  rw [← had0] at hQ
  obtain ⟨cells, ecells⟩ : ∃ y, y = 0 := ⟨_, rfl⟩
  obtain ⟨slots, eslots⟩ : ∃ y, y = 0 := ⟨_, rfl⟩
  have hC : cells + dc ≤ R.cells ∧ slots + ds ≤ R.slots := ⟨by omega, by omega⟩
  refine W.widen (k := cells) (n := slots) (Nat.zero_le _) (Nat.zero_le _) ?_
  obtain ⟨mc, emc⟩ : ∃ y, y = dc := ⟨_, rfl⟩
  obtain ⟨ms, ems⟩ : ∃ y, y = ds := ⟨_, rfl⟩
  rw [← emc] at hRc hQ
  rw [← ems] at hRs hQ
  obtain ⟨tc, htc⟩ : ∃ y, y = cells + dc := ⟨_, rfl⟩
  obtain ⟨tsl, htsl⟩ : ∃ y, y = slots + ds := ⟨_, rfl⟩
  unfold f_X11_pieces at hf
  refine lv_iload_n hx hb dX11_pieces_0 rfl (lv_at hl 1 rfl) ?_
  refine lv_bipush (v := 16) hx hb dX11_pieces_1 (by decide) ?_
  refine nm_calli (nm_runS (X := X) (nl := nl) (k_X11_outside hL hN (hf := (rfl : f_X11_outside x1 (16 : Int32) = _))) hx hb hml hown hts hs0 hK hZ hH tw_321 tw_319 tw_320 tw_1 hd_X11_outside rfl rfl ⟨Nat.le_trans (Nat.le_of_ble_eq_true rfl) hRf, Nat.le_trans (Nat.le_of_ble_eq_true rfl) hRl⟩ rfl hl.1 rfl (Nat.le_of_ble_eq_true rfl) dX11_pieces_3 ⟨Nat.le_trans (Nat.le_add_right _ _) hC.1, Nat.le_trans (Nat.le_add_right _ _) hC.2⟩) hH (fun H locs hH => ?_)
  have hH : nm_H D Y (fun q => s0 ≤ q) s.heap X nl ad (S.1.1, S.1.2, S.2, K) H locs := hH
  refine lv_if_eq (tgt := 16) hx hb dX11_pieces_6 (by decide) (fun c1 => ?_) (fun c1 => ?_)
  · have hf := nm_it c1 hf
    refine lv_aload_n hx hb dX11_pieces_16 rfl (lv_at hl 0 rfl) ?_
    refine gf_11_1 hK hx hb hts hown hH (cl_n0 hL) (cl_k0 hL) (hts _ tw_288) (fun _ h9 => h9) dX11_pieces_17 ?_
    refine gf_3_0 hK hx hb hts hown hH (cl_n100 hL) (cl_k100 hL) (hts _ tw_84) (fun _ h9 => h9) dX11_pieces_20 ?_
    refine lv_if_ne (tgt := 33) hx hb dX11_pieces_23 (by decide) (fun c2 => ?_) (fun c2 => ?_)
    · have hf := nm_ie c2 hf
      refine lv_aload_n hx hb dX11_pieces_33 rfl (lv_at hl 0 rfl) ?_
      refine gf_11_1 hK hx hb hts hown hH (cl_n0 hL) (cl_k0 hL) (hts _ tw_288) (fun _ h9 => h9) dX11_pieces_34 ?_
      refine lv_iload_n hx hb dX11_pieces_37 rfl (lv_at hl 1 rfl) ?_
      obtain ⟨S3, c5, s6, dc, ds, hc4, hf, edc, eds⟩ := nm_ad1 hf
      refine nm_callrA (nm_runV (X := X) (nl := nl) (k_X3_piecesOf hL (hN := hN) (hf := hc4)) hx hb hml hown hts hs0 hK hZ hH tw_689 tw_686 tw_687 (sw_X3_piecesOf) tw_2 hd_X3_piecesOf (cl_n100 hL) (cl_k100 hL) (by decide) rfl rfl rfl ⟨Nat.le_trans (Nat.le_of_ble_eq_true rfl) hRf, Nat.le_trans (Nat.le_of_ble_eq_true rfl) hRl⟩ rfl hl.1 rfl (Nat.le_of_ble_eq_true rfl) dX11_pieces_38 ⟨by omega, by omega⟩) hH (fun ad hu H locs cells slots ec es hN hH => ?_)
      have hH : nm_H D Y (fun q => s0 ≤ q) s.heap X nl ad (S3.1.1, S3.1.2, S3.2, K) H locs := hH
      have hN : cl_N S3.2 := hN
      have hl : lv_has ls 4 [(0, .ref (ad 0)), (1, .int x1), (2, .int x2)] := by rw [hu 0 (by decide)]; exact hl
      have hAd : cl_a ad0 ad := cl_a.tr hAd hu
      have hC : cells + dc ≤ R.cells ∧ slots + ds ≤ R.slots := ⟨by omega, by omega⟩
      refine lv_astore_n (lv' := [(3, .ref (ad 110)), (0, .ref (ad 0)), (1, .int x1), (2, .int x2)]) hx hb dX11_pieces_41 rfl hl (by decide) rfl (fun ls hl => ?_)
      refine lv_iload_n hx hb dX11_pieces_42 rfl (lv_at hl 3 rfl) ?_
      refine lv_iconst (v := -1) hx hb dX11_pieces_43 (by decide) ?_
      refine lv_icmp_ne (tgt := 52) hx hb dX11_pieces_44 (by decide) (fun c7 => ?_) (fun c7 => ?_)
      · have hf := nm_ie c7 hf
        refine lv_iload_n hx hb dX11_pieces_52 rfl (lv_at hl 3 rfl) ?_
        refine lv_aload_n hx hb dX11_pieces_53 rfl (lv_at hl 0 rfl) ?_
        refine gf_4_1 hK hx hb hts hown hH (cl_n110 hL) (cl_k110 hL) (hts _ tw_45) (fun _ h9 => h9) dX11_pieces_54 ?_
        refine nm_calli (nm_runS (X := X) (nl := nl) (k_X11_outside hL hN (hf := (rfl : f_X11_outside x2 (S3.1.1 110 1) = _))) hx hb hml hown hts hs0 hK hZ hH tw_321 tw_319 tw_320 tw_1 hd_X11_outside rfl rfl ⟨Nat.le_trans (Nat.le_of_ble_eq_true rfl) hRf, Nat.le_trans (Nat.le_of_ble_eq_true rfl) hRl⟩ rfl hl.1 rfl (Nat.le_of_ble_eq_true rfl) dX11_pieces_57 ⟨Nat.le_trans (Nat.le_add_right _ _) hC.1, Nat.le_trans (Nat.le_add_right _ _) hC.2⟩) hH (fun H locs hH => ?_)
        have hH : nm_H D Y (fun q => s0 ≤ q) s.heap X nl ad (S3.1.1, S3.1.2, S3.2, K) H locs := hH
        refine lv_if_eq (tgt := 72) hx hb dX11_pieces_60 (by decide) (fun c8 => ?_) (fun c8 => ?_)
        · have hf := nm_it c8 hf
          refine lv_aload_n hx hb dX11_pieces_72 rfl (lv_at hl 0 rfl) ?_
          refine gf_4_2 hK hx hb hts hown hH (cl_n110 hL) (cl_k110 hL) (hts _ tw_48) (fun _ h9 => h9) dX11_pieces_73 ?_
          refine lv_iload_n hx hb dX11_pieces_76 rfl (lv_at hl 3 rfl) ?_
          obtain ⟨hi9, hf⟩ := nm_chk hf
          refine nm_iald hx hb hK hH (cl_n112 hL) (cl_k112 hL) rfl hi9 dX11_pieces_77 ?_
          exact nm_iretA hx hb hr hlocks hQ hRc hRs hC hN hAd hH hf dX11_pieces_78
        · have hf := nm_ie c8 hf
          refine lv_aload_n hx hb dX11_pieces_63 rfl (lv_at hl 1 rfl) ?_
          refine lv_bipush (v := -3) hx hb dX11_pieces_64 (by decide) ?_
          obtain ⟨r12, M10, hc11, hf⟩ := nm_sd2 hf
          obtain ⟨S13, eS13, hf⟩ := nm_let hf
          refine nm_calli (nm_runV (X := X) (nl := nl) (k_X11_refuse hL hN (hf := hc11)) hx hb hml hown hts hs0 hK hZ hH tw_325 tw_322 tw_324 (sw_X11_refuse) tw_1 hd_X11_refuse (cl_n0 hL) (cl_k0 hL) (by decide) rfl rfl rfl ⟨Nat.le_trans (Nat.le_of_ble_eq_true rfl) hRf, Nat.le_trans (Nat.le_of_ble_eq_true rfl) hRl⟩ rfl hl.1 rfl (Nat.le_of_ble_eq_true rfl) dX11_pieces_66 ⟨Nat.le_trans (Nat.le_add_right _ _) hC.1, Nat.le_trans (Nat.le_add_right _ _) hC.2⟩) hH (fun H locs hH => ?_)
          have hH : nm_H D Y (fun q => s0 ≤ q) s.heap X nl ad (S13.1.1, S13.1.2, S13.2, K) H locs := by rw [eS13]; exact hH
          have hN : cl_N S13.2 := by rw [eS13]; exact hN
          refine lv_goto (tgt := 78) hx hb dX11_pieces_69 (by decide) ?_
          exact nm_iretA hx hb hr hlocks hQ hRc hRs hC hN hAd hH hf dX11_pieces_78
      · have hf := nm_it c7 hf
        refine lv_aload_n hx hb dX11_pieces_47 rfl (lv_at hl 0 rfl) ?_
        refine gf_4_1 hK hx hb hts hown hH (cl_n110 hL) (cl_k110 hL) (hts _ tw_45) (fun _ h9 => h9) dX11_pieces_48 ?_
        exact nm_iretA hx hb hr hlocks hQ hRc hRs hC hN hAd hH hf dX11_pieces_51
    · have hf := nm_it c2 hf
      refine lv_aload_n hx hb dX11_pieces_26 rfl (lv_at hl 0 rfl) ?_
      refine lv_bipush (v := -2) hx hb dX11_pieces_27 (by decide) ?_
      obtain ⟨r16, M14, hc15, hf⟩ := nm_sd2 hf
      obtain ⟨S17, eS17, hf⟩ := nm_let hf
      refine nm_calli (nm_runV (X := X) (nl := nl) (k_X11_refuse hL hN (hf := hc15)) hx hb hml hown hts hs0 hK hZ hH tw_325 tw_322 tw_324 (sw_X11_refuse) tw_1 hd_X11_refuse (cl_n0 hL) (cl_k0 hL) (by decide) rfl rfl rfl ⟨Nat.le_trans (Nat.le_of_ble_eq_true rfl) hRf, Nat.le_trans (Nat.le_of_ble_eq_true rfl) hRl⟩ rfl hl.1 rfl (Nat.le_of_ble_eq_true rfl) dX11_pieces_29 ⟨Nat.le_trans (Nat.le_add_right _ _) hC.1, Nat.le_trans (Nat.le_add_right _ _) hC.2⟩) hH (fun H locs hH => ?_)
      have hH : nm_H D Y (fun q => s0 ≤ q) s.heap X nl ad (S17.1.1, S17.1.2, S17.2, K) H locs := by rw [eS17]; exact hH
      have hN : cl_N S17.2 := by rw [eS17]; exact hN
      exact nm_iretA hx hb hr hlocks hQ hRc hRs hC hN hAd hH hf dX11_pieces_32
  · have hf := nm_ie c1 hf
    refine lv_aload_n hx hb dX11_pieces_9 rfl (lv_at hl 0 rfl) ?_
    refine lv_bipush (v := -3) hx hb dX11_pieces_10 (by decide) ?_
    obtain ⟨r20, M18, hc19, hf⟩ := nm_sd2 hf
    obtain ⟨S21, eS21, hf⟩ := nm_let hf
    refine nm_calli (nm_runV (X := X) (nl := nl) (k_X11_refuse hL hN (hf := hc19)) hx hb hml hown hts hs0 hK hZ hH tw_325 tw_322 tw_324 (sw_X11_refuse) tw_1 hd_X11_refuse (cl_n0 hL) (cl_k0 hL) (by decide) rfl rfl rfl ⟨Nat.le_trans (Nat.le_of_ble_eq_true rfl) hRf, Nat.le_trans (Nat.le_of_ble_eq_true rfl) hRl⟩ rfl hl.1 rfl (Nat.le_of_ble_eq_true rfl) dX11_pieces_12 ⟨Nat.le_trans (Nat.le_add_right _ _) hC.1, Nat.le_trans (Nat.le_add_right _ _) hC.2⟩) hH (fun H locs hH => ?_)
    have hH : nm_H D Y (fun q => s0 ≤ q) s.heap X nl ad (S21.1.1, S21.1.2, S21.2, K) H locs := by rw [eS21]; exact hH
    have hN : cl_N S21.2 := by rw [eS21]; exact hN
    exact nm_iretA hx hb hr hlocks hQ hRc hRs hC hN hAd hH hf dX11_pieces_15
def f_X11_run (S : ca) : Option ((Int32 × ca) × Nat × Nat) :=
(if (S.1.1 100 0) = 0 then
nm_s2 (f_X11_refuse (-2 : Int32) S.1) fun r4 M2 =>
nm_l (M2, S.2) fun S5 =>
some ((r4, S5), 0, 0)
else
nm_a2 (f_X8_hold S) fun r10 S6 =>
some ((r10, S6), 0, 0))
set_option maxHeartbeats 4000000 in
set_option maxRecDepth 100000 in
theorem k_X11_run {l : Launch} {D : va_G} {Y : nm_Y} {s0 : Nat} {X : va_W} {ad : Nat → Nat} {nl : List Nat} {K : Nat → Nat} (hL : cl_L nl K)  {S M0 : ca} {r0 : Int32} {dc ds : Nat} (hN : cl_N S.2) (hf : f_X11_run S = some ((r0, M0), dc, ds)) :
    nm_Met l yX11_run cX11_run 1 (some .int) { frames := 7, cells := dc, slots := ds, locals := 162 } [.ref (ad 0)] D Y s0 (nm_W Y X nl ad (S.1.1, S.1.2, S.2, K)) (nm_QiA D Y s0 X nl ad r0 (M0.1.1, M0.1.2, M0.2, K)) dc ds := by
  refine nm_of (by decide) (Nat.le_of_ble_eq_true rfl) ?_
  intro p e R s m args below meth c Q ls hx hb hr hlocks hml hown hts hs0 hK hZ hRf hRl hRc hRs hQ hP hD hl
  have hH : nm_H D Y (fun q => s0 ≤ q) s.heap X nl ad (S.1.1, S.1.2, S.2, K) s.heap [] := ⟨hP, hD, va_S.rf⟩
  have hl : lv_has ls 1 [(0, .ref (ad 0))] := hl
  obtain ⟨ad0, had0⟩ : ∃ y, y = ad := ⟨_, rfl⟩
  have hAd : cl_a ad0 ad := by rw [had0]; exact cl_a.rf
  rw [← had0] at hQ
  obtain ⟨cells, ecells⟩ : ∃ y, y = 0 := ⟨_, rfl⟩
  obtain ⟨slots, eslots⟩ : ∃ y, y = 0 := ⟨_, rfl⟩
  have hC : cells + dc ≤ R.cells ∧ slots + ds ≤ R.slots := ⟨by omega, by omega⟩
  refine W.widen (k := cells) (n := slots) (Nat.zero_le _) (Nat.zero_le _) ?_
  obtain ⟨mc, emc⟩ : ∃ y, y = dc := ⟨_, rfl⟩
  obtain ⟨ms, ems⟩ : ∃ y, y = ds := ⟨_, rfl⟩
  rw [← emc] at hRc hQ
  rw [← ems] at hRs hQ
  obtain ⟨tc, htc⟩ : ∃ y, y = cells + dc := ⟨_, rfl⟩
  obtain ⟨tsl, htsl⟩ : ∃ y, y = slots + ds := ⟨_, rfl⟩
  unfold f_X11_run at hf
  refine lv_aload_n hx hb dX11_run_0 rfl (lv_at hl 0 rfl) ?_
  refine gf_11_1 hK hx hb hts hown hH (cl_n0 hL) (cl_k0 hL) (hts _ tw_288) (fun _ h9 => h9) dX11_run_1 ?_
  refine gf_3_0 hK hx hb hts hown hH (cl_n100 hL) (cl_k100 hL) (hts _ tw_84) (fun _ h9 => h9) dX11_run_4 ?_
  refine lv_if_eq (tgt := 24) hx hb dX11_run_7 (by decide) (fun c1 => ?_) (fun c1 => ?_)
  · have hf := nm_it c1 hf
    refine lv_aload_n hx hb dX11_run_24 rfl (lv_at hl 0 rfl) ?_
    refine lv_bipush (v := -2) hx hb dX11_run_25 (by decide) ?_
    obtain ⟨r4, M2, hc3, hf⟩ := nm_sd2 hf
    obtain ⟨S5, eS5, hf⟩ := nm_let hf
    refine nm_calli (nm_runV (X := X) (nl := nl) (k_X11_refuse hL hN (hf := hc3)) hx hb hml hown hts hs0 hK hZ hH tw_325 tw_322 tw_324 (sw_X11_refuse) tw_1 hd_X11_refuse (cl_n0 hL) (cl_k0 hL) (by decide) rfl rfl rfl ⟨Nat.le_trans (Nat.le_of_ble_eq_true rfl) hRf, Nat.le_trans (Nat.le_of_ble_eq_true rfl) hRl⟩ rfl hl.1 rfl (Nat.le_of_ble_eq_true rfl) dX11_run_27 ⟨Nat.le_trans (Nat.le_add_right _ _) hC.1, Nat.le_trans (Nat.le_add_right _ _) hC.2⟩) hH (fun H locs hH => ?_)
    have hH : nm_H D Y (fun q => s0 ≤ q) s.heap X nl ad (S5.1.1, S5.1.2, S5.2, K) H locs := by rw [eS5]; exact hH
    have hN : cl_N S5.2 := by rw [eS5]; exact hN
    exact nm_iretA hx hb hr hlocks hQ hRc hRs hC hN hAd hH hf dX11_run_30
  · have hf := nm_ie c1 hf
    refine lv_aload_n hx hb dX11_run_10 rfl (lv_at hl 0 rfl) ?_
    refine gf_11_2 hK hx hb hts hown hH (cl_n0 hL) (cl_k0 hL) (hts _ tw_289) (fun _ h9 => h9) dX11_run_11 ?_
    refine lv_aload_n hx hb dX11_run_14 rfl (lv_at hl 0 rfl) ?_
    refine gf_11_1 hK hx hb hts hown hH (cl_n0 hL) (cl_k0 hL) (hts _ tw_288) (fun _ h9 => h9) dX11_run_15 ?_
    obtain ⟨r10, S6, c8, s9, dc, ds, hc7, hf, edc, eds⟩ := nm_ad2 hf
    refine nm_calliA (nm_runV (X := X) (nl := nl) (k_X8_hold hL (hN := hN) (hf := hc7)) hx hb hml hown hts hs0 hK hZ hH tw_708 tw_705 tw_706 (sw_X8_hold) tw_5 hd_X8_hold (cl_n200 hL) (cl_k200 hL) (by decide) rfl rfl rfl ⟨Nat.le_trans (Nat.le_of_ble_eq_true rfl) hRf, Nat.le_trans (Nat.le_of_ble_eq_true rfl) hRl⟩ rfl hl.1 rfl (Nat.le_of_ble_eq_true rfl) dX11_run_18 ⟨by omega, by omega⟩) hH (fun ad hu H locs cells slots ec es hN hH => ?_)
    have hH : nm_H D Y (fun q => s0 ≤ q) s.heap X nl ad (S6.1.1, S6.1.2, S6.2, K) H locs := hH
    have hN : cl_N S6.2 := hN
    have hl : lv_has ls 1 [(0, .ref (ad 0))] := by rw [hu 0 (by decide)]; exact hl
    have hAd : cl_a ad0 ad := cl_a.tr hAd hu
    have hC : cells + dc ≤ R.cells ∧ slots + ds ≤ R.slots := ⟨by omega, by omega⟩
    refine lv_goto (tgt := 30) hx hb dX11_run_21 (by decide) ?_
    exact nm_iretA hx hb hr hlocks hQ hRc hRs hC hN hAd hH hf dX11_run_30
def f_X11_circuit (S : ca) : Option ((Int32 × ca) × Nat × Nat) :=
(if (S.1.1 100 0) = 0 then
nm_s2 (f_X11_refuse (-2 : Int32) S.1) fun r19 M17 =>
nm_l (M17, S.2) fun S20 =>
some ((r19, S20), 0, 0)
else
(if (f_X2_lacksConductor S.1) = 0 then
nm_a1 (f_X2_findNets S) fun S3 =>
nm_a1 (f_X2_findDevices S3) fun S7 =>
nm_l (((nm_up S7.1.1 300 2 (1 : Int32), S7.1.2), S7.2)) fun S11 =>
nm_l (((nm_up S11.1.1 400 3 (0 : Int32), S11.1.2), S11.2)) fun S12 =>
some ((S12.1.1 310 1, S12), 0, 0)
else
nm_s2 (f_X11_refuse (-7 : Int32) S.1) fun r15 M13 =>
nm_l (M13, S.2) fun S16 =>
some ((r15, S16), 0, 0)))
set_option maxHeartbeats 4000000 in
set_option maxRecDepth 100000 in
theorem k_X11_circuit {l : Launch} {D : va_G} {Y : nm_Y} {s0 : Nat} {X : va_W} {ad : Nat → Nat} {nl : List Nat} {K : Nat → Nat} (hL : cl_L nl K)  {S M0 : ca} {r0 : Int32} {dc ds : Nat} (hN : cl_N S.2) (hf : f_X11_circuit S = some ((r0, M0), dc, ds)) :
    nm_Met l yX11_circuit cX11_circuit 1 (some .int) { frames := 6, cells := dc, slots := ds, locals := 149 } [.ref (ad 0)] D Y s0 (nm_W Y X nl ad (S.1.1, S.1.2, S.2, K)) (nm_QiA D Y s0 X nl ad r0 (M0.1.1, M0.1.2, M0.2, K)) dc ds := by
  refine nm_of (by decide) (Nat.le_of_ble_eq_true rfl) ?_
  intro p e R s m args below meth c Q ls hx hb hr hlocks hml hown hts hs0 hK hZ hRf hRl hRc hRs hQ hP hD hl
  have hH : nm_H D Y (fun q => s0 ≤ q) s.heap X nl ad (S.1.1, S.1.2, S.2, K) s.heap [] := ⟨hP, hD, va_S.rf⟩
  have hl : lv_has ls 1 [(0, .ref (ad 0))] := hl
  obtain ⟨ad0, had0⟩ : ∃ y, y = ad := ⟨_, rfl⟩
  have hAd : cl_a ad0 ad := by rw [had0]; exact cl_a.rf
  rw [← had0] at hQ
  obtain ⟨cells, ecells⟩ : ∃ y, y = 0 := ⟨_, rfl⟩
  obtain ⟨slots, eslots⟩ : ∃ y, y = 0 := ⟨_, rfl⟩
  have hC : cells + dc ≤ R.cells ∧ slots + ds ≤ R.slots := ⟨by omega, by omega⟩
  refine W.widen (k := cells) (n := slots) (Nat.zero_le _) (Nat.zero_le _) ?_
  obtain ⟨mc, emc⟩ : ∃ y, y = dc := ⟨_, rfl⟩
  obtain ⟨ms, ems⟩ : ∃ y, y = ds := ⟨_, rfl⟩
  rw [← emc] at hRc hQ
  rw [← ems] at hRs hQ
  obtain ⟨tc, htc⟩ : ∃ y, y = cells + dc := ⟨_, rfl⟩
  obtain ⟨tsl, htsl⟩ : ∃ y, y = slots + ds := ⟨_, rfl⟩
  unfold f_X11_circuit at hf
  refine lv_aload_n hx hb dX11_circuit_0 rfl (lv_at hl 0 rfl) ?_
  refine gf_11_1 hK hx hb hts hown hH (cl_n0 hL) (cl_k0 hL) (hts _ tw_288) (fun _ h9 => h9) dX11_circuit_1 ?_
  refine gf_3_0 hK hx hb hts hown hH (cl_n100 hL) (cl_k100 hL) (hts _ tw_84) (fun _ h9 => h9) dX11_circuit_4 ?_
  refine lv_if_ne (tgt := 17) hx hb dX11_circuit_7 (by decide) (fun c1 => ?_) (fun c1 => ?_)
  · have hf := nm_ie c1 hf
    refine lv_aload_n hx hb dX11_circuit_17 rfl (lv_at hl 0 rfl) ?_
    refine gf_11_3 hK hx hb hts hown hH (cl_n0 hL) (cl_k0 hL) (hts _ tw_290) (fun _ h9 => h9) dX11_circuit_18 ?_
    refine nm_calli (nm_runV (X := X) (nl := nl) (k_X2_lacksConductor hL hN (hf := (rfl : f_X2_lacksConductor S.1 = _))) hx hb hml hown hts hs0 hK hZ hH tw_788 tw_785 tw_786 (sw_X2_lacksConductor) tw_6 hd_X2_lacksConductor (cl_n300 hL) (cl_k300 hL) (by decide) rfl rfl rfl ⟨Nat.le_trans (Nat.le_of_ble_eq_true rfl) hRf, Nat.le_trans (Nat.le_of_ble_eq_true rfl) hRl⟩ rfl hl.1 rfl (Nat.le_of_ble_eq_true rfl) dX11_circuit_21 ⟨Nat.le_trans (Nat.le_add_right _ _) hC.1, Nat.le_trans (Nat.le_add_right _ _) hC.2⟩) hH (fun H locs hH => ?_)
    have hH : nm_H D Y (fun q => s0 ≤ q) s.heap X nl ad (S.1.1, S.1.2, S.2, K) H locs := hH
    refine lv_if_eq (tgt := 34) hx hb dX11_circuit_24 (by decide) (fun c2 => ?_) (fun c2 => ?_)
    · have hf := nm_it c2 hf
      refine lv_aload_n hx hb dX11_circuit_34 rfl (lv_at hl 0 rfl) ?_
      refine gf_11_3 hK hx hb hts hown hH (cl_n0 hL) (cl_k0 hL) (hts _ tw_290) (fun _ h9 => h9) dX11_circuit_35 ?_
      refine lv_aload_n hx hb dX11_circuit_38 rfl (lv_at hl 0 rfl) ?_
      refine gf_11_1 hK hx hb hts hown hH (cl_n0 hL) (cl_k0 hL) (hts _ tw_288) (fun _ h9 => h9) dX11_circuit_39 ?_
      obtain ⟨S3, c5, s6, dc, ds, hc4, hf, edc, eds⟩ := nm_ad1 hf
      refine nm_callvA (nm_runV (X := X) (nl := nl) (k_X2_findNets hL (hN := hN) (hf := hc4)) hx hb hml hown hts hs0 hK hZ hH tw_792 tw_789 tw_790 (sw_X2_findNets) tw_6 hd_X2_findNets (cl_n300 hL) (cl_k300 hL) (by decide) rfl rfl rfl ⟨Nat.le_trans (Nat.le_of_ble_eq_true rfl) hRf, Nat.le_trans (Nat.le_of_ble_eq_true rfl) hRl⟩ rfl hl.1 rfl (Nat.le_of_ble_eq_true rfl) dX11_circuit_42 ⟨by omega, by omega⟩) hH (fun ad hu H locs cells slots ec es hN hH => ?_)
      have hH : nm_H D Y (fun q => s0 ≤ q) s.heap X nl ad (S3.1.1, S3.1.2, S3.2, K) H locs := hH
      have hN : cl_N S3.2 := hN
      have hl : lv_has ls 1 [(0, .ref (ad 0))] := by rw [hu 0 (by decide)]; exact hl
      have hAd : cl_a ad0 ad := cl_a.tr hAd hu
      have hC : cells + dc ≤ R.cells ∧ slots + ds ≤ R.slots := ⟨by omega, by omega⟩
      refine lv_aload_n hx hb dX11_circuit_45 rfl (lv_at hl 0 rfl) ?_
      refine gf_11_3 hK hx hb hts hown hH (cl_n0 hL) (cl_k0 hL) (hts _ tw_290) (fun _ h9 => h9) dX11_circuit_46 ?_
      refine lv_aload_n hx hb dX11_circuit_49 rfl (lv_at hl 0 rfl) ?_
      refine gf_11_1 hK hx hb hts hown hH (cl_n0 hL) (cl_k0 hL) (hts _ tw_288) (fun _ h9 => h9) dX11_circuit_50 ?_
      obtain ⟨S7, c9, s10, dc, ds, hc8, hf, edc, eds⟩ := nm_ad1 hf
      refine nm_callvA (nm_runV (X := X) (nl := nl) (k_X2_findDevices hL (hN := hN) (hf := hc8)) hx hb hml hown hts hs0 hK hZ hH tw_805 tw_802 tw_803 (sw_X2_findDevices) tw_6 hd_X2_findDevices (cl_n300 hL) (cl_k300 hL) (by decide) rfl rfl rfl ⟨Nat.le_trans (Nat.le_of_ble_eq_true rfl) hRf, Nat.le_trans (Nat.le_of_ble_eq_true rfl) hRl⟩ rfl hl.1 rfl (Nat.le_of_ble_eq_true rfl) dX11_circuit_53 ⟨by omega, by omega⟩) hH (fun ad hu H locs cells slots ec es hN hH => ?_)
      have hH : nm_H D Y (fun q => s0 ≤ q) s.heap X nl ad (S7.1.1, S7.1.2, S7.2, K) H locs := hH
      have hN : cl_N S7.2 := hN
      have hl : lv_has ls 1 [(0, .ref (ad 0))] := by rw [hu 0 (by decide)]; exact hl
      have hAd : cl_a ad0 ad := cl_a.tr hAd hu
      have hC : cells + dc ≤ R.cells ∧ slots + ds ≤ R.slots := ⟨by omega, by omega⟩
      refine lv_aload_n hx hb dX11_circuit_56 rfl (lv_at hl 0 rfl) ?_
      refine gf_11_3 hK hx hb hts hown hH (cl_n0 hL) (cl_k0 hL) (hts _ tw_290) (fun _ h9 => h9) dX11_circuit_57 ?_
      refine lv_iconst (v := 1) hx hb dX11_circuit_60 (by decide) ?_
      obtain ⟨S11, eS11, hf⟩ := nm_let hf
      refine pf_2_2 hK hx hb hts hown hH (cl_n300 hL) (cl_k300 hL) (hts _ tw_173) (fun _ h9 => h9) rfl rfl dX11_circuit_61 (fun H locs hH => ?_)
      have hH : nm_H D Y (fun q => s0 ≤ q) s.heap X nl ad (S11.1.1, S11.1.2, S11.2, K) H locs := by rw [eS11]; exact hH
      have hN : cl_N S11.2 := by rw [eS11]; exact hN
      refine lv_aload_n hx hb dX11_circuit_64 rfl (lv_at hl 0 rfl) ?_
      refine gf_11_4 hK hx hb hts hown hH (cl_n0 hL) (cl_k0 hL) (hts _ tw_291) (fun _ h9 => h9) dX11_circuit_65 ?_
      refine lv_iconst (v := 0) hx hb dX11_circuit_68 (by decide) ?_
      obtain ⟨S12, eS12, hf⟩ := nm_let hf
      refine pf_10_3 hK hx hb hts hown hH (cl_n400 hL) (cl_k400 hL) (hts _ tw_230) (fun _ h9 => h9) rfl rfl dX11_circuit_69 (fun H locs hH => ?_)
      have hH : nm_H D Y (fun q => s0 ≤ q) s.heap X nl ad (S12.1.1, S12.1.2, S12.2, K) H locs := by rw [eS12]; exact hH
      have hN : cl_N S12.2 := by rw [eS12]; exact hN
      refine lv_aload_n hx hb dX11_circuit_72 rfl (lv_at hl 0 rfl) ?_
      refine gf_11_3 hK hx hb hts hown hH (cl_n0 hL) (cl_k0 hL) (hts _ tw_290) (fun _ h9 => h9) dX11_circuit_73 ?_
      refine gf_2_4 hK hx hb hts hown hH (cl_n300 hL) (cl_k300 hL) (hts _ tw_178) (fun _ h9 => h9) dX11_circuit_76 ?_
      refine gf_4_1 hK hx hb hts hown hH (cl_n310 hL) (cl_k310 hL) (hts _ tw_45) (fun _ h9 => h9) dX11_circuit_79 ?_
      exact nm_iretA hx hb hr hlocks hQ hRc hRs hC hN hAd hH hf dX11_circuit_82
    · have hf := nm_ie c2 hf
      refine lv_aload_n hx hb dX11_circuit_27 rfl (lv_at hl 0 rfl) ?_
      refine lv_bipush (v := -7) hx hb dX11_circuit_28 (by decide) ?_
      obtain ⟨r15, M13, hc14, hf⟩ := nm_sd2 hf
      obtain ⟨S16, eS16, hf⟩ := nm_let hf
      refine nm_calli (nm_runV (X := X) (nl := nl) (k_X11_refuse hL hN (hf := hc14)) hx hb hml hown hts hs0 hK hZ hH tw_325 tw_322 tw_324 (sw_X11_refuse) tw_1 hd_X11_refuse (cl_n0 hL) (cl_k0 hL) (by decide) rfl rfl rfl ⟨Nat.le_trans (Nat.le_of_ble_eq_true rfl) hRf, Nat.le_trans (Nat.le_of_ble_eq_true rfl) hRl⟩ rfl hl.1 rfl (Nat.le_of_ble_eq_true rfl) dX11_circuit_30 ⟨Nat.le_trans (Nat.le_add_right _ _) hC.1, Nat.le_trans (Nat.le_add_right _ _) hC.2⟩) hH (fun H locs hH => ?_)
      have hH : nm_H D Y (fun q => s0 ≤ q) s.heap X nl ad (S16.1.1, S16.1.2, S16.2, K) H locs := by rw [eS16]; exact hH
      have hN : cl_N S16.2 := by rw [eS16]; exact hN
      exact nm_iretA hx hb hr hlocks hQ hRc hRs hC hN hAd hH hf dX11_circuit_33
  · have hf := nm_it c1 hf
    refine lv_aload_n hx hb dX11_circuit_10 rfl (lv_at hl 0 rfl) ?_
    refine lv_bipush (v := -2) hx hb dX11_circuit_11 (by decide) ?_
    obtain ⟨r19, M17, hc18, hf⟩ := nm_sd2 hf
    obtain ⟨S20, eS20, hf⟩ := nm_let hf
    refine nm_calli (nm_runV (X := X) (nl := nl) (k_X11_refuse hL hN (hf := hc18)) hx hb hml hown hts hs0 hK hZ hH tw_325 tw_322 tw_324 (sw_X11_refuse) tw_1 hd_X11_refuse (cl_n0 hL) (cl_k0 hL) (by decide) rfl rfl rfl ⟨Nat.le_trans (Nat.le_of_ble_eq_true rfl) hRf, Nat.le_trans (Nat.le_of_ble_eq_true rfl) hRl⟩ rfl hl.1 rfl (Nat.le_of_ble_eq_true rfl) dX11_circuit_13 ⟨Nat.le_trans (Nat.le_add_right _ _) hC.1, Nat.le_trans (Nat.le_add_right _ _) hC.2⟩) hH (fun H locs hH => ?_)
    have hH : nm_H D Y (fun q => s0 ≤ q) s.heap X nl ad (S20.1.1, S20.1.2, S20.2, K) H locs := by rw [eS20]; exact hH
    have hN : cl_N S20.2 := by rw [eS20]; exact hN
    exact nm_iretA hx hb hr hlocks hQ hRc hRs hC hN hAd hH hf dX11_circuit_16
