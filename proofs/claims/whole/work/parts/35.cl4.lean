def f_X11_device (N : Nat → Nat) (x1 : Int32) (x2 : Int32) (M : cm) : Option (Int32 × cm) :=
(if (M.1 300 2) = 0 then
nm_s2 (f_X11_refuse (-2 : Int32) M) fun r15 M13 =>
some (r15, M13)
else
(if x1 = (-1 : Int32) then
some (M.1 300 3, M)
else
(if (f_X11_outside x1 (M.1 300 3)) = 0 then
(if (f_X11_outside x2 (4 : Int32)) = 0 then
nm_s1 (f_X2_ofDevice N x1 x2 M) fun r5 =>
some (r5, M)
else
nm_s2 (f_X11_refuse (-7 : Int32) M) fun r9 M7 =>
some (r9, M7))
else
nm_s2 (f_X11_refuse (-3 : Int32) M) fun r12 M10 =>
some (r12, M10))))
set_option maxHeartbeats 4000000 in
set_option maxRecDepth 100000 in
theorem k_X11_device {l : Launch} {D : va_G} {Y : nm_Y} {s0 : Nat} {X : va_W} {ad : Nat → Nat} {nl : List Nat} {N K : Nat → Nat} (hL : cl_L nl K) (hN : cl_N N) {x1 : Int32} {x2 : Int32} {M : cm} {r0 : Int32} {M0 : cm} (hf : f_X11_device N x1 x2 M = some (r0, M0)) :
    nm_Met l yX11_device cX11_device 3 (some .int) { frames := 1, cells := 0, slots := 0, locals := 22 } [.ref (ad 0), .int x1, .int x2] D Y s0 (nm_W Y X nl ad (M.1, M.2, N, K)) (nm_Qi D s0 r0 (nm_W Y X nl ad (M0.1, M0.2, N, K))) 0 0 := by
  refine nm_of (by decide) (Nat.le_of_ble_eq_true rfl) ?_
  intro p e R s m args below meth c Q ls hx hb hr hlocks hml hown hts hs0 hK hZ hRf hRl hRc hRs hQ hP hD hl
  have hH : nm_H D Y (fun q => s0 ≤ q) s.heap X nl ad (M.1, M.2, N, K) s.heap [] := ⟨hP, hD, va_S.rf⟩
  have hl : lv_has ls 3 [(0, .ref (ad 0)), (1, .int x1), (2, .int x2)] := hl
  unfold f_X11_device at hf
  refine lv_aload_n hx hb dX11_device_0 rfl (lv_at hl 0 rfl) ?_
  refine gf_11_3 hK hx hb hts hown hH (cl_n0 hL) (cl_k0 hL) (hts _ tw_290) (fun _ h9 => h9) dX11_device_1 ?_
  refine gf_2_2 hK hx hb hts hown hH (cl_n300 hL) (cl_k300 hL) (hts _ tw_173) (fun _ h9 => h9) dX11_device_4 ?_
  refine lv_if_ne (tgt := 17) hx hb dX11_device_7 (by decide) (fun c1 => ?_) (fun c1 => ?_)
  · have hf := nm_ie c1 hf
    refine lv_iload_n hx hb dX11_device_17 rfl (lv_at hl 1 rfl) ?_
    refine lv_iconst (v := -1) hx hb dX11_device_18 (by decide) ?_
    refine lv_icmp_ne (tgt := 30) hx hb dX11_device_19 (by decide) (fun c2 => ?_) (fun c2 => ?_)
    · have hf := nm_ie c2 hf
      refine lv_iload_n hx hb dX11_device_30 rfl (lv_at hl 1 rfl) ?_
      refine lv_aload_n hx hb dX11_device_31 rfl (lv_at hl 0 rfl) ?_
      refine gf_11_3 hK hx hb hts hown hH (cl_n0 hL) (cl_k0 hL) (hts _ tw_290) (fun _ h9 => h9) dX11_device_32 ?_
      refine gf_2_3 hK hx hb hts hown hH (cl_n300 hL) (cl_k300 hL) (hts _ tw_176) (fun _ h9 => h9) dX11_device_35 ?_
      refine nm_calli (nm_runS (X := X) (nl := nl) (k_X11_outside hL hN (hf := (rfl : f_X11_outside x1 (M.1 300 3) = _))) hx hb hml hown hts hs0 hK hZ hH tw_321 tw_319 tw_320 tw_1 hd_X11_outside rfl rfl ⟨Nat.le_trans (Nat.le_of_ble_eq_true rfl) hRf, Nat.le_trans (Nat.le_of_ble_eq_true rfl) hRl⟩ rfl hl.1 rfl (Nat.le_of_ble_eq_true rfl) dX11_device_38 ⟨Nat.zero_le _, Nat.zero_le _⟩) hH (fun H locs hH => ?_)
      have hH : nm_H D Y (fun q => s0 ≤ q) s.heap X nl ad (M.1, M.2, N, K) H locs := hH
      refine lv_if_eq (tgt := 51) hx hb dX11_device_41 (by decide) (fun c3 => ?_) (fun c3 => ?_)
      · have hf := nm_it c3 hf
        refine lv_iload_n hx hb dX11_device_51 rfl (lv_at hl 2 rfl) ?_
        refine lv_iconst (v := 4) hx hb dX11_device_52 (by decide) ?_
        refine nm_calli (nm_runS (X := X) (nl := nl) (k_X11_outside hL hN (hf := (rfl : f_X11_outside x2 (4 : Int32) = _))) hx hb hml hown hts hs0 hK hZ hH tw_321 tw_319 tw_320 tw_1 hd_X11_outside rfl rfl ⟨Nat.le_trans (Nat.le_of_ble_eq_true rfl) hRf, Nat.le_trans (Nat.le_of_ble_eq_true rfl) hRl⟩ rfl hl.1 rfl (Nat.le_of_ble_eq_true rfl) dX11_device_53 ⟨Nat.zero_le _, Nat.zero_le _⟩) hH (fun H locs hH => ?_)
        have hH : nm_H D Y (fun q => s0 ≤ q) s.heap X nl ad (M.1, M.2, N, K) H locs := hH
        refine lv_if_eq (tgt := 68) hx hb dX11_device_56 (by decide) (fun c4 => ?_) (fun c4 => ?_)
        · have hf := nm_it c4 hf
          refine lv_aload_n hx hb dX11_device_68 rfl (lv_at hl 0 rfl) ?_
          refine gf_11_3 hK hx hb hts hown hH (cl_n0 hL) (cl_k0 hL) (hts _ tw_290) (fun _ h9 => h9) dX11_device_69 ?_
          refine lv_iload_n hx hb dX11_device_72 rfl (lv_at hl 1 rfl) ?_
          refine lv_iload_n hx hb dX11_device_73 rfl (lv_at hl 2 rfl) ?_
          obtain ⟨r5, hc6, hf⟩ := nm_sd1 hf
          refine nm_calli (nm_runV (X := X) (nl := nl) (k_X2_ofDevice hL hN (hf := hc6)) hx hb hml hown hts hs0 hK hZ hH tw_864 tw_861 tw_862 (sw_X2_ofDevice) tw_6 hd_X2_ofDevice (cl_n300 hL) (cl_k300 hL) (by decide) rfl rfl rfl ⟨Nat.le_trans (Nat.le_of_ble_eq_true rfl) hRf, Nat.le_trans (Nat.le_of_ble_eq_true rfl) hRl⟩ rfl hl.1 rfl (Nat.le_of_ble_eq_true rfl) dX11_device_74 ⟨Nat.zero_le _, Nat.zero_le _⟩) hH (fun H locs hH => ?_)
          have hH : nm_H D Y (fun q => s0 ≤ q) s.heap X nl ad (M.1, M.2, N, K) H locs := hH
          exact nm_iret hx hb hr hlocks hQ hH (congrArg Prod.fst (Option.some.inj hf)) (congrArg (fun q => (q.2.1, q.2.2, N, K)) (Option.some.inj hf)) dX11_device_77
        · have hf := nm_ie c4 hf
          refine lv_aload_n hx hb dX11_device_59 rfl (lv_at hl 0 rfl) ?_
          refine lv_bipush (v := -7) hx hb dX11_device_60 (by decide) ?_
          obtain ⟨r9, M7, hc8, hf⟩ := nm_sd2 hf
          refine nm_calli (nm_runV (X := X) (nl := nl) (k_X11_refuse hL hN (hf := hc8)) hx hb hml hown hts hs0 hK hZ hH tw_325 tw_322 tw_324 (sw_X11_refuse) tw_1 hd_X11_refuse (cl_n0 hL) (cl_k0 hL) (by decide) rfl rfl rfl ⟨Nat.le_trans (Nat.le_of_ble_eq_true rfl) hRf, Nat.le_trans (Nat.le_of_ble_eq_true rfl) hRl⟩ rfl hl.1 rfl (Nat.le_of_ble_eq_true rfl) dX11_device_62 ⟨Nat.zero_le _, Nat.zero_le _⟩) hH (fun H locs hH => ?_)
          have hH : nm_H D Y (fun q => s0 ≤ q) s.heap X nl ad (M7.1, M7.2, N, K) H locs := hH
          refine lv_goto (tgt := 77) hx hb dX11_device_65 (by decide) ?_
          exact nm_iret hx hb hr hlocks hQ hH (congrArg Prod.fst (Option.some.inj hf)) (congrArg (fun q => (q.2.1, q.2.2, N, K)) (Option.some.inj hf)) dX11_device_77
      · have hf := nm_ie c3 hf
        refine lv_aload_n hx hb dX11_device_44 rfl (lv_at hl 0 rfl) ?_
        refine lv_bipush (v := -3) hx hb dX11_device_45 (by decide) ?_
        obtain ⟨r12, M10, hc11, hf⟩ := nm_sd2 hf
        refine nm_calli (nm_runV (X := X) (nl := nl) (k_X11_refuse hL hN (hf := hc11)) hx hb hml hown hts hs0 hK hZ hH tw_325 tw_322 tw_324 (sw_X11_refuse) tw_1 hd_X11_refuse (cl_n0 hL) (cl_k0 hL) (by decide) rfl rfl rfl ⟨Nat.le_trans (Nat.le_of_ble_eq_true rfl) hRf, Nat.le_trans (Nat.le_of_ble_eq_true rfl) hRl⟩ rfl hl.1 rfl (Nat.le_of_ble_eq_true rfl) dX11_device_47 ⟨Nat.zero_le _, Nat.zero_le _⟩) hH (fun H locs hH => ?_)
        have hH : nm_H D Y (fun q => s0 ≤ q) s.heap X nl ad (M10.1, M10.2, N, K) H locs := hH
        exact nm_iret hx hb hr hlocks hQ hH (congrArg Prod.fst (Option.some.inj hf)) (congrArg (fun q => (q.2.1, q.2.2, N, K)) (Option.some.inj hf)) dX11_device_50
    · have hf := nm_it c2 hf
      refine lv_aload_n hx hb dX11_device_22 rfl (lv_at hl 0 rfl) ?_
      refine gf_11_3 hK hx hb hts hown hH (cl_n0 hL) (cl_k0 hL) (hts _ tw_290) (fun _ h9 => h9) dX11_device_23 ?_
      refine gf_2_3 hK hx hb hts hown hH (cl_n300 hL) (cl_k300 hL) (hts _ tw_176) (fun _ h9 => h9) dX11_device_26 ?_
      exact nm_iret hx hb hr hlocks hQ hH (congrArg Prod.fst (Option.some.inj hf)) (congrArg (fun q => (q.2.1, q.2.2, N, K)) (Option.some.inj hf)) dX11_device_29
  · have hf := nm_it c1 hf
    refine lv_aload_n hx hb dX11_device_10 rfl (lv_at hl 0 rfl) ?_
    refine lv_bipush (v := -2) hx hb dX11_device_11 (by decide) ?_
    obtain ⟨r15, M13, hc14, hf⟩ := nm_sd2 hf
    refine nm_calli (nm_runV (X := X) (nl := nl) (k_X11_refuse hL hN (hf := hc14)) hx hb hml hown hts hs0 hK hZ hH tw_325 tw_322 tw_324 (sw_X11_refuse) tw_1 hd_X11_refuse (cl_n0 hL) (cl_k0 hL) (by decide) rfl rfl rfl ⟨Nat.le_trans (Nat.le_of_ble_eq_true rfl) hRf, Nat.le_trans (Nat.le_of_ble_eq_true rfl) hRl⟩ rfl hl.1 rfl (Nat.le_of_ble_eq_true rfl) dX11_device_13 ⟨Nat.zero_le _, Nat.zero_le _⟩) hH (fun H locs hH => ?_)
    have hH : nm_H D Y (fun q => s0 ≤ q) s.heap X nl ad (M13.1, M13.2, N, K) H locs := hH
    exact nm_iret hx hb hr hlocks hQ hH (congrArg Prod.fst (Option.some.inj hf)) (congrArg (fun q => (q.2.1, q.2.2, N, K)) (Option.some.inj hf)) dX11_device_16
def f_X11_wish (x1 : Int32) (x2 : Int32) (M : cm) : Option (Int32 × cm) :=
(if (f_X11_outside x1 (13824 : Int32)) = 0 then
(if x2 < 0 then
nm_s2 (f_X11_refuse (-7 : Int32) M) fun r8 M6 =>
some (r8, M6)
else
(if x2 ≤ (4096 : Int32) then
(if (M.1 400 0) < (12 : Int32) then
nm_s2 (f_X10_add x1 x2 M) fun r13 M11 =>
some (r13, M11)
else
nm_s2 (f_X11_refuse (-8 : Int32) M) fun r16 M14 =>
some (r16, M14))
else
nm_s2 (f_X11_refuse (-7 : Int32) M) fun r19 M17 =>
some (r19, M17)))
else
nm_s2 (f_X11_refuse (-7 : Int32) M) fun r4 M2 =>
some (r4, M2))
set_option maxHeartbeats 4000000 in
set_option maxRecDepth 100000 in
theorem k_X11_wish {l : Launch} {D : va_G} {Y : nm_Y} {s0 : Nat} {X : va_W} {ad : Nat → Nat} {nl : List Nat} {N K : Nat → Nat} (hL : cl_L nl K) (hN : cl_N N) {x1 : Int32} {x2 : Int32} {M : cm} {r0 : Int32} {M0 : cm} (hf : f_X11_wish x1 x2 M = some (r0, M0)) :
    nm_Met l yX11_wish cX11_wish 3 (some .int) { frames := 1, cells := 0, slots := 0, locals := 22 } [.ref (ad 0), .int x1, .int x2] D Y s0 (nm_W Y X nl ad (M.1, M.2, N, K)) (nm_Qi D s0 r0 (nm_W Y X nl ad (M0.1, M0.2, N, K))) 0 0 := by
  refine nm_of (by decide) (Nat.le_of_ble_eq_true rfl) ?_
  intro p e R s m args below meth c Q ls hx hb hr hlocks hml hown hts hs0 hK hZ hRf hRl hRc hRs hQ hP hD hl
  have hH : nm_H D Y (fun q => s0 ≤ q) s.heap X nl ad (M.1, M.2, N, K) s.heap [] := ⟨hP, hD, va_S.rf⟩
  have hl : lv_has ls 3 [(0, .ref (ad 0)), (1, .int x1), (2, .int x2)] := hl
  unfold f_X11_wish at hf
  refine lv_iload_n hx hb dX11_wish_0 rfl (lv_at hl 1 rfl) ?_
  refine lv_sipush (v := 13824) hx hb dX11_wish_1 (by decide) ?_
  refine nm_calli (nm_runS (X := X) (nl := nl) (k_X11_outside hL hN (hf := (rfl : f_X11_outside x1 (13824 : Int32) = _))) hx hb hml hown hts hs0 hK hZ hH tw_321 tw_319 tw_320 tw_1 hd_X11_outside rfl rfl ⟨Nat.le_trans (Nat.le_of_ble_eq_true rfl) hRf, Nat.le_trans (Nat.le_of_ble_eq_true rfl) hRl⟩ rfl hl.1 rfl (Nat.le_of_ble_eq_true rfl) dX11_wish_4 ⟨Nat.zero_le _, Nat.zero_le _⟩) hH (fun H locs hH => ?_)
  have hH : nm_H D Y (fun q => s0 ≤ q) s.heap X nl ad (M.1, M.2, N, K) H locs := hH
  refine lv_if_ne (tgt := 21) hx hb dX11_wish_7 (by decide) (fun c1 => ?_) (fun c1 => ?_)
  · have hf := nm_ie c1 hf
    refine lv_aload_n hx hb dX11_wish_21 rfl (lv_at hl 0 rfl) ?_
    refine lv_bipush (v := -7) hx hb dX11_wish_22 (by decide) ?_
    obtain ⟨r4, M2, hc3, hf⟩ := nm_sd2 hf
    refine nm_calli (nm_runV (X := X) (nl := nl) (k_X11_refuse hL hN (hf := hc3)) hx hb hml hown hts hs0 hK hZ hH tw_325 tw_322 tw_324 (sw_X11_refuse) tw_1 hd_X11_refuse (cl_n0 hL) (cl_k0 hL) (by decide) rfl rfl rfl ⟨Nat.le_trans (Nat.le_of_ble_eq_true rfl) hRf, Nat.le_trans (Nat.le_of_ble_eq_true rfl) hRl⟩ rfl hl.1 rfl (Nat.le_of_ble_eq_true rfl) dX11_wish_24 ⟨Nat.zero_le _, Nat.zero_le _⟩) hH (fun H locs hH => ?_)
    have hH : nm_H D Y (fun q => s0 ≤ q) s.heap X nl ad (M2.1, M2.2, N, K) H locs := hH
    exact nm_iret hx hb hr hlocks hQ hH (congrArg Prod.fst (Option.some.inj hf)) (congrArg (fun q => (q.2.1, q.2.2, N, K)) (Option.some.inj hf)) dX11_wish_27
  · have hf := nm_it c1 hf
    refine lv_iload_n hx hb dX11_wish_10 rfl (lv_at hl 2 rfl) ?_
    refine lv_if_lt (tgt := 21) hx hb dX11_wish_11 (by decide) (fun c5 => ?_) (fun c5 => ?_)
    · have hf := nm_it c5 hf
      refine lv_aload_n hx hb dX11_wish_21 rfl (lv_at hl 0 rfl) ?_
      refine lv_bipush (v := -7) hx hb dX11_wish_22 (by decide) ?_
      obtain ⟨r8, M6, hc7, hf⟩ := nm_sd2 hf
      refine nm_calli (nm_runV (X := X) (nl := nl) (k_X11_refuse hL hN (hf := hc7)) hx hb hml hown hts hs0 hK hZ hH tw_325 tw_322 tw_324 (sw_X11_refuse) tw_1 hd_X11_refuse (cl_n0 hL) (cl_k0 hL) (by decide) rfl rfl rfl ⟨Nat.le_trans (Nat.le_of_ble_eq_true rfl) hRf, Nat.le_trans (Nat.le_of_ble_eq_true rfl) hRl⟩ rfl hl.1 rfl (Nat.le_of_ble_eq_true rfl) dX11_wish_24 ⟨Nat.zero_le _, Nat.zero_le _⟩) hH (fun H locs hH => ?_)
      have hH : nm_H D Y (fun q => s0 ≤ q) s.heap X nl ad (M6.1, M6.2, N, K) H locs := hH
      exact nm_iret hx hb hr hlocks hQ hH (congrArg Prod.fst (Option.some.inj hf)) (congrArg (fun q => (q.2.1, q.2.2, N, K)) (Option.some.inj hf)) dX11_wish_27
    · have hf := nm_ie c5 hf
      refine lv_iload_n hx hb dX11_wish_14 rfl (lv_at hl 2 rfl) ?_
      refine lv_sipush (v := 4096) hx hb dX11_wish_15 (by decide) ?_
      refine lv_icmp_le (tgt := 28) hx hb dX11_wish_18 (by decide) (fun c9 => ?_) (fun c9 => ?_)
      · have hf := nm_it c9 hf
        refine lv_aload_n hx hb dX11_wish_28 rfl (lv_at hl 0 rfl) ?_
        refine gf_11_4 hK hx hb hts hown hH (cl_n0 hL) (cl_k0 hL) (hts _ tw_291) (fun _ h9 => h9) dX11_wish_29 ?_
        refine gf_10_0 hK hx hb hts hown hH (cl_n400 hL) (cl_k400 hL) (hts _ tw_224) (fun _ h9 => h9) dX11_wish_32 ?_
        refine lv_bipush (v := 12) hx hb dX11_wish_35 (by decide) ?_
        refine lv_icmp_lt (tgt := 49) hx hb dX11_wish_37 (by decide) (fun c10 => ?_) (fun c10 => ?_)
        · have hf := nm_it c10 hf
          refine lv_aload_n hx hb dX11_wish_49 rfl (lv_at hl 0 rfl) ?_
          refine gf_11_4 hK hx hb hts hown hH (cl_n0 hL) (cl_k0 hL) (hts _ tw_291) (fun _ h9 => h9) dX11_wish_50 ?_
          refine lv_iload_n hx hb dX11_wish_53 rfl (lv_at hl 1 rfl) ?_
          refine lv_iload_n hx hb dX11_wish_54 rfl (lv_at hl 2 rfl) ?_
          obtain ⟨r13, M11, hc12, hf⟩ := nm_sd2 hf
          refine nm_calli (nm_runV (X := X) (nl := nl) (k_X10_add hL hN (hf := hc12)) hx hb hml hown hts hs0 hK hZ hH tw_872 tw_869 tw_870 (sw_X10_add) tw_7 hd_X10_add (cl_n400 hL) (cl_k400 hL) (by decide) rfl rfl rfl ⟨Nat.le_trans (Nat.le_of_ble_eq_true rfl) hRf, Nat.le_trans (Nat.le_of_ble_eq_true rfl) hRl⟩ rfl hl.1 rfl (Nat.le_of_ble_eq_true rfl) dX11_wish_55 ⟨Nat.zero_le _, Nat.zero_le _⟩) hH (fun H locs hH => ?_)
          have hH : nm_H D Y (fun q => s0 ≤ q) s.heap X nl ad (M11.1, M11.2, N, K) H locs := hH
          exact nm_iret hx hb hr hlocks hQ hH (congrArg Prod.fst (Option.some.inj hf)) (congrArg (fun q => (q.2.1, q.2.2, N, K)) (Option.some.inj hf)) dX11_wish_58
        · have hf := nm_ie c10 hf
          refine lv_aload_n hx hb dX11_wish_40 rfl (lv_at hl 0 rfl) ?_
          refine lv_bipush (v := -8) hx hb dX11_wish_41 (by decide) ?_
          obtain ⟨r16, M14, hc15, hf⟩ := nm_sd2 hf
          refine nm_calli (nm_runV (X := X) (nl := nl) (k_X11_refuse hL hN (hf := hc15)) hx hb hml hown hts hs0 hK hZ hH tw_325 tw_322 tw_324 (sw_X11_refuse) tw_1 hd_X11_refuse (cl_n0 hL) (cl_k0 hL) (by decide) rfl rfl rfl ⟨Nat.le_trans (Nat.le_of_ble_eq_true rfl) hRf, Nat.le_trans (Nat.le_of_ble_eq_true rfl) hRl⟩ rfl hl.1 rfl (Nat.le_of_ble_eq_true rfl) dX11_wish_43 ⟨Nat.zero_le _, Nat.zero_le _⟩) hH (fun H locs hH => ?_)
          have hH : nm_H D Y (fun q => s0 ≤ q) s.heap X nl ad (M14.1, M14.2, N, K) H locs := hH
          refine lv_goto (tgt := 58) hx hb dX11_wish_46 (by decide) ?_
          exact nm_iret hx hb hr hlocks hQ hH (congrArg Prod.fst (Option.some.inj hf)) (congrArg (fun q => (q.2.1, q.2.2, N, K)) (Option.some.inj hf)) dX11_wish_58
      · have hf := nm_ie c9 hf
        refine lv_aload_n hx hb dX11_wish_21 rfl (lv_at hl 0 rfl) ?_
        refine lv_bipush (v := -7) hx hb dX11_wish_22 (by decide) ?_
        obtain ⟨r19, M17, hc18, hf⟩ := nm_sd2 hf
        refine nm_calli (nm_runV (X := X) (nl := nl) (k_X11_refuse hL hN (hf := hc18)) hx hb hml hown hts hs0 hK hZ hH tw_325 tw_322 tw_324 (sw_X11_refuse) tw_1 hd_X11_refuse (cl_n0 hL) (cl_k0 hL) (by decide) rfl rfl rfl ⟨Nat.le_trans (Nat.le_of_ble_eq_true rfl) hRf, Nat.le_trans (Nat.le_of_ble_eq_true rfl) hRl⟩ rfl hl.1 rfl (Nat.le_of_ble_eq_true rfl) dX11_wish_24 ⟨Nat.zero_le _, Nat.zero_le _⟩) hH (fun H locs hH => ?_)
        have hH : nm_H D Y (fun q => s0 ≤ q) s.heap X nl ad (M17.1, M17.2, N, K) H locs := hH
        exact nm_iret hx hb hr hlocks hQ hH (congrArg Prod.fst (Option.some.inj hf)) (congrArg (fun q => (q.2.1, q.2.2, N, K)) (Option.some.inj hf)) dX11_wish_27
def f_X11_unwish (M : cm) : Option (Int32 × cm) :=
nm_l (M.1 400 0) fun v1 =>
nm_l ((nm_up M.1 400 0 (0 : Int32), M.2)) fun M2 =>
nm_l ((nm_up M2.1 400 3 (0 : Int32), M2.2)) fun M3 =>
some (v1, M3)
set_option maxHeartbeats 4000000 in
set_option maxRecDepth 100000 in
theorem k_X11_unwish {l : Launch} {D : va_G} {Y : nm_Y} {s0 : Nat} {X : va_W} {ad : Nat → Nat} {nl : List Nat} {N K : Nat → Nat} (hL : cl_L nl K) (hN : cl_N N) {M : cm} {r0 : Int32} {M0 : cm} (hf : f_X11_unwish M = some (r0, M0)) :
    nm_Met l yX11_unwish cX11_unwish 2 (some .int) { frames := 0, cells := 0, slots := 0, locals := 0 } [.ref (ad 0)] D Y s0 (nm_W Y X nl ad (M.1, M.2, N, K)) (nm_Qi D s0 r0 (nm_W Y X nl ad (M0.1, M0.2, N, K))) 0 0 := by
  refine nm_of (by decide) (Nat.le_of_ble_eq_true rfl) ?_
  intro p e R s m args below meth c Q ls hx hb hr hlocks hml hown hts hs0 hK hZ hRf hRl hRc hRs hQ hP hD hl
  have hH : nm_H D Y (fun q => s0 ≤ q) s.heap X nl ad (M.1, M.2, N, K) s.heap [] := ⟨hP, hD, va_S.rf⟩
  have hl : lv_has ls 2 [(0, .ref (ad 0))] := hl
  unfold f_X11_unwish at hf
  refine lv_aload_n hx hb dX11_unwish_0 rfl (lv_at hl 0 rfl) ?_
  refine gf_11_4 hK hx hb hts hown hH (cl_n0 hL) (cl_k0 hL) (hts _ tw_291) (fun _ h9 => h9) dX11_unwish_1 ?_
  refine gf_10_0 hK hx hb hts hown hH (cl_n400 hL) (cl_k400 hL) (hts _ tw_224) (fun _ h9 => h9) dX11_unwish_4 ?_
  obtain ⟨v1, ev1, hf⟩ := nm_let hf
  refine nm_topi ev1 ?_
  refine lv_istore_n (lv' := [(1, .int v1), (0, .ref (ad 0))]) hx hb dX11_unwish_7 rfl hl (by decide) rfl (fun ls hl => ?_)
  refine lv_aload_n hx hb dX11_unwish_8 rfl (lv_at hl 1 rfl) ?_
  refine gf_11_4 hK hx hb hts hown hH (cl_n0 hL) (cl_k0 hL) (hts _ tw_291) (fun _ h9 => h9) dX11_unwish_9 ?_
  refine lv_iconst (v := 0) hx hb dX11_unwish_12 (by decide) ?_
  obtain ⟨M2, eM2, hf⟩ := nm_let hf
  refine pf_10_0 hK hx hb hts hown hH (cl_n400 hL) (cl_k400 hL) (hts _ tw_224) (fun _ h9 => h9) dX11_unwish_13 (fun H locs hH => ?_)
  have hH : nm_H D Y (fun q => s0 ≤ q) s.heap X nl ad (M2.1, M2.2, N, K) H locs := by rw [eM2]; exact hH
  refine lv_aload_n hx hb dX11_unwish_16 rfl (lv_at hl 1 rfl) ?_
  refine gf_11_4 hK hx hb hts hown hH (cl_n0 hL) (cl_k0 hL) (hts _ tw_291) (fun _ h9 => h9) dX11_unwish_17 ?_
  refine lv_iconst (v := 0) hx hb dX11_unwish_20 (by decide) ?_
  obtain ⟨M3, eM3, hf⟩ := nm_let hf
  refine pf_10_3 hK hx hb hts hown hH (cl_n400 hL) (cl_k400 hL) (hts _ tw_230) (fun _ h9 => h9) rfl rfl dX11_unwish_21 (fun H locs hH => ?_)
  have hH : nm_H D Y (fun q => s0 ≤ q) s.heap X nl ad (M3.1, M3.2, N, K) H locs := by rw [eM3]; exact hH
  refine lv_iload_n hx hb dX11_unwish_24 rfl (lv_at hl 0 rfl) ?_
  exact nm_iret hx hb hr hlocks hQ hH (congrArg Prod.fst (Option.some.inj hf)) (congrArg (fun q => (q.2.1, q.2.2, N, K)) (Option.some.inj hf)) dX11_unwish_25
def f_X11_tries (M : cm) : Int32 :=
M.1 400 1
set_option maxHeartbeats 4000000 in
set_option maxRecDepth 100000 in
theorem k_X11_tries {l : Launch} {D : va_G} {Y : nm_Y} {s0 : Nat} {X : va_W} {ad : Nat → Nat} {nl : List Nat} {N K : Nat → Nat} (hL : cl_L nl K) (hN : cl_N N) {M : cm} {r0 : Int32} (hf : f_X11_tries M = r0) :
    nm_Met l yX11_tries cX11_tries 1 (some .int) { frames := 0, cells := 0, slots := 0, locals := 0 } [.ref (ad 0)] D Y s0 (nm_W Y X nl ad (M.1, M.2, N, K)) (nm_Qi D s0 r0 (nm_W Y X nl ad (M.1, M.2, N, K))) 0 0 := by
  refine nm_of (by decide) (Nat.le_of_ble_eq_true rfl) ?_
  intro p e R s m args below meth c Q ls hx hb hr hlocks hml hown hts hs0 hK hZ hRf hRl hRc hRs hQ hP hD hl
  have hH : nm_H D Y (fun q => s0 ≤ q) s.heap X nl ad (M.1, M.2, N, K) s.heap [] := ⟨hP, hD, va_S.rf⟩
  have hl : lv_has ls 1 [(0, .ref (ad 0))] := hl
  unfold f_X11_tries at hf
  refine lv_aload_n hx hb dX11_tries_0 rfl (lv_at hl 0 rfl) ?_
  refine gf_11_4 hK hx hb hts hown hH (cl_n0 hL) (cl_k0 hL) (hts _ tw_291) (fun _ h9 => h9) dX11_tries_1 ?_
  refine gf_10_1 hK hx hb hts hown hH (cl_n400 hL) (cl_k400 hL) (hts _ tw_226) (fun _ h9 => h9) dX11_tries_4 ?_
  exact nm_iret hx hb hr hlocks hQ hH hf rfl dX11_tries_7
def f_X11_pair_J42 (x1 : Int32) (x2 : Int32) (t42_1 : Int32) (t42_0 : Int32) (M : cm) : Option (Int32 × cm) :=
(if (f_X11_outside t42_0 t42_1) = 0 then
(if x2 = 0 then
nm_s1 (f_X10_thingOf x1 M) fun r4 =>
some (r4, M)
else
nm_s1 (f_X10_wishedOf x1 M) fun r6 =>
some (r6, M))
else
nm_s2 (f_X11_refuse (-3 : Int32) M) fun r10 M8 =>
some (r10, M8))
def f_X11_pair (x1 : Int32) (x2 : Int32) (M : cm) : Option (Int32 × cm) :=
(if (M.1 400 3) = 0 then
nm_s2 (f_X11_refuse (-2 : Int32) M) fun r14 M12 =>
some (r14, M12)
else
(if x2 = 0 then
f_X11_pair_J42 x1 x2 (M.1 300 3) x1 M
else
f_X11_pair_J42 x1 x2 (M.1 310 1) x1 M))
set_option maxHeartbeats 4000000 in
set_option maxRecDepth 100000 in
theorem k_X11_pair {l : Launch} {D : va_G} {Y : nm_Y} {s0 : Nat} {X : va_W} {ad : Nat → Nat} {nl : List Nat} {N K : Nat → Nat} (hL : cl_L nl K) (hN : cl_N N) {x1 : Int32} {x2 : Int32} {M : cm} {r0 : Int32} {M0 : cm} (hf : f_X11_pair x1 x2 M = some (r0, M0)) :
    nm_Met l yX11_pair cX11_pair 3 (some .int) { frames := 2, cells := 0, slots := 0, locals := 42 } [.ref (ad 0), .int x1, .int x2] D Y s0 (nm_W Y X nl ad (M.1, M.2, N, K)) (nm_Qi D s0 r0 (nm_W Y X nl ad (M0.1, M0.2, N, K))) 0 0 := by
  refine nm_of (by decide) (Nat.le_of_ble_eq_true rfl) ?_
  intro p e R s m args below meth c Q ls hx hb hr hlocks hml hown hts hs0 hK hZ hRf hRl hRc hRs hQ hP hD hl
  have hH : nm_H D Y (fun q => s0 ≤ q) s.heap X nl ad (M.1, M.2, N, K) s.heap [] := ⟨hP, hD, va_S.rf⟩
  have hl : lv_has ls 3 [(0, .ref (ad 0)), (1, .int x1), (2, .int x2)] := hl
  unfold f_X11_pair at hf
  refine lv_aload_n hx hb dX11_pair_0 rfl (lv_at hl 0 rfl) ?_
  refine gf_11_4 hK hx hb hts hown hH (cl_n0 hL) (cl_k0 hL) (hts _ tw_291) (fun _ h9 => h9) dX11_pair_1 ?_
  refine gf_10_3 hK hx hb hts hown hH (cl_n400 hL) (cl_k400 hL) (hts _ tw_230) (fun _ h9 => h9) dX11_pair_4 ?_
  refine lv_if_ne (tgt := 17) hx hb dX11_pair_7 (by decide) (fun c1 => ?_) (fun c1 => ?_)
  · have hf := nm_ie c1 hf
    refine lv_iload_n hx hb dX11_pair_17 rfl (lv_at hl 1 rfl) ?_
    refine lv_iload_n hx hb dX11_pair_18 rfl (lv_at hl 2 rfl) ?_
    have hJ42 : ∀ (t42_1 : Int32) (t42_0 : Int32) (H : Heap) (locs : List Loc) (ls : Array Slot), nm_H D Y (fun q => s0 ≤ q) s.heap X nl ad (M.1, M.2, N, K) H locs → lv_has ls 3 [(0, .ref (ad 0)), (1, .int x1), (2, .int x2)] → f_X11_pair_J42 x1 x2 t42_1 t42_0 M = some (r0, M0) → W p l e R s m args below meth c H locs 0 0 Q (F0 m 42 ls [.int t42_1, .int t42_0]) := by
      intro t42_1 t42_0 H locs ls hH hl hf
      unfold f_X11_pair_J42 at hf
      refine nm_calli (nm_runS (X := X) (nl := nl) (k_X11_outside hL hN (hf := (rfl : f_X11_outside t42_0 t42_1 = _))) hx hb hml hown hts hs0 hK hZ hH tw_321 tw_319 tw_320 tw_1 hd_X11_outside rfl rfl ⟨Nat.le_trans (Nat.le_of_ble_eq_true rfl) hRf, Nat.le_trans (Nat.le_of_ble_eq_true rfl) hRl⟩ rfl hl.1 rfl (Nat.le_of_ble_eq_true rfl) dX11_pair_42 ⟨Nat.zero_le _, Nat.zero_le _⟩) hH (fun H locs hH => ?_)
      have hH : nm_H D Y (fun q => s0 ≤ q) s.heap X nl ad (M.1, M.2, N, K) H locs := hH
      refine lv_if_eq (tgt := 55) hx hb dX11_pair_45 (by decide) (fun c2 => ?_) (fun c2 => ?_)
      · have hf := nm_it c2 hf
        refine lv_iload_n hx hb dX11_pair_55 rfl (lv_at hl 2 rfl) ?_
        refine lv_if_eq (tgt := 70) hx hb dX11_pair_56 (by decide) (fun c3 => ?_) (fun c3 => ?_)
        · have hf := nm_it c3 hf
          refine lv_aload_n hx hb dX11_pair_70 rfl (lv_at hl 0 rfl) ?_
          refine gf_11_4 hK hx hb hts hown hH (cl_n0 hL) (cl_k0 hL) (hts _ tw_291) (fun _ h9 => h9) dX11_pair_71 ?_
          refine lv_iload_n hx hb dX11_pair_74 rfl (lv_at hl 1 rfl) ?_
          obtain ⟨r4, hc5, hf⟩ := nm_sd1 hf
          refine nm_calli (nm_runV (X := X) (nl := nl) (k_X10_thingOf hL hN (hf := hc5)) hx hb hml hown hts hs0 hK hZ hH tw_923 tw_920 tw_921 (sw_X10_thingOf) tw_7 hd_X10_thingOf (cl_n400 hL) (cl_k400 hL) (by decide) rfl rfl rfl ⟨Nat.le_trans (Nat.le_of_ble_eq_true rfl) hRf, Nat.le_trans (Nat.le_of_ble_eq_true rfl) hRl⟩ rfl hl.1 rfl (Nat.le_of_ble_eq_true rfl) dX11_pair_75 ⟨Nat.zero_le _, Nat.zero_le _⟩) hH (fun H locs hH => ?_)
          have hH : nm_H D Y (fun q => s0 ≤ q) s.heap X nl ad (M.1, M.2, N, K) H locs := hH
          exact nm_iret hx hb hr hlocks hQ hH (congrArg Prod.fst (Option.some.inj hf)) (congrArg (fun q => (q.2.1, q.2.2, N, K)) (Option.some.inj hf)) dX11_pair_78
        · have hf := nm_ie c3 hf
          refine lv_aload_n hx hb dX11_pair_59 rfl (lv_at hl 0 rfl) ?_
          refine gf_11_4 hK hx hb hts hown hH (cl_n0 hL) (cl_k0 hL) (hts _ tw_291) (fun _ h9 => h9) dX11_pair_60 ?_
          refine lv_iload_n hx hb dX11_pair_63 rfl (lv_at hl 1 rfl) ?_
          obtain ⟨r6, hc7, hf⟩ := nm_sd1 hf
          refine nm_calli (nm_runV (X := X) (nl := nl) (k_X10_wishedOf hL hN (hf := hc7)) hx hb hml hown hts hs0 hK hZ hH tw_906 tw_919 tw_904 (sw_X10_wishedOf) tw_7 hd_X10_wishedOf (cl_n400 hL) (cl_k400 hL) (by decide) rfl rfl rfl ⟨Nat.le_trans (Nat.le_of_ble_eq_true rfl) hRf, Nat.le_trans (Nat.le_of_ble_eq_true rfl) hRl⟩ rfl hl.1 rfl (Nat.le_of_ble_eq_true rfl) dX11_pair_64 ⟨Nat.zero_le _, Nat.zero_le _⟩) hH (fun H locs hH => ?_)
          have hH : nm_H D Y (fun q => s0 ≤ q) s.heap X nl ad (M.1, M.2, N, K) H locs := hH
          refine lv_goto (tgt := 78) hx hb dX11_pair_67 (by decide) ?_
          exact nm_iret hx hb hr hlocks hQ hH (congrArg Prod.fst (Option.some.inj hf)) (congrArg (fun q => (q.2.1, q.2.2, N, K)) (Option.some.inj hf)) dX11_pair_78
      · have hf := nm_ie c2 hf
        refine lv_aload_n hx hb dX11_pair_48 rfl (lv_at hl 0 rfl) ?_
        refine lv_bipush (v := -3) hx hb dX11_pair_49 (by decide) ?_
        obtain ⟨r10, M8, hc9, hf⟩ := nm_sd2 hf
        refine nm_calli (nm_runV (X := X) (nl := nl) (k_X11_refuse hL hN (hf := hc9)) hx hb hml hown hts hs0 hK hZ hH tw_325 tw_322 tw_324 (sw_X11_refuse) tw_1 hd_X11_refuse (cl_n0 hL) (cl_k0 hL) (by decide) rfl rfl rfl ⟨Nat.le_trans (Nat.le_of_ble_eq_true rfl) hRf, Nat.le_trans (Nat.le_of_ble_eq_true rfl) hRl⟩ rfl hl.1 rfl (Nat.le_of_ble_eq_true rfl) dX11_pair_51 ⟨Nat.zero_le _, Nat.zero_le _⟩) hH (fun H locs hH => ?_)
        have hH : nm_H D Y (fun q => s0 ≤ q) s.heap X nl ad (M8.1, M8.2, N, K) H locs := hH
        exact nm_iret hx hb hr hlocks hQ hH (congrArg Prod.fst (Option.some.inj hf)) (congrArg (fun q => (q.2.1, q.2.2, N, K)) (Option.some.inj hf)) dX11_pair_54
    refine lv_if_eq (tgt := 35) hx hb dX11_pair_19 (by decide) (fun c11 => ?_) (fun c11 => ?_)
    · have hf := nm_it c11 hf
      refine lv_aload_n hx hb dX11_pair_35 rfl (lv_at hl 0 rfl) ?_
      refine gf_11_3 hK hx hb hts hown hH (cl_n0 hL) (cl_k0 hL) (hts _ tw_290) (fun _ h9 => h9) dX11_pair_36 ?_
      refine gf_2_3 hK hx hb hts hown hH (cl_n300 hL) (cl_k300 hL) (hts _ tw_176) (fun _ h9 => h9) dX11_pair_39 ?_
      exact hJ42 (M.1 300 3) x1 _ _ _ hH (lv_sub hl [0, 1, 2] rfl) hf
    · have hf := nm_ie c11 hf
      refine lv_aload_n hx hb dX11_pair_22 rfl (lv_at hl 0 rfl) ?_
      refine gf_11_3 hK hx hb hts hown hH (cl_n0 hL) (cl_k0 hL) (hts _ tw_290) (fun _ h9 => h9) dX11_pair_23 ?_
      refine gf_2_4 hK hx hb hts hown hH (cl_n300 hL) (cl_k300 hL) (hts _ tw_178) (fun _ h9 => h9) dX11_pair_26 ?_
      refine gf_4_1 hK hx hb hts hown hH (cl_n310 hL) (cl_k310 hL) (hts _ tw_45) (fun _ h9 => h9) dX11_pair_29 ?_
      refine lv_goto (tgt := 42) hx hb dX11_pair_32 (by decide) ?_
      exact hJ42 (M.1 310 1) x1 _ _ _ hH (lv_sub hl [0, 1, 2] rfl) hf
  · have hf := nm_it c1 hf
    refine lv_aload_n hx hb dX11_pair_10 rfl (lv_at hl 0 rfl) ?_
    refine lv_bipush (v := -2) hx hb dX11_pair_11 (by decide) ?_
    obtain ⟨r14, M12, hc13, hf⟩ := nm_sd2 hf
    refine nm_calli (nm_runV (X := X) (nl := nl) (k_X11_refuse hL hN (hf := hc13)) hx hb hml hown hts hs0 hK hZ hH tw_325 tw_322 tw_324 (sw_X11_refuse) tw_1 hd_X11_refuse (cl_n0 hL) (cl_k0 hL) (by decide) rfl rfl rfl ⟨Nat.le_trans (Nat.le_of_ble_eq_true rfl) hRf, Nat.le_trans (Nat.le_of_ble_eq_true rfl) hRl⟩ rfl hl.1 rfl (Nat.le_of_ble_eq_true rfl) dX11_pair_13 ⟨Nat.zero_le _, Nat.zero_le _⟩) hH (fun H locs hH => ?_)
    have hH : nm_H D Y (fun q => s0 ≤ q) s.heap X nl ad (M12.1, M12.2, N, K) H locs := hH
    exact nm_iret hx hb hr hlocks hQ hH (congrArg Prod.fst (Option.some.inj hf)) (congrArg (fun q => (q.2.1, q.2.2, N, K)) (Option.some.inj hf)) dX11_pair_16
def f_X11_lay (x1 : Int32) (x2 : Int32) (M : cm) : Option (Int32 × cm) :=
(if (f_X11_outside x1 (16 : Int32)) = 0 then
(if (f_X11_outside x2 (64 : Int32)) = 0 then
(if (M.1 100 0) = 0 then
nm_s2 (f_X11_refuse (-2 : Int32) M) fun r12 M10 =>
some (r12, M10)
else
nm_c (((64 : Int32) * x1) + x2) 1024 (
nm_l ((M.1, nm_upJ M.2 0 7 (M.2 101 (((64 : Int32) * x1) + x2).toNatClampNeg))) fun M8 =>
nm_l ((nm_up M8.1 0 8 (1 : Int32), M8.2)) fun M9 =>
some (f_J13_bitCount_95d88 (M9.2 0 7), M9)))
else
nm_s2 (f_X11_refuse (-3 : Int32) M) fun r15 M13 =>
some (r15, M13))
else
nm_s2 (f_X11_refuse (-3 : Int32) M) fun r4 M2 =>
some (r4, M2))
set_option maxHeartbeats 4000000 in
set_option maxRecDepth 100000 in
theorem k_X11_lay {l : Launch} {D : va_G} {Y : nm_Y} {s0 : Nat} {X : va_W} {ad : Nat → Nat} {nl : List Nat} {N K : Nat → Nat} (hL : cl_L nl K) (hN : cl_N N) {x1 : Int32} {x2 : Int32} {M : cm} {r0 : Int32} {M0 : cm} (hf : f_X11_lay x1 x2 M = some (r0, M0)) :
    nm_Met l yX11_lay cX11_lay 3 (some .int) { frames := 1, cells := 0, slots := 0, locals := 21 } [.ref (ad 0), .int x1, .int x2] D Y s0 (nm_W Y X nl ad (M.1, M.2, N, K)) (nm_Qi D s0 r0 (nm_W Y X nl ad (M0.1, M0.2, N, K))) 0 0 := by
  refine nm_of (by decide) (Nat.le_of_ble_eq_true rfl) ?_
  intro p e R s m args below meth c Q ls hx hb hr hlocks hml hown hts hs0 hK hZ hRf hRl hRc hRs hQ hP hD hl
  have hH : nm_H D Y (fun q => s0 ≤ q) s.heap X nl ad (M.1, M.2, N, K) s.heap [] := ⟨hP, hD, va_S.rf⟩
  have hl : lv_has ls 3 [(0, .ref (ad 0)), (1, .int x1), (2, .int x2)] := hl
  unfold f_X11_lay at hf
  refine lv_iload_n hx hb dX11_lay_0 rfl (lv_at hl 1 rfl) ?_
  refine lv_bipush (v := 16) hx hb dX11_lay_1 (by decide) ?_
  refine nm_calli (nm_runS (X := X) (nl := nl) (k_X11_outside hL hN (hf := (rfl : f_X11_outside x1 (16 : Int32) = _))) hx hb hml hown hts hs0 hK hZ hH tw_321 tw_319 tw_320 tw_1 hd_X11_outside rfl rfl ⟨Nat.le_trans (Nat.le_of_ble_eq_true rfl) hRf, Nat.le_trans (Nat.le_of_ble_eq_true rfl) hRl⟩ rfl hl.1 rfl (Nat.le_of_ble_eq_true rfl) dX11_lay_3 ⟨Nat.zero_le _, Nat.zero_le _⟩) hH (fun H locs hH => ?_)
  have hH : nm_H D Y (fun q => s0 ≤ q) s.heap X nl ad (M.1, M.2, N, K) H locs := hH
  refine lv_if_ne (tgt := 18) hx hb dX11_lay_6 (by decide) (fun c1 => ?_) (fun c1 => ?_)
  · have hf := nm_ie c1 hf
    refine lv_aload_n hx hb dX11_lay_18 rfl (lv_at hl 0 rfl) ?_
    refine lv_bipush (v := -3) hx hb dX11_lay_19 (by decide) ?_
    obtain ⟨r4, M2, hc3, hf⟩ := nm_sd2 hf
    refine nm_calli (nm_runV (X := X) (nl := nl) (k_X11_refuse hL hN (hf := hc3)) hx hb hml hown hts hs0 hK hZ hH tw_325 tw_322 tw_324 (sw_X11_refuse) tw_1 hd_X11_refuse (cl_n0 hL) (cl_k0 hL) (by decide) rfl rfl rfl ⟨Nat.le_trans (Nat.le_of_ble_eq_true rfl) hRf, Nat.le_trans (Nat.le_of_ble_eq_true rfl) hRl⟩ rfl hl.1 rfl (Nat.le_of_ble_eq_true rfl) dX11_lay_21 ⟨Nat.zero_le _, Nat.zero_le _⟩) hH (fun H locs hH => ?_)
    have hH : nm_H D Y (fun q => s0 ≤ q) s.heap X nl ad (M2.1, M2.2, N, K) H locs := hH
    exact nm_iret hx hb hr hlocks hQ hH (congrArg Prod.fst (Option.some.inj hf)) (congrArg (fun q => (q.2.1, q.2.2, N, K)) (Option.some.inj hf)) dX11_lay_24
  · have hf := nm_it c1 hf
    refine lv_iload_n hx hb dX11_lay_9 rfl (lv_at hl 2 rfl) ?_
    refine lv_bipush (v := 64) hx hb dX11_lay_10 (by decide) ?_
    refine nm_calli (nm_runS (X := X) (nl := nl) (k_X11_outside hL hN (hf := (rfl : f_X11_outside x2 (64 : Int32) = _))) hx hb hml hown hts hs0 hK hZ hH tw_321 tw_319 tw_320 tw_1 hd_X11_outside rfl rfl ⟨Nat.le_trans (Nat.le_of_ble_eq_true rfl) hRf, Nat.le_trans (Nat.le_of_ble_eq_true rfl) hRl⟩ rfl hl.1 rfl (Nat.le_of_ble_eq_true rfl) dX11_lay_12 ⟨Nat.zero_le _, Nat.zero_le _⟩) hH (fun H locs hH => ?_)
    have hH : nm_H D Y (fun q => s0 ≤ q) s.heap X nl ad (M.1, M.2, N, K) H locs := hH
    refine lv_if_eq (tgt := 25) hx hb dX11_lay_15 (by decide) (fun c5 => ?_) (fun c5 => ?_)
    · have hf := nm_it c5 hf
      refine lv_aload_n hx hb dX11_lay_25 rfl (lv_at hl 0 rfl) ?_
      refine gf_11_1 hK hx hb hts hown hH (cl_n0 hL) (cl_k0 hL) (hts _ tw_288) (fun _ h9 => h9) dX11_lay_26 ?_
      refine gf_3_0 hK hx hb hts hown hH (cl_n100 hL) (cl_k100 hL) (hts _ tw_84) (fun _ h9 => h9) dX11_lay_29 ?_
      refine lv_if_ne (tgt := 42) hx hb dX11_lay_32 (by decide) (fun c6 => ?_) (fun c6 => ?_)
      · have hf := nm_ie c6 hf
        refine lv_aload_n hx hb dX11_lay_42 rfl (lv_at hl 0 rfl) ?_
        refine lv_aload_n hx hb dX11_lay_43 rfl (lv_at hl 0 rfl) ?_
        refine gf_11_1 hK hx hb hts hown hH (cl_n0 hL) (cl_k0 hL) (hts _ tw_288) (fun _ h9 => h9) dX11_lay_44 ?_
        refine gf_3_1 hK hx hb hts hown hH (cl_n100 hL) (cl_k100 hL) (hts _ tw_88) (fun _ h9 => h9) dX11_lay_47 ?_
        refine lv_bipush (v := 64) hx hb dX11_lay_50 (by decide) ?_
        refine lv_iload_n hx hb dX11_lay_52 rfl (lv_at hl 1 rfl) ?_
        refine lv_imul hx hb dX11_lay_53 ?_
        refine lv_iload_n hx hb dX11_lay_54 rfl (lv_at hl 2 rfl) ?_
        refine lv_iadd hx hb dX11_lay_55 ?_
        obtain ⟨hi7, hf⟩ := nm_chk hf
        refine nm_lald hx hb hK hH (cl_n101 hL) (cl_k101 hL) (cl_l101 hN) hi7 dX11_lay_56 ?_
        obtain ⟨M8, eM8, hf⟩ := nm_let hf
        refine pf_11_7 hK hx hb hts hown hH (cl_n0 hL) (cl_k0 hL) (hts _ tw_294) (fun _ h9 => h9) dX11_lay_57 (fun H locs hH => ?_)
        have hH : nm_H D Y (fun q => s0 ≤ q) s.heap X nl ad (M8.1, M8.2, N, K) H locs := by rw [eM8]; exact hH
        refine lv_aload_n hx hb dX11_lay_60 rfl (lv_at hl 0 rfl) ?_
        refine lv_iconst (v := 1) hx hb dX11_lay_61 (by decide) ?_
        obtain ⟨M9, eM9, hf⟩ := nm_let hf
        refine pf_11_8 hK hx hb hts hown hH (cl_n0 hL) (cl_k0 hL) (hts _ tw_295) (fun _ h9 => h9) rfl rfl dX11_lay_62 (fun H locs hH => ?_)
        have hH : nm_H D Y (fun q => s0 ≤ q) s.heap X nl ad (M9.1, M9.2, N, K) H locs := by rw [eM9]; exact hH
        refine lv_aload_n hx hb dX11_lay_65 rfl (lv_at hl 0 rfl) ?_
        refine gf_11_7 hK hx hb hts hown hH (cl_n0 hL) (cl_k0 hL) (hts _ tw_294) (fun _ h9 => h9) dX11_lay_66 ?_
        refine nm_calli (nm_runS (X := X) (nl := nl) (k_J13_bitCount_95d88 hL hN (hf := (rfl : f_J13_bitCount_95d88 (M9.2 0 7) = _))) hx hb hml hown hts hs0 hK hZ hH tw_611 tw_929 tw_610 tw_17 hd_J13_bitCount_95d88 rfl rfl ⟨Nat.le_trans (Nat.le_of_ble_eq_true rfl) hRf, Nat.le_trans (Nat.le_of_ble_eq_true rfl) hRl⟩ rfl hl.1 rfl (Nat.le_of_ble_eq_true rfl) dX11_lay_69 ⟨Nat.zero_le _, Nat.zero_le _⟩) hH (fun H locs hH => ?_)
        have hH : nm_H D Y (fun q => s0 ≤ q) s.heap X nl ad (M9.1, M9.2, N, K) H locs := hH
        exact nm_iret hx hb hr hlocks hQ hH (congrArg Prod.fst (Option.some.inj hf)) (congrArg (fun q => (q.2.1, q.2.2, N, K)) (Option.some.inj hf)) dX11_lay_72
      · have hf := nm_it c6 hf
        refine lv_aload_n hx hb dX11_lay_35 rfl (lv_at hl 0 rfl) ?_
        refine lv_bipush (v := -2) hx hb dX11_lay_36 (by decide) ?_
        obtain ⟨r12, M10, hc11, hf⟩ := nm_sd2 hf
        refine nm_calli (nm_runV (X := X) (nl := nl) (k_X11_refuse hL hN (hf := hc11)) hx hb hml hown hts hs0 hK hZ hH tw_325 tw_322 tw_324 (sw_X11_refuse) tw_1 hd_X11_refuse (cl_n0 hL) (cl_k0 hL) (by decide) rfl rfl rfl ⟨Nat.le_trans (Nat.le_of_ble_eq_true rfl) hRf, Nat.le_trans (Nat.le_of_ble_eq_true rfl) hRl⟩ rfl hl.1 rfl (Nat.le_of_ble_eq_true rfl) dX11_lay_38 ⟨Nat.zero_le _, Nat.zero_le _⟩) hH (fun H locs hH => ?_)
        have hH : nm_H D Y (fun q => s0 ≤ q) s.heap X nl ad (M10.1, M10.2, N, K) H locs := hH
        exact nm_iret hx hb hr hlocks hQ hH (congrArg Prod.fst (Option.some.inj hf)) (congrArg (fun q => (q.2.1, q.2.2, N, K)) (Option.some.inj hf)) dX11_lay_41
    · have hf := nm_ie c5 hf
      refine lv_aload_n hx hb dX11_lay_18 rfl (lv_at hl 0 rfl) ?_
      refine lv_bipush (v := -3) hx hb dX11_lay_19 (by decide) ?_
      obtain ⟨r15, M13, hc14, hf⟩ := nm_sd2 hf
      refine nm_calli (nm_runV (X := X) (nl := nl) (k_X11_refuse hL hN (hf := hc14)) hx hb hml hown hts hs0 hK hZ hH tw_325 tw_322 tw_324 (sw_X11_refuse) tw_1 hd_X11_refuse (cl_n0 hL) (cl_k0 hL) (by decide) rfl rfl rfl ⟨Nat.le_trans (Nat.le_of_ble_eq_true rfl) hRf, Nat.le_trans (Nat.le_of_ble_eq_true rfl) hRl⟩ rfl hl.1 rfl (Nat.le_of_ble_eq_true rfl) dX11_lay_21 ⟨Nat.zero_le _, Nat.zero_le _⟩) hH (fun H locs hH => ?_)
      have hH : nm_H D Y (fun q => s0 ≤ q) s.heap X nl ad (M13.1, M13.2, N, K) H locs := hH
      exact nm_iret hx hb hr hlocks hQ hH (congrArg Prod.fst (Option.some.inj hf)) (congrArg (fun q => (q.2.1, q.2.2, N, K)) (Option.some.inj hf)) dX11_lay_24
def f_X11_tear (M : cm) : Option (Int32 × cm) :=
(if (M.1 0 8) = 0 then
nm_l ((nm_up M.1 0 8 (0 : Int32), M.2)) fun M2 =>
some ((0 : Int32), M2)
else
nm_l ((nm_up M.1 0 8 (0 : Int32), M.2)) fun M3 =>
some ((1 : Int32), M3))
set_option maxHeartbeats 4000000 in
set_option maxRecDepth 100000 in
theorem k_X11_tear {l : Launch} {D : va_G} {Y : nm_Y} {s0 : Nat} {X : va_W} {ad : Nat → Nat} {nl : List Nat} {N K : Nat → Nat} (hL : cl_L nl K) (hN : cl_N N) {M : cm} {r0 : Int32} {M0 : cm} (hf : f_X11_tear M = some (r0, M0)) :
    nm_Met l yX11_tear cX11_tear 2 (some .int) { frames := 0, cells := 0, slots := 0, locals := 0 } [.ref (ad 0)] D Y s0 (nm_W Y X nl ad (M.1, M.2, N, K)) (nm_Qi D s0 r0 (nm_W Y X nl ad (M0.1, M0.2, N, K))) 0 0 := by
  refine nm_of (by decide) (Nat.le_of_ble_eq_true rfl) ?_
  intro p e R s m args below meth c Q ls hx hb hr hlocks hml hown hts hs0 hK hZ hRf hRl hRc hRs hQ hP hD hl
  have hH : nm_H D Y (fun q => s0 ≤ q) s.heap X nl ad (M.1, M.2, N, K) s.heap [] := ⟨hP, hD, va_S.rf⟩
  have hl : lv_has ls 2 [(0, .ref (ad 0))] := hl
  unfold f_X11_tear at hf
  refine lv_aload_n hx hb dX11_tear_0 rfl (lv_at hl 0 rfl) ?_
  refine gf_11_8 hK hx hb hts hown hH (cl_n0 hL) (cl_k0 hL) (hts _ tw_295) (fun _ h9 => h9) dX11_tear_1 ?_
  refine lv_if_eq (tgt := 11) hx hb dX11_tear_4 (by decide) (fun c1 => ?_) (fun c1 => ?_)
  · have hf := nm_it c1 hf
    refine lv_iconst (v := 0) hx hb dX11_tear_11 (by decide) ?_
    refine lv_istore_n (lv' := [(1, .int (0 : Int32)), (0, .ref (ad 0))]) hx hb dX11_tear_12 rfl hl (by decide) rfl (fun ls hl => ?_)
    refine lv_aload_n hx hb dX11_tear_13 rfl (lv_at hl 1 rfl) ?_
    refine lv_iconst (v := 0) hx hb dX11_tear_14 (by decide) ?_
    obtain ⟨M2, eM2, hf⟩ := nm_let hf
    refine pf_11_8 hK hx hb hts hown hH (cl_n0 hL) (cl_k0 hL) (hts _ tw_295) (fun _ h9 => h9) rfl rfl dX11_tear_15 (fun H locs hH => ?_)
    have hH : nm_H D Y (fun q => s0 ≤ q) s.heap X nl ad (M2.1, M2.2, N, K) H locs := by rw [eM2]; exact hH
    refine lv_iload_n hx hb dX11_tear_18 rfl (lv_at hl 0 rfl) ?_
    exact nm_iret hx hb hr hlocks hQ hH (congrArg Prod.fst (Option.some.inj hf)) (congrArg (fun q => (q.2.1, q.2.2, N, K)) (Option.some.inj hf)) dX11_tear_19
  · have hf := nm_ie c1 hf
    refine lv_iconst (v := 1) hx hb dX11_tear_7 (by decide) ?_
    refine lv_goto (tgt := 12) hx hb dX11_tear_8 (by decide) ?_
    refine lv_istore_n (lv' := [(1, .int (1 : Int32)), (0, .ref (ad 0))]) hx hb dX11_tear_12 rfl hl (by decide) rfl (fun ls hl => ?_)
    refine lv_aload_n hx hb dX11_tear_13 rfl (lv_at hl 1 rfl) ?_
    refine lv_iconst (v := 0) hx hb dX11_tear_14 (by decide) ?_
    obtain ⟨M3, eM3, hf⟩ := nm_let hf
    refine pf_11_8 hK hx hb hts hown hH (cl_n0 hL) (cl_k0 hL) (hts _ tw_295) (fun _ h9 => h9) rfl rfl dX11_tear_15 (fun H locs hH => ?_)
    have hH : nm_H D Y (fun q => s0 ≤ q) s.heap X nl ad (M3.1, M3.2, N, K) H locs := by rw [eM3]; exact hH
    refine lv_iload_n hx hb dX11_tear_18 rfl (lv_at hl 0 rfl) ?_
    exact nm_iret hx hb hr hlocks hQ hH (congrArg Prod.fst (Option.some.inj hf)) (congrArg (fun q => (q.2.1, q.2.2, N, K)) (Option.some.inj hf)) dX11_tear_19
def f_X11_row (x1 : Int32) (M : cm) : Option (Int32 × cm) :=
(if (M.1 0 8) = 0 then
nm_s2 (f_X11_refuse (-2 : Int32) M) fun r8 M6 =>
some (r8, M6)
else
(if (f_X11_outside x1 (64 : Int32)) = 0 then
some (((nm_shr (M.2 0 7) x1) &&& (1 : Int64)).toInt32, M)
else
nm_s2 (f_X11_refuse (-3 : Int32) M) fun r5 M3 =>
some (r5, M3)))
set_option maxHeartbeats 4000000 in
set_option maxRecDepth 100000 in
theorem k_X11_row {l : Launch} {D : va_G} {Y : nm_Y} {s0 : Nat} {X : va_W} {ad : Nat → Nat} {nl : List Nat} {N K : Nat → Nat} (hL : cl_L nl K) (hN : cl_N N) {x1 : Int32} {M : cm} {r0 : Int32} {M0 : cm} (hf : f_X11_row x1 M = some (r0, M0)) :
    nm_Met l yX11_row cX11_row 2 (some .int) { frames := 1, cells := 0, slots := 0, locals := 21 } [.ref (ad 0), .int x1] D Y s0 (nm_W Y X nl ad (M.1, M.2, N, K)) (nm_Qi D s0 r0 (nm_W Y X nl ad (M0.1, M0.2, N, K))) 0 0 := by
  refine nm_of (by decide) (Nat.le_of_ble_eq_true rfl) ?_
  intro p e R s m args below meth c Q ls hx hb hr hlocks hml hown hts hs0 hK hZ hRf hRl hRc hRs hQ hP hD hl
  have hH : nm_H D Y (fun q => s0 ≤ q) s.heap X nl ad (M.1, M.2, N, K) s.heap [] := ⟨hP, hD, va_S.rf⟩
  have hl : lv_has ls 2 [(0, .ref (ad 0)), (1, .int x1)] := hl
  unfold f_X11_row at hf
  refine lv_aload_n hx hb dX11_row_0 rfl (lv_at hl 0 rfl) ?_
  refine gf_11_8 hK hx hb hts hown hH (cl_n0 hL) (cl_k0 hL) (hts _ tw_295) (fun _ h9 => h9) dX11_row_1 ?_
  refine lv_if_ne (tgt := 14) hx hb dX11_row_4 (by decide) (fun c1 => ?_) (fun c1 => ?_)
  · have hf := nm_ie c1 hf
    refine lv_iload_n hx hb dX11_row_14 rfl (lv_at hl 1 rfl) ?_
    refine lv_bipush (v := 64) hx hb dX11_row_15 (by decide) ?_
    refine nm_calli (nm_runS (X := X) (nl := nl) (k_X11_outside hL hN (hf := (rfl : f_X11_outside x1 (64 : Int32) = _))) hx hb hml hown hts hs0 hK hZ hH tw_321 tw_319 tw_320 tw_1 hd_X11_outside rfl rfl ⟨Nat.le_trans (Nat.le_of_ble_eq_true rfl) hRf, Nat.le_trans (Nat.le_of_ble_eq_true rfl) hRl⟩ rfl hl.1 rfl (Nat.le_of_ble_eq_true rfl) dX11_row_17 ⟨Nat.zero_le _, Nat.zero_le _⟩) hH (fun H locs hH => ?_)
    have hH : nm_H D Y (fun q => s0 ≤ q) s.heap X nl ad (M.1, M.2, N, K) H locs := hH
    refine lv_if_eq (tgt := 32) hx hb dX11_row_20 (by decide) (fun c2 => ?_) (fun c2 => ?_)
    · have hf := nm_it c2 hf
      refine lv_aload_n hx hb dX11_row_32 rfl (lv_at hl 0 rfl) ?_
      refine gf_11_7 hK hx hb hts hown hH (cl_n0 hL) (cl_k0 hL) (hts _ tw_294) (fun _ h9 => h9) dX11_row_33 ?_
      refine lv_iload_n hx hb dX11_row_36 rfl (lv_at hl 1 rfl) ?_
      refine lv_lushr (v := nm_shr (M.2 0 7) x1) hx hb dX11_row_37 rfl ?_
      refine lv_lconst (v := 1) hx hb dX11_row_38 (by decide) ?_
      refine lv_land hx hb dX11_row_39 ?_
      refine lv_l2i hx hb dX11_row_40 rfl ?_
      exact nm_iret hx hb hr hlocks hQ hH (congrArg Prod.fst (Option.some.inj hf)) (congrArg (fun q => (q.2.1, q.2.2, N, K)) (Option.some.inj hf)) dX11_row_41
    · have hf := nm_ie c2 hf
      refine lv_aload_n hx hb dX11_row_23 rfl (lv_at hl 0 rfl) ?_
      refine lv_bipush (v := -3) hx hb dX11_row_24 (by decide) ?_
      obtain ⟨r5, M3, hc4, hf⟩ := nm_sd2 hf
      refine nm_calli (nm_runV (X := X) (nl := nl) (k_X11_refuse hL hN (hf := hc4)) hx hb hml hown hts hs0 hK hZ hH tw_325 tw_322 tw_324 (sw_X11_refuse) tw_1 hd_X11_refuse (cl_n0 hL) (cl_k0 hL) (by decide) rfl rfl rfl ⟨Nat.le_trans (Nat.le_of_ble_eq_true rfl) hRf, Nat.le_trans (Nat.le_of_ble_eq_true rfl) hRl⟩ rfl hl.1 rfl (Nat.le_of_ble_eq_true rfl) dX11_row_26 ⟨Nat.zero_le _, Nat.zero_le _⟩) hH (fun H locs hH => ?_)
      have hH : nm_H D Y (fun q => s0 ≤ q) s.heap X nl ad (M3.1, M3.2, N, K) H locs := hH
      refine lv_goto (tgt := 41) hx hb dX11_row_29 (by decide) ?_
      exact nm_iret hx hb hr hlocks hQ hH (congrArg Prod.fst (Option.some.inj hf)) (congrArg (fun q => (q.2.1, q.2.2, N, K)) (Option.some.inj hf)) dX11_row_41
  · have hf := nm_it c1 hf
    refine lv_aload_n hx hb dX11_row_7 rfl (lv_at hl 0 rfl) ?_
    refine lv_bipush (v := -2) hx hb dX11_row_8 (by decide) ?_
    obtain ⟨r8, M6, hc7, hf⟩ := nm_sd2 hf
    refine nm_calli (nm_runV (X := X) (nl := nl) (k_X11_refuse hL hN (hf := hc7)) hx hb hml hown hts hs0 hK hZ hH tw_325 tw_322 tw_324 (sw_X11_refuse) tw_1 hd_X11_refuse (cl_n0 hL) (cl_k0 hL) (by decide) rfl rfl rfl ⟨Nat.le_trans (Nat.le_of_ble_eq_true rfl) hRf, Nat.le_trans (Nat.le_of_ble_eq_true rfl) hRl⟩ rfl hl.1 rfl (Nat.le_of_ble_eq_true rfl) dX11_row_10 ⟨Nat.zero_le _, Nat.zero_le _⟩) hH (fun H locs hH => ?_)
    have hH : nm_H D Y (fun q => s0 ≤ q) s.heap X nl ad (M6.1, M6.2, N, K) H locs := hH
    exact nm_iret hx hb hr hlocks hQ hH (congrArg Prod.fst (Option.some.inj hf)) (congrArg (fun q => (q.2.1, q.2.2, N, K)) (Option.some.inj hf)) dX11_row_13
def f_X11_copy (x1 : Int32) (x2 : Int32) (x3 : Int32) (M : cm) : Option (Int32 × cm) :=
(if (M.1 0 8) = 0 then
nm_s2 (f_X11_refuse (-2 : Int32) M) fun r30 M28 =>
some (r30, M28)
else
(if 0 ≤ x3 then
(if x1 < 0 then
nm_s2 (f_X11_refuse (-6 : Int32) M) fun r6 M4 =>
some (r6, M4)
else
(if x2 < 0 then
nm_s2 (f_X11_refuse (-6 : Int32) M) fun r10 M8 =>
some (r10, M8)
else
(if (64 : Int32) < x3 then
nm_s2 (f_X11_refuse (-6 : Int32) M) fun r14 M12 =>
some (r14, M12)
else
(if ((64 : Int32) - x3) < x1 then
nm_s2 (f_X11_refuse (-6 : Int32) M) fun r18 M16 =>
some (r18, M16)
else
(if x2 ≤ ((64 : Int32) - x3) then
nm_l ((nm_shr (M.2 0 7) x1) &&& (f_X0_span (0 : Int32) x3)) fun v20 =>
nm_l ((M.1, nm_upJ M.2 0 7 (((M.2 0 7) &&& ((f_X0_span x2 x3) ^^^ (-1 : Int64))) ||| (nm_shl v20 x2)))) fun M21 =>
some (x3, M21)
else
nm_s2 (f_X11_refuse (-6 : Int32) M) fun r24 M22 =>
some (r24, M22))))))
else
nm_s2 (f_X11_refuse (-4 : Int32) M) fun r27 M25 =>
some (r27, M25)))
set_option maxHeartbeats 4000000 in
set_option maxRecDepth 100000 in
theorem k_X11_copy {l : Launch} {D : va_G} {Y : nm_Y} {s0 : Nat} {X : va_W} {ad : Nat → Nat} {nl : List Nat} {N K : Nat → Nat} (hL : cl_L nl K) (hN : cl_N N) {x1 : Int32} {x2 : Int32} {x3 : Int32} {M : cm} {r0 : Int32} {M0 : cm} (hf : f_X11_copy x1 x2 x3 M = some (r0, M0)) :
    nm_Met l yX11_copy cX11_copy 6 (some .int) { frames := 1, cells := 0, slots := 0, locals := 21 } [.ref (ad 0), .int x1, .int x2, .int x3] D Y s0 (nm_W Y X nl ad (M.1, M.2, N, K)) (nm_Qi D s0 r0 (nm_W Y X nl ad (M0.1, M0.2, N, K))) 0 0 := by
  refine nm_of (by decide) (Nat.le_of_ble_eq_true rfl) ?_
  intro p e R s m args below meth c Q ls hx hb hr hlocks hml hown hts hs0 hK hZ hRf hRl hRc hRs hQ hP hD hl
  have hH : nm_H D Y (fun q => s0 ≤ q) s.heap X nl ad (M.1, M.2, N, K) s.heap [] := ⟨hP, hD, va_S.rf⟩
  have hl : lv_has ls 6 [(0, .ref (ad 0)), (1, .int x1), (2, .int x2), (3, .int x3)] := hl
  unfold f_X11_copy at hf
  refine lv_aload_n hx hb dX11_copy_0 rfl (lv_at hl 0 rfl) ?_
  refine gf_11_8 hK hx hb hts hown hH (cl_n0 hL) (cl_k0 hL) (hts _ tw_295) (fun _ h9 => h9) dX11_copy_1 ?_
  refine lv_if_ne (tgt := 14) hx hb dX11_copy_4 (by decide) (fun c1 => ?_) (fun c1 => ?_)
  · have hf := nm_ie c1 hf
    refine lv_iload_n hx hb dX11_copy_14 rfl (lv_at hl 3 rfl) ?_
    refine lv_if_ge (tgt := 25) hx hb dX11_copy_15 (by decide) (fun c2 => ?_) (fun c2 => ?_)
    · have hf := nm_it c2 hf
      refine lv_iload_n hx hb dX11_copy_25 rfl (lv_at hl 1 rfl) ?_
      refine lv_if_lt (tgt := 55) hx hb dX11_copy_26 (by decide) (fun c3 => ?_) (fun c3 => ?_)
      · have hf := nm_it c3 hf
        refine lv_aload_n hx hb dX11_copy_55 rfl (lv_at hl 0 rfl) ?_
        refine lv_bipush (v := -6) hx hb dX11_copy_56 (by decide) ?_
        obtain ⟨r6, M4, hc5, hf⟩ := nm_sd2 hf
        refine nm_calli (nm_runV (X := X) (nl := nl) (k_X11_refuse hL hN (hf := hc5)) hx hb hml hown hts hs0 hK hZ hH tw_325 tw_322 tw_324 (sw_X11_refuse) tw_1 hd_X11_refuse (cl_n0 hL) (cl_k0 hL) (by decide) rfl rfl rfl ⟨Nat.le_trans (Nat.le_of_ble_eq_true rfl) hRf, Nat.le_trans (Nat.le_of_ble_eq_true rfl) hRl⟩ rfl hl.1 rfl (Nat.le_of_ble_eq_true rfl) dX11_copy_58 ⟨Nat.zero_le _, Nat.zero_le _⟩) hH (fun H locs hH => ?_)
        have hH : nm_H D Y (fun q => s0 ≤ q) s.heap X nl ad (M4.1, M4.2, N, K) H locs := hH
        exact nm_iret hx hb hr hlocks hQ hH (congrArg Prod.fst (Option.some.inj hf)) (congrArg (fun q => (q.2.1, q.2.2, N, K)) (Option.some.inj hf)) dX11_copy_61
      · have hf := nm_ie c3 hf
        refine lv_iload_n hx hb dX11_copy_29 rfl (lv_at hl 2 rfl) ?_
        refine lv_if_lt (tgt := 55) hx hb dX11_copy_30 (by decide) (fun c7 => ?_) (fun c7 => ?_)
        · have hf := nm_it c7 hf
          refine lv_aload_n hx hb dX11_copy_55 rfl (lv_at hl 0 rfl) ?_
          refine lv_bipush (v := -6) hx hb dX11_copy_56 (by decide) ?_
          obtain ⟨r10, M8, hc9, hf⟩ := nm_sd2 hf
          refine nm_calli (nm_runV (X := X) (nl := nl) (k_X11_refuse hL hN (hf := hc9)) hx hb hml hown hts hs0 hK hZ hH tw_325 tw_322 tw_324 (sw_X11_refuse) tw_1 hd_X11_refuse (cl_n0 hL) (cl_k0 hL) (by decide) rfl rfl rfl ⟨Nat.le_trans (Nat.le_of_ble_eq_true rfl) hRf, Nat.le_trans (Nat.le_of_ble_eq_true rfl) hRl⟩ rfl hl.1 rfl (Nat.le_of_ble_eq_true rfl) dX11_copy_58 ⟨Nat.zero_le _, Nat.zero_le _⟩) hH (fun H locs hH => ?_)
          have hH : nm_H D Y (fun q => s0 ≤ q) s.heap X nl ad (M8.1, M8.2, N, K) H locs := hH
          exact nm_iret hx hb hr hlocks hQ hH (congrArg Prod.fst (Option.some.inj hf)) (congrArg (fun q => (q.2.1, q.2.2, N, K)) (Option.some.inj hf)) dX11_copy_61
        · have hf := nm_ie c7 hf
          refine lv_iload_n hx hb dX11_copy_33 rfl (lv_at hl 3 rfl) ?_
          refine lv_bipush (v := 64) hx hb dX11_copy_34 (by decide) ?_
          refine lv_icmp_gt (tgt := 55) hx hb dX11_copy_36 (by decide) (fun c11 => ?_) (fun c11 => ?_)
          · have hf := nm_it c11 hf
            refine lv_aload_n hx hb dX11_copy_55 rfl (lv_at hl 0 rfl) ?_
            refine lv_bipush (v := -6) hx hb dX11_copy_56 (by decide) ?_
            obtain ⟨r14, M12, hc13, hf⟩ := nm_sd2 hf
            refine nm_calli (nm_runV (X := X) (nl := nl) (k_X11_refuse hL hN (hf := hc13)) hx hb hml hown hts hs0 hK hZ hH tw_325 tw_322 tw_324 (sw_X11_refuse) tw_1 hd_X11_refuse (cl_n0 hL) (cl_k0 hL) (by decide) rfl rfl rfl ⟨Nat.le_trans (Nat.le_of_ble_eq_true rfl) hRf, Nat.le_trans (Nat.le_of_ble_eq_true rfl) hRl⟩ rfl hl.1 rfl (Nat.le_of_ble_eq_true rfl) dX11_copy_58 ⟨Nat.zero_le _, Nat.zero_le _⟩) hH (fun H locs hH => ?_)
            have hH : nm_H D Y (fun q => s0 ≤ q) s.heap X nl ad (M12.1, M12.2, N, K) H locs := hH
            exact nm_iret hx hb hr hlocks hQ hH (congrArg Prod.fst (Option.some.inj hf)) (congrArg (fun q => (q.2.1, q.2.2, N, K)) (Option.some.inj hf)) dX11_copy_61
          · have hf := nm_ie c11 hf
            refine lv_iload_n hx hb dX11_copy_39 rfl (lv_at hl 1 rfl) ?_
            refine lv_bipush (v := 64) hx hb dX11_copy_40 (by decide) ?_
            refine lv_iload_n hx hb dX11_copy_42 rfl (lv_at hl 3 rfl) ?_
            refine lv_isub hx hb dX11_copy_43 ?_
            refine lv_icmp_gt (tgt := 55) hx hb dX11_copy_44 (by decide) (fun c15 => ?_) (fun c15 => ?_)
            · have hf := nm_it c15 hf
              refine lv_aload_n hx hb dX11_copy_55 rfl (lv_at hl 0 rfl) ?_
              refine lv_bipush (v := -6) hx hb dX11_copy_56 (by decide) ?_
              obtain ⟨r18, M16, hc17, hf⟩ := nm_sd2 hf
              refine nm_calli (nm_runV (X := X) (nl := nl) (k_X11_refuse hL hN (hf := hc17)) hx hb hml hown hts hs0 hK hZ hH tw_325 tw_322 tw_324 (sw_X11_refuse) tw_1 hd_X11_refuse (cl_n0 hL) (cl_k0 hL) (by decide) rfl rfl rfl ⟨Nat.le_trans (Nat.le_of_ble_eq_true rfl) hRf, Nat.le_trans (Nat.le_of_ble_eq_true rfl) hRl⟩ rfl hl.1 rfl (Nat.le_of_ble_eq_true rfl) dX11_copy_58 ⟨Nat.zero_le _, Nat.zero_le _⟩) hH (fun H locs hH => ?_)
              have hH : nm_H D Y (fun q => s0 ≤ q) s.heap X nl ad (M16.1, M16.2, N, K) H locs := hH
              exact nm_iret hx hb hr hlocks hQ hH (congrArg Prod.fst (Option.some.inj hf)) (congrArg (fun q => (q.2.1, q.2.2, N, K)) (Option.some.inj hf)) dX11_copy_61
            · have hf := nm_ie c15 hf
              refine lv_iload_n hx hb dX11_copy_47 rfl (lv_at hl 2 rfl) ?_
              refine lv_bipush (v := 64) hx hb dX11_copy_48 (by decide) ?_
              refine lv_iload_n hx hb dX11_copy_50 rfl (lv_at hl 3 rfl) ?_
              refine lv_isub hx hb dX11_copy_51 ?_
              refine lv_icmp_le (tgt := 62) hx hb dX11_copy_52 (by decide) (fun c19 => ?_) (fun c19 => ?_)
              · have hf := nm_it c19 hf
                refine lv_aload_n hx hb dX11_copy_62 rfl (lv_at hl 0 rfl) ?_
                refine gf_11_7 hK hx hb hts hown hH (cl_n0 hL) (cl_k0 hL) (hts _ tw_294) (fun _ h9 => h9) dX11_copy_63 ?_
                refine lv_iload_n hx hb dX11_copy_66 rfl (lv_at hl 1 rfl) ?_
                refine lv_lushr (v := nm_shr (M.2 0 7) x1) hx hb dX11_copy_67 rfl ?_
                refine lv_iconst (v := 0) hx hb dX11_copy_68 (by decide) ?_
                refine lv_iload_n hx hb dX11_copy_69 rfl (lv_at hl 3 rfl) ?_
                refine nm_calll (nm_runS (X := X) (nl := nl) (k_X0_span hL hN (hf := (rfl : f_X0_span (0 : Int32) x3 = _))) hx hb hml hown hts hs0 hK hZ hH tw_378 tw_942 tw_377 tw_13 hd_X0_span rfl rfl ⟨Nat.le_trans (Nat.le_of_ble_eq_true rfl) hRf, Nat.le_trans (Nat.le_of_ble_eq_true rfl) hRl⟩ rfl hl.1 rfl (Nat.le_of_ble_eq_true rfl) dX11_copy_70 ⟨Nat.zero_le _, Nat.zero_le _⟩) hH (fun H locs hH => ?_)
                have hH : nm_H D Y (fun q => s0 ≤ q) s.heap X nl ad (M.1, M.2, N, K) H locs := hH
                refine lv_land hx hb dX11_copy_73 ?_
                obtain ⟨v20, ev20, hf⟩ := nm_let hf
                refine nm_topl ev20 ?_
                refine lv_lstore (lv' := [(4, .long v20), (0, .ref (ad 0)), (1, .int x1), (2, .int x2), (3, .int x3)]) hx hb dX11_copy_74 hl (by decide) rfl (fun ls hl => ?_)
                refine lv_aload_n hx hb dX11_copy_76 rfl (lv_at hl 1 rfl) ?_
                refine lv_aload_n hx hb dX11_copy_77 rfl (lv_at hl 1 rfl) ?_
                refine gf_11_7 hK hx hb hts hown hH (cl_n0 hL) (cl_k0 hL) (hts _ tw_294) (fun _ h9 => h9) dX11_copy_78 ?_
                refine lv_iload_n hx hb dX11_copy_81 rfl (lv_at hl 3 rfl) ?_
                refine lv_iload_n hx hb dX11_copy_82 rfl (lv_at hl 4 rfl) ?_
                refine nm_calll (nm_runS (X := X) (nl := nl) (k_X0_span hL hN (hf := (rfl : f_X0_span x2 x3 = _))) hx hb hml hown hts hs0 hK hZ hH tw_378 tw_942 tw_377 tw_13 hd_X0_span rfl rfl ⟨Nat.le_trans (Nat.le_of_ble_eq_true rfl) hRf, Nat.le_trans (Nat.le_of_ble_eq_true rfl) hRl⟩ rfl hl.1 rfl (Nat.le_of_ble_eq_true rfl) dX11_copy_83 ⟨Nat.zero_le _, Nat.zero_le _⟩) hH (fun H locs hH => ?_)
                have hH : nm_H D Y (fun q => s0 ≤ q) s.heap X nl ad (M.1, M.2, N, K) H locs := hH
                refine lv_ldc2 hx hb hown (hts _ tw_943) dX11_copy_86 ?_
                refine lv_lxor hx hb dX11_copy_89 ?_
                refine lv_land hx hb dX11_copy_90 ?_
                refine lv_lload hx hb dX11_copy_91 (lv_at hl 0 rfl) ?_
                refine lv_iload_n hx hb dX11_copy_93 rfl (lv_at hl 3 rfl) ?_
                refine lv_lshl (v := nm_shl v20 x2) hx hb dX11_copy_94 rfl ?_
                refine lv_lor hx hb dX11_copy_95 ?_
                obtain ⟨M21, eM21, hf⟩ := nm_let hf
                refine pf_11_7 hK hx hb hts hown hH (cl_n0 hL) (cl_k0 hL) (hts _ tw_294) (fun _ h9 => h9) dX11_copy_96 (fun H locs hH => ?_)
                have hH : nm_H D Y (fun q => s0 ≤ q) s.heap X nl ad (M21.1, M21.2, N, K) H locs := by rw [eM21]; exact hH
                refine lv_iload_n hx hb dX11_copy_99 rfl (lv_at hl 4 rfl) ?_
                exact nm_iret hx hb hr hlocks hQ hH (congrArg Prod.fst (Option.some.inj hf)) (congrArg (fun q => (q.2.1, q.2.2, N, K)) (Option.some.inj hf)) dX11_copy_100
              · have hf := nm_ie c19 hf
                refine lv_aload_n hx hb dX11_copy_55 rfl (lv_at hl 0 rfl) ?_
                refine lv_bipush (v := -6) hx hb dX11_copy_56 (by decide) ?_
                obtain ⟨r24, M22, hc23, hf⟩ := nm_sd2 hf
                refine nm_calli (nm_runV (X := X) (nl := nl) (k_X11_refuse hL hN (hf := hc23)) hx hb hml hown hts hs0 hK hZ hH tw_325 tw_322 tw_324 (sw_X11_refuse) tw_1 hd_X11_refuse (cl_n0 hL) (cl_k0 hL) (by decide) rfl rfl rfl ⟨Nat.le_trans (Nat.le_of_ble_eq_true rfl) hRf, Nat.le_trans (Nat.le_of_ble_eq_true rfl) hRl⟩ rfl hl.1 rfl (Nat.le_of_ble_eq_true rfl) dX11_copy_58 ⟨Nat.zero_le _, Nat.zero_le _⟩) hH (fun H locs hH => ?_)
                have hH : nm_H D Y (fun q => s0 ≤ q) s.heap X nl ad (M22.1, M22.2, N, K) H locs := hH
                exact nm_iret hx hb hr hlocks hQ hH (congrArg Prod.fst (Option.some.inj hf)) (congrArg (fun q => (q.2.1, q.2.2, N, K)) (Option.some.inj hf)) dX11_copy_61
    · have hf := nm_ie c2 hf
      refine lv_aload_n hx hb dX11_copy_18 rfl (lv_at hl 0 rfl) ?_
      refine lv_bipush (v := -4) hx hb dX11_copy_19 (by decide) ?_
      obtain ⟨r27, M25, hc26, hf⟩ := nm_sd2 hf
      refine nm_calli (nm_runV (X := X) (nl := nl) (k_X11_refuse hL hN (hf := hc26)) hx hb hml hown hts hs0 hK hZ hH tw_325 tw_322 tw_324 (sw_X11_refuse) tw_1 hd_X11_refuse (cl_n0 hL) (cl_k0 hL) (by decide) rfl rfl rfl ⟨Nat.le_trans (Nat.le_of_ble_eq_true rfl) hRf, Nat.le_trans (Nat.le_of_ble_eq_true rfl) hRl⟩ rfl hl.1 rfl (Nat.le_of_ble_eq_true rfl) dX11_copy_21 ⟨Nat.zero_le _, Nat.zero_le _⟩) hH (fun H locs hH => ?_)
      have hH : nm_H D Y (fun q => s0 ≤ q) s.heap X nl ad (M25.1, M25.2, N, K) H locs := hH
      exact nm_iret hx hb hr hlocks hQ hH (congrArg Prod.fst (Option.some.inj hf)) (congrArg (fun q => (q.2.1, q.2.2, N, K)) (Option.some.inj hf)) dX11_copy_24
  · have hf := nm_it c1 hf
    refine lv_aload_n hx hb dX11_copy_7 rfl (lv_at hl 0 rfl) ?_
    refine lv_bipush (v := -2) hx hb dX11_copy_8 (by decide) ?_
    obtain ⟨r30, M28, hc29, hf⟩ := nm_sd2 hf
    refine nm_calli (nm_runV (X := X) (nl := nl) (k_X11_refuse hL hN (hf := hc29)) hx hb hml hown hts hs0 hK hZ hH tw_325 tw_322 tw_324 (sw_X11_refuse) tw_1 hd_X11_refuse (cl_n0 hL) (cl_k0 hL) (by decide) rfl rfl rfl ⟨Nat.le_trans (Nat.le_of_ble_eq_true rfl) hRf, Nat.le_trans (Nat.le_of_ble_eq_true rfl) hRl⟩ rfl hl.1 rfl (Nat.le_of_ble_eq_true rfl) dX11_copy_10 ⟨Nat.zero_le _, Nat.zero_le _⟩) hH (fun H locs hH => ?_)
    have hH : nm_H D Y (fun q => s0 ≤ q) s.heap X nl ad (M28.1, M28.2, N, K) H locs := hH
    exact nm_iret hx hb hr hlocks hQ hH (congrArg Prod.fst (Option.some.inj hf)) (congrArg (fun q => (q.2.1, q.2.2, N, K)) (Option.some.inj hf)) dX11_copy_13
def f_X11_status (x1 : Int32) (M : cm) : Option (Int32 × cm) :=
(if (-2 : Int32) < x1 then
nm_s2 (f_X11_refuse (-7 : Int32) M) fun r4 M2 =>
some (r4, M2)
else
(if (-9 : Int32) ≤ x1 then
nm_c ((-2 : Int32) - x1) 8 (
some (M.1 2 ((-2 : Int32) - x1).toNatClampNeg, M))
else
nm_s2 (f_X11_refuse (-7 : Int32) M) fun r9 M7 =>
some (r9, M7)))
set_option maxHeartbeats 4000000 in
set_option maxRecDepth 100000 in
theorem k_X11_status {l : Launch} {D : va_G} {Y : nm_Y} {s0 : Nat} {X : va_W} {ad : Nat → Nat} {nl : List Nat} {N K : Nat → Nat} (hL : cl_L nl K) (hN : cl_N N) {x1 : Int32} {M : cm} {r0 : Int32} {M0 : cm} (hf : f_X11_status x1 M = some (r0, M0)) :
    nm_Met l yX11_status cX11_status 2 (some .int) { frames := 1, cells := 0, slots := 0, locals := 21 } [.ref (ad 0), .int x1] D Y s0 (nm_W Y X nl ad (M.1, M.2, N, K)) (nm_Qi D s0 r0 (nm_W Y X nl ad (M0.1, M0.2, N, K))) 0 0 := by
  refine nm_of (by decide) (Nat.le_of_ble_eq_true rfl) ?_
  intro p e R s m args below meth c Q ls hx hb hr hlocks hml hown hts hs0 hK hZ hRf hRl hRc hRs hQ hP hD hl
  have hH : nm_H D Y (fun q => s0 ≤ q) s.heap X nl ad (M.1, M.2, N, K) s.heap [] := ⟨hP, hD, va_S.rf⟩
  have hl : lv_has ls 2 [(0, .ref (ad 0)), (1, .int x1)] := hl
  unfold f_X11_status at hf
  refine lv_iload_n hx hb dX11_status_0 rfl (lv_at hl 1 rfl) ?_
  refine lv_bipush (v := -2) hx hb dX11_status_1 (by decide) ?_
  refine lv_icmp_gt (tgt := 12) hx hb dX11_status_3 (by decide) (fun c1 => ?_) (fun c1 => ?_)
  · have hf := nm_it c1 hf
    refine lv_aload_n hx hb dX11_status_12 rfl (lv_at hl 0 rfl) ?_
    refine lv_bipush (v := -7) hx hb dX11_status_13 (by decide) ?_
    obtain ⟨r4, M2, hc3, hf⟩ := nm_sd2 hf
    refine nm_calli (nm_runV (X := X) (nl := nl) (k_X11_refuse hL hN (hf := hc3)) hx hb hml hown hts hs0 hK hZ hH tw_325 tw_322 tw_324 (sw_X11_refuse) tw_1 hd_X11_refuse (cl_n0 hL) (cl_k0 hL) (by decide) rfl rfl rfl ⟨Nat.le_trans (Nat.le_of_ble_eq_true rfl) hRf, Nat.le_trans (Nat.le_of_ble_eq_true rfl) hRl⟩ rfl hl.1 rfl (Nat.le_of_ble_eq_true rfl) dX11_status_15 ⟨Nat.zero_le _, Nat.zero_le _⟩) hH (fun H locs hH => ?_)
    have hH : nm_H D Y (fun q => s0 ≤ q) s.heap X nl ad (M2.1, M2.2, N, K) H locs := hH
    exact nm_iret hx hb hr hlocks hQ hH (congrArg Prod.fst (Option.some.inj hf)) (congrArg (fun q => (q.2.1, q.2.2, N, K)) (Option.some.inj hf)) dX11_status_18
  · have hf := nm_ie c1 hf
    refine lv_iload_n hx hb dX11_status_6 rfl (lv_at hl 1 rfl) ?_
    refine lv_bipush (v := -9) hx hb dX11_status_7 (by decide) ?_
    refine lv_icmp_ge (tgt := 19) hx hb dX11_status_9 (by decide) (fun c5 => ?_) (fun c5 => ?_)
    · have hf := nm_it c5 hf
      refine lv_aload_n hx hb dX11_status_19 rfl (lv_at hl 0 rfl) ?_
      refine gf_11_5 hK hx hb hts hown hH (cl_n0 hL) (cl_k0 hL) (hts _ tw_292) (fun _ h9 => h9) dX11_status_20 ?_
      refine lv_bipush (v := -2) hx hb dX11_status_23 (by decide) ?_
      refine lv_iload_n hx hb dX11_status_25 rfl (lv_at hl 1 rfl) ?_
      refine lv_isub hx hb dX11_status_26 ?_
      obtain ⟨hi6, hf⟩ := nm_chk hf
      refine nm_iald hx hb hK hH (cl_n2 hL) (cl_k2 hL) (cl_l2 hN) hi6 dX11_status_27 ?_
      exact nm_iret hx hb hr hlocks hQ hH (congrArg Prod.fst (Option.some.inj hf)) (congrArg (fun q => (q.2.1, q.2.2, N, K)) (Option.some.inj hf)) dX11_status_28
    · have hf := nm_ie c5 hf
      refine lv_aload_n hx hb dX11_status_12 rfl (lv_at hl 0 rfl) ?_
      refine lv_bipush (v := -7) hx hb dX11_status_13 (by decide) ?_
      obtain ⟨r9, M7, hc8, hf⟩ := nm_sd2 hf
      refine nm_calli (nm_runV (X := X) (nl := nl) (k_X11_refuse hL hN (hf := hc8)) hx hb hml hown hts hs0 hK hZ hH tw_325 tw_322 tw_324 (sw_X11_refuse) tw_1 hd_X11_refuse (cl_n0 hL) (cl_k0 hL) (by decide) rfl rfl rfl ⟨Nat.le_trans (Nat.le_of_ble_eq_true rfl) hRf, Nat.le_trans (Nat.le_of_ble_eq_true rfl) hRl⟩ rfl hl.1 rfl (Nat.le_of_ble_eq_true rfl) dX11_status_15 ⟨Nat.zero_le _, Nat.zero_le _⟩) hH (fun H locs hH => ?_)
      have hH : nm_H D Y (fun q => s0 ≤ q) s.heap X nl ad (M7.1, M7.2, N, K) H locs := hH
      exact nm_iret hx hb hr hlocks hQ hH (congrArg Prod.fst (Option.some.inj hf)) (congrArg (fun q => (q.2.1, q.2.2, N, K)) (Option.some.inj hf)) dX11_status_18
