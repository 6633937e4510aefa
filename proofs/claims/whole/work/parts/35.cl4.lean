def f_X11_device (N : Nat → Nat) (x1 : Int32) (x2 : Int32) (M : cm) : Option (Int32 × cm) :=
(if (M.1 300 2) = 0 then
nm_s2 (f_X11_refuse (-2 : Int32) M) fun r15 M13 =>
some (r15, M13)
else
(if x1 = (-1 : Int32) then
some (M.1 300 3, M)
else
(if (f_X11_outside x1 (M.1 300 3)) = 0 then
(if (f_X11_outside x2 (4 : Int32)) = 0 then
nm_s1 (f_X2_ofDevice N x1 x2 M) fun r5 =>
some (r5, M)
else
nm_s2 (f_X11_refuse (-7 : Int32) M) fun r9 M7 =>
some (r9, M7))
else
nm_s2 (f_X11_refuse (-3 : Int32) M) fun r12 M10 =>
some (r12, M10))))
set_option maxHeartbeats 4000000 in
set_option maxRecDepth 100000 in
theorem k_X11_device {l : Launch} {D : va_G} {Y : nm_Y} {s0 : Nat} {X : va_W} {ad : Nat → Nat} {nl : List Nat} {N K : Nat → Nat} (hL : cl_L nl K) (hN : cl_N N) {x1 : Int32} {x2 : Int32} {M : cm} {r0 : Int32} {M0 : cm} (hf : f_X11_device N x1 x2 M = some (r0, M0)) :
    nm_Met l yX11_device cX11_device 3 (some .int) { frames := 1, cells := 0, slots := 0, locals := 22 } [.ref (ad 0), .int x1, .int x2] D Y s0 (nm_W Y X nl ad (M.1, M.2, N, K)) (nm_Qi D s0 r0 (nm_W Y X nl ad (M0.1, M0.2, N, K))) 0 0 := by
  refine nm_of (by decide) (Nat.le_of_ble_eq_true rfl) ?_
  intro p e R s m args below meth c Q ls hx hb hr hlocks hml hown hts hs0 hK hZ hRf hRl hRc hRs hQ hP hD hl
  have hH : nm_H D Y (fun q => s0 ≤ q) s.heap X nl ad (M.1, M.2, N, K) s.heap [] := ⟨hP, hD, va_S.rf⟩
  have hl : lv_has ls 3 [(0, .ref (ad 0)), (1, .int x1), (2, .int x2)] := hl
  unfold f_X11_device at hf
  refine lv_aload_n hx hb dX11_device_0 rfl (lv_at hl 0 rfl) ?_
  refine gf_11_3 hK hx hb hts hown hH (cl_n0 hL) (cl_k0 hL) (hts _ tw_290) (fun _ h9 => h9) dX11_device_1 ?_
  refine gf_2_2 hK hx hb hts hown hH (cl_n300 hL) (cl_k300 hL) (hts _ tw_173) (fun _ h9 => h9) dX11_device_4 ?_
  refine lv_if_ne (tgt := 17) hx hb dX11_device_7 (by decide) (fun c1 => ?_) (fun c1 => ?_)
  · have hf := nm_ie c1 hf
    refine lv_iload_n hx hb dX11_device_17 rfl (lv_at hl 1 rfl) ?_
    refine lv_iconst (v := -1) hx hb dX11_device_18 (by decide) ?_
    refine lv_icmp_ne (tgt := 30) hx hb dX11_device_19 (by decide) (fun c2 => ?_) (fun c2 => ?_)
    · have hf := nm_ie c2 hf
      refine lv_iload_n hx hb dX11_device_30 rfl (lv_at hl 1 rfl) ?_
      refine lv_aload_n hx hb dX11_device_31 rfl (lv_at hl 0 rfl) ?_
      refine gf_11_3 hK hx hb hts hown hH (cl_n0 hL) (cl_k0 hL) (hts _ tw_290) (fun _ h9 => h9) dX11_device_32 ?_
      refine gf_2_3 hK hx hb hts hown hH (cl_n300 hL) (cl_k300 hL) (hts _ tw_176) (fun _ h9 => h9) dX11_device_35 ?_
      refine nm_calli (nm_runS (X := X) (nl := nl) (k_X11_outside hL hN (hf := (rfl : f_X11_outside x1 (M.1 300 3) = _))) hx hb hml hown hts hs0 hK hZ hH tw_321 tw_319 tw_320 tw_1 hd_X11_outside rfl rfl ⟨Nat.le_trans (Nat.le_of_ble_eq_true rfl) hRf, Nat.le_trans (Nat.le_of_ble_eq_true rfl) hRl⟩ rfl hl.1 rfl (Nat.le_of_ble_eq_true rfl) dX11_device_38 ⟨Nat.zero_le _, Nat.zero_le _⟩) hH (fun H locs hH => ?_)
      have hH : nm_H D Y (fun q => s0 ≤ q) s.heap X nl ad (M.1, M.2, N, K) H locs := hH
      refine lv_if_eq (tgt := 51) hx hb dX11_device_41 (by decide) (fun c3 => ?_) (fun c3 => ?_)
      · have hf := nm_it c3 hf
        refine lv_iload_n hx hb dX11_device_51 rfl (lv_at hl 2 rfl) ?_
        refine lv_iconst (v := 4) hx hb dX11_device_52 (by decide) ?_
        refine nm_calli (nm_runS (X := X) (nl := nl) (k_X11_outside hL hN (hf := (rfl : f_X11_outside x2 (4 : Int32) = _))) hx hb hml hown hts hs0 hK hZ hH tw_321 tw_319 tw_320 tw_1 hd_X11_outside rfl rfl ⟨Nat.le_trans (Nat.le_of_ble_eq_true rfl) hRf, Nat.le_trans (Nat.le_of_ble_eq_true rfl) hRl⟩ rfl hl.1 rfl (Nat.le_of_ble_eq_true rfl) dX11_device_53 ⟨Nat.zero_le _, Nat.zero_le _⟩) hH (fun H locs hH => ?_)
        have hH : nm_H D Y (fun q => s0 ≤ q) s.heap X nl ad (M.1, M.2, N, K) H locs := hH
        refine lv_if_eq (tgt := 68) hx hb dX11_device_56 (by decide) (fun c4 => ?_) (fun c4 => ?_)
        · have hf := nm_it c4 hf
          refine lv_aload_n hx hb dX11_device_68 rfl (lv_at hl 0 rfl) ?_
          refine gf_11_3 hK hx hb hts hown hH (cl_n0 hL) (cl_k0 hL) (hts _ tw_290) (fun _ h9 => h9) dX11_device_69 ?_
          refine lv_iload_n hx hb dX11_device_72 rfl (lv_at hl 1 rfl) ?_
          refine lv_iload_n hx hb dX11_device_73 rfl (lv_at hl 2 rfl) ?_
          obtain ⟨r5, hc6, hf⟩ := nm_sd1 hf
          refine nm_calli (nm_runV (X := X) (nl := nl) (k_X2_ofDevice hL hN (hf := hc6)) hx hb hml hown hts hs0 hK hZ hH tw_864 tw_861 tw_862 (sw_X2_ofDevice) tw_6 hd_X2_ofDevice (cl_n300 hL) (cl_k300 hL) (by decide) rfl rfl rfl ⟨Nat.le_trans (Nat.le_of_ble_eq_true rfl) hRf, Nat.le_trans (Nat.le_of_ble_eq_true rfl) hRl⟩ rfl hl.1 rfl (Nat.le_of_ble_eq_true rfl) dX11_device_74 ⟨Nat.zero_le _, Nat.zero_le _⟩) hH (fun H locs hH => ?_)
          have hH : nm_H D Y (fun q => s0 ≤ q) s.heap X nl ad (M.1, M.2, N, K) H locs := hH
          exact nm_iret hx hb hr hlocks hQ hH (congrArg Prod.fst (Option.some.inj hf)) (congrArg (fun q => (q.2.1, q.2.2, N, K)) (Option.some.inj hf)) dX11_device_77
        · have hf := nm_ie c4 hf
          refine lv_aload_n hx hb dX11_device_59 rfl (lv_at hl 0 rfl) ?_
          refine lv_bipush (v := -7) hx hb dX11_device_60 (by decide) ?_
          obtain ⟨r9, M7, hc8, hf⟩ := nm_sd2 hf
          refine nm_calli (nm_runV (X := X) (nl := nl) (k_X11_refuse hL hN (hf := hc8)) hx hb hml hown hts hs0 hK hZ hH tw_325 tw_322 tw_324 (sw_X11_refuse) tw_1 hd_X11_refuse (cl_n0 hL) (cl_k0 hL) (by decide) rfl rfl rfl ⟨Nat.le_trans (Nat.le_of_ble_eq_true rfl) hRf, Nat.le_trans (Nat.le_of_ble_eq_true rfl) hRl⟩ rfl hl.1 rfl (Nat.le_of_ble_eq_true rfl) dX11_device_62 ⟨Nat.zero_le _, Nat.zero_le _⟩) hH (fun H locs hH => ?_)
          have hH : nm_H D Y (fun q => s0 ≤ q) s.heap X nl ad (M7.1, M7.2, N, K) H locs := hH
          refine lv_goto (tgt := 77) hx hb dX11_device_65 (by decide) ?_
          exact nm_iret hx hb hr hlocks hQ hH (congrArg Prod.fst (Option.some.inj hf)) (congrArg (fun q => (q.2.1, q.2.2, N, K)) (Option.some.inj hf)) dX11_device_77
      · have hf := nm_ie c3 hf
        refine lv_aload_n hx hb dX11_device_44 rfl (lv_at hl 0 rfl) ?_
        refine lv_bipush (v := -3) hx hb dX11_device_45 (by decide) ?_
        obtain ⟨r12, M10, hc11, hf⟩ := nm_sd2 hf
        refine nm_calli (nm_runV (X := X) (nl := nl) (k_X11_refuse hL hN (hf := hc11)) hx hb hml hown hts hs0 hK hZ hH tw_325 tw_322 tw_324 (sw_X11_refuse) tw_1 hd_X11_refuse (cl_n0 hL) (cl_k0 hL) (by decide) rfl rfl rfl ⟨Nat.le_trans (Nat.le_of_ble_eq_true rfl) hRf, Nat.le_trans (Nat.le_of_ble_eq_true rfl) hRl⟩ rfl hl.1 rfl (Nat.le_of_ble_eq_true rfl) dX11_device_47 ⟨Nat.zero_le _, Nat.zero_le _⟩) hH (fun H locs hH => ?_)
        have hH : nm_H D Y (fun q => s0 ≤ q) s.heap X nl ad (M10.1, M10.2, N, K) H locs := hH
        exact nm_iret hx hb hr hlocks hQ hH (congrArg Prod.fst (Option.some.inj hf)) (congrArg (fun q => (q.2.1, q.2.2, N, K)) (Option.some.inj hf)) dX11_device_50
    · have hf := nm_it c2 hf
      refine lv_aload_n hx hb dX11_device_22 rfl (lv_at hl 0 rfl) ?_
      refine gf_11_3 hK hx hb hts hown hH (cl_n0 hL) (cl_k0 hL) (hts _ tw_290) (fun _ h9 => h9) dX11_device_23 ?_
      refine gf_2_3 hK hx hb hts hown hH (cl_n300 hL) (cl_k300 hL) (hts _ tw_176) (fun _ h9 => h9) dX11_device_26 ?_
      exact nm_iret hx hb hr hlocks hQ hH (congrArg Prod.fst (Option.some.inj hf)) (congrArg (fun q => (q.2.1, q.2.2, N, K)) (Option.some.inj hf)) dX11_device_29
  · have hf := nm_it c1 hf
    refine lv_aload_n hx hb dX11_device_10 rfl (lv_at hl 0 rfl) ?_
    refine lv_bipush (v := -2) hx hb dX11_device_11 (by decide) ?_
    obtain ⟨r15, M13, hc14, hf⟩ := nm_sd2 hf
    refine nm_calli (nm_runV (X := X) (nl := nl) (k_X11_refuse hL hN (hf := hc14)) hx hb hml hown hts hs0 hK hZ hH tw_325 tw_322 tw_324 (sw_X11_refuse) tw_1 hd_X11_refuse (cl_n0 hL) (cl_k0 hL) (by decide) rfl rfl rfl ⟨Nat.le_trans (Nat.le_of_ble_eq_true rfl) hRf, Nat.le_trans (Nat.le_of_ble_eq_true rfl) hRl⟩ rfl hl.1 rfl (Nat.le_of_ble_eq_true rfl) dX11_device_13 ⟨Nat.zero_le _, Nat.zero_le _⟩) hH (fun H locs hH => ?_)
    have hH : nm_H D Y (fun q => s0 ≤ q) s.heap X nl ad (M13.1, M13.2, N, K) H locs := hH
    exact nm_iret hx hb hr hlocks hQ hH (congrArg Prod.fst (Option.some.inj hf)) (congrArg (fun q => (q.2.1, q.2.2, N, K)) (Option.some.inj hf)) dX11_device_16
def f_X11_wish (x1 : Int32) (x2 : Int32) (M : cm) : Option (Int32 × cm) :=
(if (f_X11_outside x1 (13824 : Int32)) = 0 then
(if x2 < 0 then
nm_s2 (f_X11_refuse (-7 : Int32) M) fun r8 M6 =>
some (r8, M6)
else
(if x2 ≤ (4096 : Int32) then
(if (M.1 400 0) < (12 : Int32) then
nm_s2 (f_X10_add x1 x2 M) fun r13 M11 =>
some (r13, M11)
else
nm_s2 (f_X11_refuse (-8 : Int32) M) fun r16 M14 =>
some (r16, M14))
else
nm_s2 (f_X11_refuse (-7 : Int32) M) fun r19 M17 =>
some (r19, M17)))
else
nm_s2 (f_X11_refuse (-7 : Int32) M) fun r4 M2 =>
some (r4, M2))
set_option maxHeartbeats 4000000 in
set_option maxRecDepth 100000 in
theorem k_X11_wish {l : Launch} {D : va_G} {Y : nm_Y} {s0 : Nat} {X : va_W} {ad : Nat → Nat} {nl : List Nat} {N K : Nat → Nat} (hL : cl_L nl K) (hN : cl_N N) {x1 : Int32} {x2 : Int32} {M : cm} {r0 : Int32} {M0 : cm} (hf : f_X11_wish x1 x2 M = some (r0, M0)) :
    nm_Met l yX11_wish cX11_wish 3 (some .int) { frames := 1, cells := 0, slots := 0, locals := 22 } [.ref (ad 0), .int x1, .int x2] D Y s0 (nm_W Y X nl ad (M.1, M.2, N, K)) (nm_Qi D s0 r0 (nm_W Y X nl ad (M0.1, M0.2, N, K))) 0 0 := by
  refine nm_of (by decide) (Nat.le_of_ble_eq_true rfl) ?_
  intro p e R s m args below meth c Q ls hx hb hr hlocks hml hown hts hs0 hK hZ hRf hRl hRc hRs hQ hP hD hl
  have hH : nm_H D Y (fun q => s0 ≤ q) s.heap X nl ad (M.1, M.2, N, K) s.heap [] := ⟨hP, hD, va_S.rf⟩
  have hl : lv_has ls 3 [(0, .ref (ad 0)), (1, .int x1), (2, .int x2)] := hl
  unfold f_X11_wish at hf
  refine lv_iload_n hx hb dX11_wish_0 rfl (lv_at hl 1 rfl) ?_
  refine lv_sipush (v := 13824) hx hb dX11_wish_1 (by decide) ?_
  refine nm_calli (nm_runS (X := X) (nl := nl) (k_X11_outside hL hN (hf := (rfl : f_X11_outside x1 (13824 : Int32) = _))) hx hb hml hown hts hs0 hK hZ hH tw_321 tw_319 tw_320 tw_1 hd_X11_outside rfl rfl ⟨Nat.le_trans (Nat.le_of_ble_eq_true rfl) hRf, Nat.le_trans (Nat.le_of_ble_eq_true rfl) hRl⟩ rfl hl.1 rfl (Nat.le_of_ble_eq_true rfl) dX11_wish_4 ⟨Nat.zero_le _, Nat.zero_le _⟩) hH (fun H locs hH => ?_)
  have hH : nm_H D Y (fun q => s0 ≤ q) s.heap X nl ad (M.1, M.2, N, K) H locs := hH
  refine lv_if_ne (tgt := 21) hx hb dX11_wish_7 (by decide) (fun c1 => ?_) (fun c1 => ?_)
  · have hf := nm_ie c1 hf
    refine lv_aload_n hx hb dX11_wish_21 rfl (lv_at hl 0 rfl) ?_
    refine lv_bipush (v := -7) hx hb dX11_wish_22 (by decide) ?_
    obtain ⟨r4, M2, hc3, hf⟩ := nm_sd2 hf
    refine nm_calli (nm_runV (X := X) (nl := nl) (k_X11_refuse hL hN (hf := hc3)) hx hb hml hown hts hs0 hK hZ hH tw_325 tw_322 tw_324 (sw_X11_refuse) tw_1 hd_X11_refuse (cl_n0 hL) (cl_k0 hL) (by decide) rfl rfl rfl ⟨Nat.le_trans (Nat.le_of_ble_eq_true rfl) hRf, Nat.le_trans (Nat.le_of_ble_eq_true rfl) hRl⟩ rfl hl.1 rfl (Nat.le_of_ble_eq_true rfl) dX11_wish_24 ⟨Nat.zero_le _, Nat.zero_le _⟩) hH (fun H locs hH => ?_)
    have hH : nm_H D Y (fun q => s0 ≤ q) s.heap X nl ad (M2.1, M2.2, N, K) H locs := hH
    exact nm_iret hx hb hr hlocks hQ hH (congrArg Prod.fst (Option.some.inj hf)) (congrArg (fun q => (q.2.1, q.2.2, N, K)) (Option.some.inj hf)) dX11_wish_27
  · have hf := nm_it c1 hf
    refine lv_iload_n hx hb dX11_wish_10 rfl (lv_at hl 2 rfl) ?_
    refine lv_if_lt (tgt := 21) hx hb dX11_wish_11 (by decide) (fun c5 => ?_) (fun c5 => ?_)
    · have hf := nm_it c5 hf
      refine lv_aload_n hx hb dX11_wish_21 rfl (lv_at hl 0 rfl) ?_
      refine lv_bipush (v := -7) hx hb dX11_wish_22 (by decide) ?_
      obtain ⟨r8, M6, hc7, hf⟩ := nm_sd2 hf
      refine nm_calli (nm_runV (X := X) (nl := nl) (k_X11_refuse hL hN (hf := hc7)) hx hb hml hown hts hs0 hK hZ hH tw_325 tw_322 tw_324 (sw_X11_refuse) tw_1 hd_X11_refuse (cl_n0 hL) (cl_k0 hL) (by decide) rfl rfl rfl ⟨Nat.le_trans (Nat.le_of_ble_eq_true rfl) hRf, Nat.le_trans (Nat.le_of_ble_eq_true rfl) hRl⟩ rfl hl.1 rfl (Nat.le_of_ble_eq_true rfl) dX11_wish_24 ⟨Nat.zero_le _, Nat.zero_le _⟩) hH (fun H locs hH => ?_)
      have hH : nm_H D Y (fun q => s0 ≤ q) s.heap X nl ad (M6.1, M6.2, N, K) H locs := hH
      exact nm_iret hx hb hr hlocks hQ hH (congrArg Prod.fst (Option.some.inj hf)) (congrArg (fun q => (q.2.1, q.2.2, N, K)) (Option.some.inj hf)) dX11_wish_27
    · have hf := nm_ie c5 hf
      refine lv_iload_n hx hb dX11_wish_14 rfl (lv_at hl 2 rfl) ?_
      refine lv_sipush (v := 4096) hx hb dX11_wish_15 (by decide) ?_
      refine lv_icmp_le (tgt := 28) hx hb dX11_wish_18 (by decide) (fun c9 => ?_) (fun c9 => ?_)
      · have hf := nm_it c9 hf
        refine lv_aload_n hx hb dX11_wish_28 rfl (lv_at hl 0 rfl) ?_
        refine gf_11_4 hK hx hb hts hown hH (cl_n0 hL) (cl_k0 hL) (hts _ tw_291) (fun _ h9 => h9) dX11_wish_29 ?_
        refine gf_10_0 hK hx hb hts hown hH (cl_n400 hL) (cl_k400 hL) (hts _ tw_224) (fun _ h9 => h9) dX11_wish_32 ?_
        refine lv_bipush (v := 12) hx hb dX11_wish_35 (by decide) ?_
        refine lv_icmp_lt (tgt := 49) hx hb dX11_wish_37 (by decide) (fun c10 => ?_) (fun c10 => ?_)
        · have hf := nm_it c10 hf
          refine lv_aload_n hx hb dX11_wish_49 rfl (lv_at hl 0 rfl) ?_
          refine gf_11_4 hK hx hb hts hown hH (cl_n0 hL) (cl_k0 hL) (hts _ tw_291) (fun _ h9 => h9) dX11_wish_50 ?_
          refine lv_iload_n hx hb dX11_wish_53 rfl (lv_at hl 1 rfl) ?_
          refine lv_iload_n hx hb dX11_wish_54 rfl (lv_at hl 2 rfl) ?_
          obtain ⟨r13, M11, hc12, hf⟩ := nm_sd2 hf
          refine nm_calli (nm_runV (X := X) (nl := nl) (k_X10_add hL hN (hf := hc12)) hx hb hml hown hts hs0 hK hZ hH tw_872 tw_869 tw_870 (sw_X10_add) tw_7 hd_X10_add (cl_n400 hL) (cl_k400 hL) (by decide) rfl rfl rfl ⟨Nat.le_trans (Nat.le_of_ble_eq_true rfl) hRf, Nat.le_trans (Nat.le_of_ble_eq_true rfl) hRl⟩ rfl hl.1 rfl (Nat.le_of_ble_eq_true rfl) dX11_wish_55 ⟨Nat.zero_le _, Nat.zero_le _⟩) hH (fun H locs hH => ?_)
          have hH : nm_H D Y (fun q => s0 ≤ q) s.heap X nl ad (M11.1, M11.2, N, K) H locs := hH
          exact nm_iret hx hb hr hlocks hQ hH (congrArg Prod.fst (Option.some.inj hf)) (congrArg (fun q => (q.2.1, q.2.2, N, K)) (Option.some.inj hf)) dX11_wish_58
        · have hf := nm_ie c10 hf
          refine lv_aload_n hx hb dX11_wish_40 rfl (lv_at hl 0 rfl) ?_
          refine lv_bipush (v := -8) hx hb dX11_wish_41 (by decide) ?_
          obtain ⟨r16, M14, hc15, hf⟩ := nm_sd2 hf
          refine nm_calli (nm_runV (X := X) (nl := nl) (k_X11_refuse hL hN (hf := hc15)) hx hb hml hown hts hs0 hK hZ hH tw_325 tw_322 tw_324 (sw_X11_refuse) tw_1 hd_X11_refuse (cl_n0 hL) (cl_k0 hL) (by decide) rfl rfl rfl ⟨Nat.le_trans (Nat.le_of_ble_eq_true rfl) hRf, Nat.le_trans (Nat.le_of_ble_eq_true rfl) hRl⟩ rfl hl.1 rfl (Nat.le_of_ble_eq_true rfl) dX11_wish_43 ⟨Nat.zero_le _, Nat.zero_le _⟩) hH (fun H locs hH => ?_)
          have hH : nm_H D Y (fun q => s0 ≤ q) s.heap X nl ad (M14.1, M14.2, N, K) H locs := hH
          refine lv_goto (tgt := 58) hx hb dX11_wish_46 (by decide) ?_
          exact nm_iret hx hb hr hlocks hQ hH (congrArg Prod.fst (Option.some.inj hf)) (congrArg (fun q => (q.2.1, q.2.2, N, K)) (Option.some.inj hf)) dX11_wish_58
      · have hf := nm_ie c9 hf
        refine lv_aload_n hx hb dX11_wish_21 rfl (lv_at hl 0 rfl) ?_
        refine lv_bipush (v := -7) hx hb dX11_wish_22 (by decide) ?_
        obtain ⟨r19, M17, hc18, hf⟩ := nm_sd2 hf
        refine nm_calli (nm_runV (X := X) (nl := nl) (k_X11_refuse hL hN (hf := hc18)) hx hb hml hown hts hs0 hK hZ hH tw_325 tw_322 tw_324 (sw_X11_refuse) tw_1 hd_X11_refuse (cl_n0 hL) (cl_k0 hL) (by decide) rfl rfl rfl ⟨Nat.le_trans (Nat.le_of_ble_eq_true rfl) hRf, Nat.le_trans (Nat.le_of_ble_eq_true rfl) hRl⟩ rfl hl.1 rfl (Nat.le_of_ble_eq_true rfl) dX11_wish_24 ⟨Nat.zero_le _, Nat.zero_le _⟩) hH (fun H locs hH => ?_)
        have hH : nm_H D Y (fun q => s0 ≤ q) s.heap X nl ad (M17.1, M17.2, N, K) H locs := hH
        exact nm_iret hx hb hr hlocks hQ hH (congrArg Prod.fst (Option.some.inj hf)) (congrArg (fun q => (q.2.1, q.2.2, N, K)) (Option.some.inj hf)) dX11_wish_27
def f_X11_unwish (M : cm) : Option (Int32 × cm) :=
nm_l (M.1 400 0) fun v1 =>
nm_l ((nm_up M.1 400 0 (0 : Int32), M.2)) fun M2 =>
nm_l ((nm_up M2.1 400 3 (0 : Int32), M2.2)) fun M3 =>
some (v1, M3)
set_option maxHeartbeats 4000000 in
set_option maxRecDepth 100000 in
theorem k_X11_unwish {l : Launch} {D : va_G} {Y : nm_Y} {s0 : Nat} {X : va_W} {ad : Nat → Nat} {nl : List Nat} {N K : Nat → Nat} (hL : cl_L nl K) (hN : cl_N N) {M : cm} {r0 : Int32} {M0 : cm} (hf : f_X11_unwish M = some (r0, M0)) :
    nm_Met l yX11_unwish cX11_unwish 2 (some .int) { frames := 0, cells := 0, slots := 0, locals := 0 } [.ref (ad 0)] D Y s0 (nm_W Y X nl ad (M.1, M.2, N, K)) (nm_Qi D s0 r0 (nm_W Y X nl ad (M0.1, M0.2, N, K))) 0 0 := by
  refine nm_of (by decide) (Nat.le_of_ble_eq_true rfl) ?_
  intro p e R s m args below meth c Q ls hx hb hr hlocks hml hown hts hs0 hK hZ hRf hRl hRc hRs hQ hP hD hl
  have hH : nm_H D Y (fun q => s0 ≤ q) s.heap X nl ad (M.1, M.2, N, K) s.heap [] := ⟨hP, hD, va_S.rf⟩
  have hl : lv_has ls 2 [(0, .ref (ad 0))] := hl
  unfold f_X11_unwish at hf
  refine lv_aload_n hx hb dX11_unwish_0 rfl (lv_at hl 0 rfl) ?_
  refine gf_11_4 hK hx hb hts hown hH (cl_n0 hL) (cl_k0 hL) (hts _ tw_291) (fun _ h9 => h9) dX11_unwish_1 ?_
  refine gf_10_0 hK hx hb hts hown hH (cl_n400 hL) (cl_k400 hL) (hts _ tw_224) (fun _ h9 => h9) dX11_unwish_4 ?_
  obtain ⟨v1, ev1, hf⟩ := nm_let hf
  refine nm_topi ev1 ?_
  refine lv_istore_n (lv' := [(1, .int v1), (0, .ref (ad 0))]) hx hb dX11_unwish_7 rfl hl (by decide) rfl (fun ls hl => ?_)
  refine lv_aload_n hx hb dX11_unwish_8 rfl (lv_at hl 1 rfl) ?_
  refine gf_11_4 hK hx hb hts hown hH (cl_n0 hL) (cl_k0 hL) (hts _ tw_291) (fun _ h9 => h9) dX11_unwish_9 ?_
  refine lv_iconst (v := 0) hx hb dX11_unwish_12 (by decide) ?_
  obtain ⟨M2, eM2, hf⟩ := nm_let hf
  refine pf_10_0 hK hx hb hts hown hH (cl_n400 hL) (cl_k400 hL) (hts _ tw_224) (fun _ h9 => h9) dX11_unwish_13 (fun H locs hH => ?_)
  have hH : nm_H D Y (fun q => s0 ≤ q) s.heap X nl ad (M2.1, M2.2, N, K) H locs := by rw [eM2]; exact hH
  refine lv_aload_n hx hb dX11_unwish_16 rfl (lv_at hl 1 rfl) ?_
  refine gf_11_4 hK hx hb hts hown hH (cl_n0 hL) (cl_k0 hL) (hts _ tw_291) (fun _ h9 => h9) dX11_unwish_17 ?_
  refine lv_iconst (v := 0) hx hb dX11_unwish_20 (by decide) ?_
  obtain ⟨M3, eM3, hf⟩ := nm_let hf
  refine pf_10_3 hK hx hb hts hown hH (cl_n400 hL) (cl_k400 hL) (hts _ tw_230) (fun _ h9 => h9) rfl rfl dX11_unwish_21 (fun H locs hH => ?_)
  have hH : nm_H D Y (fun q => s0 ≤ q) s.heap X nl ad (M3.1, M3.2, N, K) H locs := by rw [eM3]; exact hH
  refine lv_iload_n hx hb dX11_unwish_24 rfl (lv_at hl 0 rfl) ?_
  exact nm_iret hx hb hr hlocks hQ hH (congrArg Prod.fst (Option.some.inj hf)) (congrArg (fun q => (q.2.1, q.2.2, N, K)) (Option.some.inj hf)) dX11_unwish_25
def f_X11_tries (M : cm) : Int32 :=
M.1 400 1
set_option maxHeartbeats 4000000 in
set_option maxRecDepth 100000 in
theorem k_X11_tries {l : Launch} {D : va_G} {Y : nm_Y} {s0 : Nat} {X : va_W} {ad : Nat → Nat} {nl : List Nat} {N K : Nat → Nat} (hL : cl_L nl K) (hN : cl_N N) {M : cm} {r0 : Int32} (hf : f_X11_tries M = r0) :
    nm_Met l yX11_tries cX11_tries 1 (some .int) { frames := 0, cells := 0, slots := 0, locals := 0 } [.ref (ad 0)] D Y s0 (nm_W Y X nl ad (M.1, M.2, N, K)) (nm_Qi D s0 r0 (nm_W Y X nl ad (M.1, M.2, N, K))) 0 0 := by
  refine nm_of (by decide) (Nat.le_of_ble_eq_true rfl) ?_
  intro p e R s m args below meth c Q ls hx hb hr hlocks hml hown hts hs0 hK hZ hRf hRl hRc hRs hQ hP hD hl
  have hH : nm_H D Y (fun q => s0 ≤ q) s.heap X nl ad (M.1, M.2, N, K) s.heap [] := ⟨hP, hD, va_S.rf⟩
  have hl : lv_has ls 1 [(0, .ref (ad 0))] := hl
  unfold f_X11_tries at hf
  refine lv_aload_n hx hb dX11_tries_0 rfl (lv_at hl 0 rfl) ?_
  refine gf_11_4 hK hx hb hts hown hH (cl_n0 hL) (cl_k0 hL) (hts _ tw_291) (fun _ h9 => h9) dX11_tries_1 ?_
  refine gf_10_1 hK hx hb hts hown hH (cl_n400 hL) (cl_k400 hL) (hts _ tw_226) (fun _ h9 => h9) dX11_tries_4 ?_
  exact nm_iret hx hb hr hlocks hQ hH hf rfl dX11_tries_7
def f_X11_pair_J42 (x1 : Int32) (x2 : Int32) (t42_1 : Int32) (t42_0 : Int32) (M : cm) : Option (Int32 × cm) :=
(if (f_X11_outside t42_0 t42_1) = 0 then
(if x2 = 0 then
nm_s1 (f_X10_thingOf x1 M) fun r4 =>
some (r4, M)
else
nm_s1 (f_X10_wishedOf x1 M) fun r6 =>
some (r6, M))
else
nm_s2 (f_X11_refuse (-3 : Int32) M) fun r10 M8 =>
some (r10, M8))
def f_X11_pair (x1 : Int32) (x2 : Int32) (M : cm) : Option (Int32 × cm) :=
(if (M.1 400 3) = 0 then
nm_s2 (f_X11_refuse (-2 : Int32) M) fun r14 M12 =>
some (r14, M12)
else
(if x2 = 0 then
f_X11_pair_J42 x1 x2 (M.1 300 3) x1 M
else
f_X11_pair_J42 x1 x2 (M.1 310 1) x1 M))
set_option maxHeartbeats 4000000 in
set_option maxRecDepth 100000 in
theorem k_X11_pair {l : Launch} {D : va_G} {Y : nm_Y} {s0 : Nat} {X : va_W} {ad : Nat → Nat} {nl : List Nat} {N K : Nat → Nat} (hL : cl_L nl K) (hN : cl_N N) {x1 : Int32} {x2 : Int32} {M : cm} {r0 : Int32} {M0 : cm} (hf : f_X11_pair x1 x2 M = some (r0, M0)) :
    nm_Met l yX11_pair cX11_pair 3 (some .int) { frames := 2, cells := 0, slots := 0, locals := 42 } [.ref (ad 0), .int x1, .int x2] D Y s0 (nm_W Y X nl ad (M.1, M.2, N, K)) (nm_Qi D s0 r0 (nm_W Y X nl ad (M0.1, M0.2, N, K))) 0 0 := by
  refine nm_of (by decide) (Nat.le_of_ble_eq_true rfl) ?_
  intro p e R s m args below meth c Q ls hx hb hr hlocks hml hown hts hs0 hK hZ hRf hRl hRc hRs hQ hP hD hl
  have hH : nm_H D Y (fun q => s0 ≤ q) s.heap X nl ad (M.1, M.2, N, K) s.heap [] := ⟨hP, hD, va_S.rf⟩
  have hl : lv_has ls 3 [(0, .ref (ad 0)), (1, .int x1), (2, .int x2)] := hl
  unfold f_X11_pair at hf
  refine lv_aload_n hx hb dX11_pair_0 rfl (lv_at hl 0 rfl) ?_
  refine gf_11_4 hK hx hb hts hown hH (cl_n0 hL) (cl_k0 hL) (hts _ tw_291) (fun _ h9 => h9) dX11_pair_1 ?_
  refine gf_10_3 hK hx hb hts hown hH (cl_n400 hL) (cl_k400 hL) (hts _ tw_230) (fun _ h9 => h9) dX11_pair_4 ?_
  refine lv_if_ne (tgt := 17) hx hb dX11_pair_7 (by decide) (fun c1 => ?_) (fun c1 => ?_)
  · have hf := nm_ie c1 hf
    refine lv_iload_n hx hb dX11_pair_17 rfl (lv_at hl 1 rfl) ?_
    refine lv_iload_n hx hb dX11_pair_18 rfl (lv_at hl 2 rfl) ?_
    have hJ42 : ∀ (t42_1 : Int32) (t42_0 : Int32) (H : Heap) (locs : List Loc) (ls : Array Slot), nm_H D Y (fun q => s0 ≤ q) s.heap X nl ad (M.1, M.2, N, K) H locs → lv_has ls 3 [(0, .ref (ad 0)), (1, .int x1), (2, .int x2)] → f_X11_pair_J42 x1 x2 t42_1 t42_0 M = some (r0, M0) → W p l e R s m args below meth c H locs 0 0 Q (F0 m 42 ls [.int t42_1, .int t42_0]) := by
      intro t42_1 t42_0 H locs ls hH hl hf
      unfold f_X11_pair_J42 at hf
      refine nm_calli (nm_runS (X := X) (nl := nl) (k_X11_outside hL hN (hf := (rfl : f_X11_outside t42_0 t42_1 = _))) hx hb hml hown hts hs0 hK hZ hH tw_321 tw_319 tw_320 tw_1 hd_X11_outside rfl rfl ⟨Nat.le_trans (Nat.le_of_ble_eq_true rfl) hRf, Nat.le_trans (Nat.le_of_ble_eq_true rfl) hRl⟩ rfl hl.1 rfl (Nat.le_of_ble_eq_true rfl) dX11_pair_42 ⟨Nat.zero_le _, Nat.zero_le _⟩) hH (fun H locs hH => ?_)
      have hH : nm_H D Y (fun q => s0 ≤ q) s.heap X nl ad (M.1, M.2, N, K) H locs := hH
      refine lv_if_eq (tgt := 55) hx hb dX11_pair_45 (by decide) (fun c2 => ?_) (fun c2 => ?_)
      · have hf := nm_it c2 hf
        refine lv_iload_n hx hb dX11_pair_55 rfl (lv_at hl 2 rfl) ?_
        refine lv_if_eq (tgt := 70) hx hb dX11_pair_56 (by decide) (fun c3 => ?_) (fun c3 => ?_)
        · have hf := nm_it c3 hf
          refine lv_aload_n hx hb dX11_pair_70 rfl (lv_at hl 0 rfl) ?_
          refine gf_11_4 hK hx hb hts hown hH (cl_n0 hL) (cl_k0 hL) (hts _ tw_291) (fun _ h9 => h9) dX11_pair_71 ?_
          refine lv_iload_n hx hb dX11_pair_74 rfl (lv_at hl 1 rfl) ?_
          obtain ⟨r4, hc5, hf⟩ := nm_sd1 hf
          refine nm_calli (nm_runV (X := X) (nl := nl) (k_X10_thingOf hL hN (hf := hc5)) hx hb hml hown hts hs0 hK hZ hH tw_923 tw_920 tw_921 (sw_X10_thingOf) tw_7 hd_X10_thingOf (cl_n400 hL) (cl_k400 hL) (by decide) rfl rfl rfl ⟨Nat.le_trans (Nat.le_of_ble_eq_true rfl) hRf, Nat.le_trans (Nat.le_of_ble_eq_true rfl) hRl⟩ rfl hl.1 rfl (Nat.le_of_ble_eq_true rfl) dX11_pair_75 ⟨Nat.zero_le _, Nat.zero_le _⟩) hH (fun H locs hH => ?_)
          have hH : nm_H D Y (fun q => s0 ≤ q) s.heap X nl ad (M.1, M.2, N, K) H locs := hH
          exact nm_iret hx hb hr hlocks hQ hH (congrArg Prod.fst (Option.some.inj hf)) (congrArg (fun q => (q.2.1, q.2.2, N, K)) (Option.some.inj hf)) dX11_pair_78
        · have hf := nm_ie c3 hf
          refine lv_aload_n hx hb dX11_pair_59 rfl (lv_at hl 0 rfl) ?_
          refine gf_11_4 hK hx hb hts hown hH (cl_n0 hL) (cl_k0 hL) (hts _ tw_291) (fun _ h9 => h9) dX11_pair_60 ?_
          refine lv_iload_n hx hb dX11_pair_63 rfl (lv_at hl 1 rfl) ?_
          obtain ⟨r6, hc7, hf⟩ := nm_sd1 hf
          refine nm_calli (nm_runV (X := X) (nl := nl) (k_X10_wishedOf hL hN (hf := hc7)) hx hb hml hown hts hs0 hK hZ hH tw_906 tw_919 tw_904 (sw_X10_wishedOf) tw_7 hd_X10_wishedOf (cl_n400 hL) (cl_k400 hL) (by decide) rfl rfl rfl ⟨Nat.le_trans (Nat.le_of_ble_eq_true rfl) hRf, Nat.le_trans (Nat.le_of_ble_eq_true rfl) hRl⟩ rfl hl.1 rfl (Nat.le_of_ble_eq_true rfl) dX11_pair_64 ⟨Nat.zero_le _, Nat.zero_le _⟩) hH (fun H locs hH => ?_)
          have hH : nm_H D Y (fun q => s0 ≤ q) s.heap X nl ad (M.1, M.2, N, K) H locs := hH
          refine lv_goto (tgt := 78) hx hb dX11_pair_67 (by decide) ?_
          exact nm_iret hx hb hr hlocks hQ hH (congrArg Prod.fst (Option.some.inj hf)) (congrArg (fun q => (q.2.1, q.2.2, N, K)) (Option.some.inj hf)) dX11_pair_78
      · have hf := nm_ie c2 hf
        refine lv_aload_n hx hb dX11_pair_48 rfl (lv_at hl 0 rfl) ?_
        refine lv_bipush (v := -3) hx hb dX11_pair_49 (by decide) ?_
        obtain ⟨r10, M8, hc9, hf⟩ := nm_sd2 hf
        refine nm_calli (nm_runV (X := X) (nl := nl) (k_X11_refuse hL hN (hf := hc9)) hx hb hml hown hts hs0 hK hZ hH tw_325 tw_322 tw_324 (sw_X11_refuse) tw_1 hd_X11_refuse (cl_n0 hL) (cl_k0 hL) (by decide) rfl rfl rfl ⟨Nat.le_trans (Nat.le_of_ble_eq_true rfl) hRf, Nat.le_trans (Nat.le_of_ble_eq_true rfl) hRl⟩ rfl hl.1 rfl (Nat.le_of_ble_eq_true rfl) dX11_pair_51 ⟨Nat.zero_le _, Nat.zero_le _⟩) hH (fun H locs hH => ?_)
        have hH : nm_H D Y (fun q => s0 ≤ q) s.heap X nl ad (M8.1, M8.2, N, K) H locs := hH
        exact nm_iret hx hb hr hlocks hQ hH (congrArg Prod.fst (Option.some.inj hf)) (congrArg (fun q => (q.2.1, q.2.2, N, K)) (Option.some.inj hf)) dX11_pair_54
    refine lv_if_eq (tgt := 35) hx hb dX11_pair_19 (by decide) (fun c11 => ?_) (fun c11 => ?_)
    · have hf := nm_it c11 hf
      refine lv_aload_n hx hb dX11_pair_35 rfl (lv_at hl 0 rfl) ?_
      refine gf_11_3 hK hx hb hts hown hH (cl_n0 hL) (cl_k0 hL) (hts _ tw_290) (fun _ h9 => h9) dX11_pair_36 ?_
      refine gf_2_3 hK hx hb hts hown hH (cl_n300 hL) (cl_k300 hL) (hts _ tw_176) (fun _ h9 => h9) dX11_pair_39 ?_
      exact hJ42 (M.1 300 3) x1 _ _ _ hH (lv_sub hl [0, 1, 2] rfl) hf
    · have hf := nm_ie c11 hf
      refine lv_aload_n hx hb dX11_pair_22 rfl (lv_at hl 0 rfl) ?_
      refine gf_11_3 hK hx hb hts hown hH (cl_n0 hL) (cl_k0 hL) (hts _ tw_290) (fun _ h9 => h9) dX11_pair_23 ?_
      refine gf_2_4 hK hx hb hts hown hH (cl_n300 hL) (cl_k300 hL) (hts _ tw_178) (fun _ h9 => h9) dX11_pair_26 ?_
      refine gf_4_1 hK hx hb hts hown hH (cl_n310 hL) (cl_k310 hL) (hts _ tw_45) (fun _ h9 => h9) dX11_pair_29 ?_
      refine lv_goto (tgt := 42) hx hb dX11_pair_32 (by decide) ?_
      exact hJ42 (M.1 310 1) x1 _ _ _ hH (lv_sub hl [0, 1, 2] rfl) hf
  · have hf := nm_it c1 hf
    refine lv_aload_n hx hb dX11_pair_10 rfl (lv_at hl 0 rfl) ?_
    refine lv_bipush (v := -2) hx hb dX11_pair_11 (by decide) ?_
    obtain ⟨r14, M12, hc13, hf⟩ := nm_sd2 hf
    refine nm_calli (nm_runV (X := X) (nl := nl) (k_X11_refuse hL hN (hf := hc13)) hx hb hml hown hts hs0 hK hZ hH tw_325 tw_322 tw_324 (sw_X11_refuse) tw_1 hd_X11_refuse (cl_n0 hL) (cl_k0 hL) (by decide) rfl rfl rfl ⟨Nat.le_trans (Nat.le_of_ble_eq_true rfl) hRf, Nat.le_trans (Nat.le_of_ble_eq_true rfl) hRl⟩ rfl hl.1 rfl (Nat.le_of_ble_eq_true rfl) dX11_pair_13 ⟨Nat.zero_le _, Nat.zero_le _⟩) hH (fun H locs hH => ?_)
    have hH : nm_H D Y (fun q => s0 ≤ q) s.heap X nl ad (M12.1, M12.2, N, K) H locs := hH
    exact nm_iret hx hb hr hlocks hQ hH (congrArg Prod.fst (Option.some.inj hf)) (congrArg (fun q => (q.2.1, q.2.2, N, K)) (Option.some.inj hf)) dX11_pair_16
def f_X11_lay (x1 : Int32) (x2 : Int32) (M : cm) : Option (Int32 × cm) :=
(if (f_X11_outside x1 (16 : Int32)) = 0 then
(if (f_X11_outside x2 (64 : Int32)) = 0 then
(if (M.1 100 0) = 0 then
nm_s2 (f_X11_refuse (-2 : Int32) M) fun r12 M10 =>
some (r12, M10)
else
nm_c (((64 : Int32) * x1) + x2) 1024 (
nm_l ((M.1, nm_upJ M.2 0 7 (M.2 101 (((64 : Int32) * x1) + x2).toNatClampNeg))) fun M8 =>
nm_l ((nm_up M8.1 0 8 (1 : Int32), M8.2)) fun M9 =>
some (f_J13_bitCount_95d88 (M9.2 0 7), M9)))
else
nm_s2 (f_X11_refuse (-3 : Int32) M) fun r15 M13 =>
some (r15, M13))
else
nm_s2 (f_X11_refuse (-3 : Int32) M) fun r4 M2 =>
some (r4, M2))
set_option maxHeartbeats 4000000 in
set_option maxRecDepth 100000 in
theorem k_X11_lay {l : Launch} {D : va_G} {Y : nm_Y} {s0 : Nat} {X : va_W} {ad : Nat → Nat} {nl : List Nat} {N K : Nat → Nat} (hL : cl_L nl K) (hN : cl_N N) {x1 : Int32} {x2 : Int32} {M : cm} {r0 : Int32} {M0 : cm} (hf : f_X11_lay x1 x2 M = some (r0, M0)) :
    nm_Met l yX11_lay cX11_lay 3 (some .int) { frames := 1, cells := 0, slots := 0, locals := 21 } [.ref (ad 0), .int x1, .int x2] D Y s0 (nm_W Y X nl ad (M.1, M.2, N, K)) (nm_Qi D s0 r0 (nm_W Y X nl ad (M0.1, M0.2, N, K))) 0 0 := by
  refine nm_of (by decide) (Nat.le_of_ble_eq_true rfl) ?_
  intro p e R s m args below meth c Q ls hx hb hr hlocks hml hown hts hs0 hK hZ hRf hRl hRc hRs hQ hP hD hl
  have hH : nm_H D Y (fun q => s0 ≤ q) s.heap X nl ad (M.1, M.2, N, K) s.heap [] := ⟨hP, hD, va_S.rf⟩
  have hl : lv_has ls 3 [(0, .ref (ad 0)), (1, .int x1), (2, .int x2)] := hl
  unfold f_X11_lay at hf
  refine lv_iload_n hx hb dX11_lay_0 rfl (lv_at hl 1 rfl) ?_
  refine lv_bipush (v := 16) hx hb dX11_lay_1 (by decide) ?_
  refine nm_calli (nm_runS (X := X) (nl := nl) (k_X11_outside hL hN (hf := (rfl : f_X11_outside x1 (16 : Int32) = _))) hx hb hml hown hts hs0 hK hZ hH tw_321 tw_319 tw_320 tw_1 hd_X11_outside rfl rfl ⟨Nat.le_trans (Nat.le_of_ble_eq_true rfl) hRf, Nat.le_trans (Nat.le_of_ble_eq_true rfl) hRl⟩ rfl hl.1 rfl (Nat.le_of_ble_eq_true rfl) dX11_lay_3 ⟨Nat.zero_le _, Nat.zero_le _⟩) hH (fun H locs hH => ?_)
  have hH : nm_H D Y (fun q => s0 ≤ q) s.heap X nl ad (M.1, M.2, N, K) H locs := hH
  refine lv_if_ne (tgt := 18) hx hb dX11_lay_6 (by decide) (fun c1 => ?_) (fun c1 => ?_)
  · have hf := nm_ie c1 hf
    refine lv_aload_n hx hb dX11_lay_18 rfl (lv_at hl 0 rfl) ?_
    refine lv_bipush (v := -3) hx hb dX11_lay_19 (by decide) ?_
    obtain ⟨r4, M2, hc3, hf⟩ := nm_sd2 hf
    refine nm_calli (nm_runV (X := X) (nl := nl) (k_X11_refuse hL hN (hf := hc3)) hx hb hml hown hts hs0 hK hZ hH tw_325 tw_322 tw_324 (sw_X11_refuse) tw_1 hd_X11_refuse (cl_n0 hL) (cl_k0 hL) (by decide) rfl rfl rfl ⟨Nat.le_trans (Nat.le_of_ble_eq_true rfl) hRf, Nat.le_trans (Nat.le_of_ble_eq_true rfl) hRl⟩ rfl hl.1 rfl (Nat.le_of_ble_eq_true rfl) dX11_lay_21 ⟨Nat.zero_le _, Nat.zero_le _⟩) hH (fun H locs hH => ?_)
    have hH : nm_H D Y (fun q => s0 ≤ q) s.heap X nl ad (M2.1, M2.2, N, K) H locs := hH
    exact nm_iret hx hb hr hlocks hQ hH (congrArg Prod.fst (Option.some.inj hf)) (congrArg (fun q => (q.2.1, q.2.2, N, K)) (Option.some.inj hf)) dX11_lay_24
  · have hf := nm_it c1 hf
    refine lv_iload_n hx hb dX11_lay_9 rfl (lv_at hl 2 rfl) ?_
    refine lv_bipush (v := 64) hx hb dX11_lay_10 (by decide) ?_
    refine nm_calli (nm_runS (X := X) (nl := nl) (k_X11_outside hL hN (hf := (rfl : f_X11_outside x2 (64 : Int32) = _))) hx hb hml hown hts hs0 hK hZ hH tw_321 tw_319 tw_320 tw_1 hd_X11_outside rfl rfl ⟨Nat.le_trans (Nat.le_of_ble_eq_true rfl) hRf, Nat.le_trans (Nat.le_of_ble_eq_true rfl) hRl⟩ rfl hl.1 rfl (Nat.le_of_ble_eq_true rfl) dX11_lay_12 ⟨Nat.zero_le _, Nat.zero_le _⟩) hH (fun H locs hH => ?_)
    have hH : nm_H D Y (fun q => s0 ≤ q) s.heap X nl ad (M.1, M.2, N, K) H locs := hH
    refine lv_if_eq (tgt := 25) hx hb dX11_lay_15 (by decide) (fun c5 => ?_) (fun c5 => ?_)
    · have hf := nm_it c5 hf
      refine lv_aload_n hx hb dX11_lay_25 rfl (lv_at hl 0 rfl) ?_
      refine gf_11_1 hK hx hb hts hown hH (cl_n0 hL) (cl_k0 hL) (hts _ tw_288) (fun _ h9 => h9) dX11_lay_26 ?_
      refine gf_3_0 hK hx hb hts hown hH (cl_n100 hL) (cl_k100 hL) (hts _ tw_84) (fun _ h9 => h9) dX11_lay_29 ?_
      refine lv_if_ne (tgt := 42) hx hb dX11_lay_32 (by decide) (fun c6 => ?_) (fun c6 => ?_)
      · have hf := nm_ie c6 hf
        refine lv_aload_n hx hb dX11_lay_42 rfl (lv_at hl 0 rfl) ?_
        refine lv_aload_n hx hb dX11_lay_43 rfl (lv_at hl 0 rfl) ?_
        refine gf_11_1 hK hx hb hts hown hH (cl_n0 hL) (cl_k0 hL) (hts _ tw_288) (fun _ h9 => h9) dX11_lay_44 ?_
        refine gf_3_1 hK hx hb hts hown hH (cl_n100 hL) (cl_k100 hL) (hts _ tw_88) (fun _ h9 => h9) dX11_lay_47 ?_
        refine lv_bipush (v := 64) hx hb dX11_lay_50 (by decide) ?_
        refine lv_iload_n hx hb dX11_lay_52 rfl (lv_at hl 1 rfl) ?_
        refine lv_imul hx hb dX11_lay_53 ?_
        refine lv_iload_n hx hb dX11_lay_54 rfl (lv_at hl 2 rfl) ?_
        refine lv_iadd hx hb dX11_lay_55 ?_
        obtain ⟨hi7, hf⟩ := nm_chk hf
        refine nm_lald hx hb hK hH (cl_n101 hL) (cl_k101 hL) (cl_l101 hN) hi7 dX11_lay_56 ?_
        obtain ⟨M8, eM8, hf⟩ := nm_let hf
        refine pf_11_7 hK hx hb hts hown hH (cl_n0 hL) (cl_k0 hL) (hts _ tw_294) (fun _ h9 => h9) dX11_lay_57 (fun H locs hH => ?_)
        have hH : nm_H D Y (fun q => s0 ≤ q) s.heap X nl ad (M8.1, M8.2, N, K) H locs := by rw [eM8]; exact hH
        refine lv_aload_n hx hb dX11_lay_60 rfl (lv_at hl 0 rfl) ?_
        refine lv_iconst (v := 1) hx hb dX11_lay_61 (by decide) ?_
        obtain ⟨M9, eM9, hf⟩ := nm_let hf
        refine pf_11_8 hK hx hb hts hown hH (cl_n0 hL) (cl_k0 hL) (hts _ tw_295) (fun _ h9 => h9) rfl rfl dX11_lay_62 (fun H locs hH => ?_)
        have hH : nm_H D Y (fun q => s0 ≤ q) s.heap X nl ad (M9.1, M9.2, N, K) H locs := by rw [eM9]; exact hH
        refine lv_aload_n hx hb dX11_lay_65 rfl (lv_at hl 0 rfl) ?_
        refine gf_11_7 hK hx hb hts hown hH (cl_n0 hL) (cl_k0 hL) (hts _ tw_294) (fun _ h9 => h9) dX11_lay_66 ?_
        refine nm_calli (nm_runS (X := X) (nl := nl) (k_J13_bitCount_95d88 hL hN (hf := (rfl : f_J13_bitCount_95d88 (M9.2 0 7) = _))) hx hb hml hown hts hs0 hK hZ hH tw_611 tw_929 tw_610 tw_17 hd_J13_bitCount_95d88 rfl rfl ⟨Nat.le_trans (Nat.le_of_ble_eq_true rfl) hRf, Nat.le_trans (Nat.le_of_ble_eq_true rfl) hRl⟩ rfl hl.1 rfl (Nat.le_of_ble_eq_true rfl) dX11_lay_69 ⟨Nat.zero_le _, Nat.zero_le _⟩) hH (fun H locs hH => ?_)
        have hH : nm_H D Y (fun q => s0 ≤ q) s.heap X nl ad (M9.1, M9.2, N, K) H locs := hH
        exact nm_iret hx hb hr hlocks hQ hH (congrArg Prod.fst (Option.some.inj hf)) (congrArg (fun q => (q.2.1, q.2.2, N, K)) (Option.some.inj hf)) dX11_lay_72
      · have hf := nm_it c6 hf
        refine lv_aload_n hx hb dX11_lay_35 rfl (lv_at hl 0 rfl) ?_
        refine lv_bipush (v := -2) hx hb dX11_lay_36 (by decide) ?_
        obtain ⟨r12, M10, hc11, hf⟩ := nm_sd2 hf
        refine nm_calli (nm_runV (X := X) (nl := nl) (k_X11_refuse hL hN (hf := hc11)) hx hb hml hown hts hs0 hK hZ hH tw_325 tw_322 tw_324 (sw_X11_refuse) tw_1 hd_X11_refuse (cl_n0 hL) (cl_k0 hL) (by decide) rfl rfl rfl ⟨Nat.le_trans (Nat.le_of_ble_eq_true rfl) hRf, Nat.le_trans (Nat.le_of_ble_eq_true rfl) hRl⟩ rfl hl.1 rfl (Nat.le_of_ble_eq_true rfl) dX11_lay_38 ⟨Nat.zero_le _, Nat.zero_le _⟩) hH (fun H locs hH => ?_)
        have hH : nm_H D Y (fun q => s0 ≤ q) s.heap X nl ad (M10.1, M10.2, N, K) H locs := hH
        exact nm_iret hx hb hr hlocks hQ hH (congrArg Prod.fst (Option.some.inj hf)) (congrArg (fun q => (q.2.1, q.2.2, N, K)) (Option.some.inj hf)) dX11_lay_41
    · have hf := nm_ie c5 hf
      refine lv_aload_n hx hb dX11_lay_18 rfl (lv_at hl 0 rfl) ?_
      refine lv_bipush (v := -3) hx hb dX11_lay_19 (by decide) ?_
      obtain ⟨r15, M13, hc14, hf⟩ := nm_sd2 hf
      refine nm_calli (nm_runV (X := X) (nl := nl) (k_X11_refuse hL hN (hf := hc14)) hx hb hml hown hts hs0 hK hZ hH tw_325 tw_322 tw_324 (sw_X11_refuse) tw_1 hd_X11_refuse (cl_n0 hL) (cl_k0 hL) (by decide) rfl rfl rfl ⟨Nat.le_trans (Nat.le_of_ble_eq_true rfl) hRf, Nat.le_trans (Nat.le_of_ble_eq_true rfl) hRl⟩ rfl hl.1 rfl (Nat.le_of_ble_eq_true rfl) dX11_lay_21 ⟨Nat.zero_le _, Nat.zero_le _⟩) hH (fun H locs hH => ?_)
      have hH : nm_H D Y (fun q => s0 ≤ q) s.heap X nl ad (M13.1, M13.2, N, K) H locs := hH
      exact nm_iret hx hb hr hlocks hQ hH (congrArg Prod.fst (Option.some.inj hf)) (congrArg (fun q => (q.2.1, q.2.2, N, K)) (Option.some.inj hf)) dX11_lay_24
def f_X11_tear (M : cm) : Option (Int32 × cm) :=
(if (M.1 0 8) = 0 then
nm_l ((nm_up M.1 0 8 (0 : Int32), M.2)) fun M2 =>
some ((0 : Int32), M2)
else
nm_l ((nm_up M.1 0 8 (0 : Int32), M.2)) fun M3 =>
some ((1 : Int32), M3))
set_option maxHeartbeats 4000000 in
set_option maxRecDepth 100000 in
theorem k_X11_tear {l : Launch} {D : va_G} {Y : nm_Y} {s0 : Nat} {X : va_W} {ad : Nat → Nat} {nl : List Nat} {N K : Nat → Nat} (hL : cl_L nl K) (hN : cl_N N) {M : cm} {r0 : Int32} {M0 : cm} (hf : f_X11_tear M = some (r0, M0)) :
    nm_Met l yX11_tear cX11_tear 2 (some .int) { frames := 0, cells := 0, slots := 0, locals := 0 } [.ref (ad 0)] D Y s0 (nm_W Y X nl ad (M.1, M.2, N, K)) (nm_Qi D s0 r0 (nm_W Y X nl ad (M0.1, M0.2, N, K))) 0 0 := by
  refine nm_of (by decide) (Nat.le_of_ble_eq_true rfl) ?_
  intro p e R s m args below meth c Q ls hx hb hr hlocks hml hown hts hs0 hK hZ hRf hRl hRc hRs hQ hP hD hl
  have hH : nm_H D Y (fun q => s0 ≤ q) s.heap X nl ad (M.1, M.2, N, K) s.heap [] := ⟨hP, hD, va_S.rf⟩
  have hl : lv_has ls 2 [(0, .ref (ad 0))] := hl
  unfold f_X11_tear at hf
  refine lv_aload_n hx hb dX11_tear_0 rfl (lv_at hl 0 rfl) ?_
  refine gf_11_8 hK hx hb hts hown hH (cl_n0 hL) (cl_k0 hL) (hts _ tw_295) (fun _ h9 => h9) dX11_tear_1 ?_
  refine lv_if_eq (tgt := 11) hx hb dX11_tear_4 (by decide) (fun c1 => ?_) (fun c1 => ?_)
  · have hf := nm_it c1 hf
    refine lv_iconst (v := 0) hx hb dX11_tear_11 (by decide) ?_
    refine lv_istore_n (lv' := [(1, .int (0 : Int32)), (0, .ref (ad 0))]) hx hb dX11_tear_12 rfl hl (by decide) rfl (fun ls hl => ?_)
    refine lv_aload_n hx hb dX11_tear_13 rfl (lv_at hl 1 rfl) ?_
    refine lv_iconst (v := 0) hx hb dX11_tear_14 (by decide) ?_
    obtain ⟨M2, eM2, hf⟩ := nm_let hf
    refine pf_11_8 hK hx hb hts hown hH (cl_n0 hL) (cl_k0 hL) (hts _ tw_295) (fun _ h9 => h9) rfl rfl dX11_tear_15 (fun H locs hH => ?_)
    have hH : nm_H D Y (fun q => s0 ≤ q) s.heap X nl ad (M2.1, M2.2, N, K) H locs := by rw [eM2]; exact hH
    refine lv_iload_n hx hb dX11_tear_18 rfl (lv_at hl 0 rfl) ?_
    exact nm_iret hx hb hr hlocks hQ hH (congrArg Prod.fst (Option.some.inj hf)) (congrArg (fun q => (q.2.1, q.2.2, N, K)) (Option.some.inj hf)) dX11_tear_19
  · have hf := nm_ie c1 hf
    refine lv_iconst (v := 1) hx hb dX11_tear_7 (by decide) ?_
    refine lv_goto (tgt := 12) hx hb dX11_tear_8 (by decide) ?_
    refine lv_istore_n (lv' := [(1, .int (1 : Int32)), (0, .ref (ad 0))]) hx hb dX11_tear_12 rfl hl (by decide) rfl (fun ls hl => ?_)
    refine lv_aload_n hx hb dX11_tear_13 rfl (lv_at hl 1 rfl) ?_
    refine lv_iconst (v := 0) hx hb dX11_tear_14 (by decide) ?_
    obtain ⟨M3, eM3, hf⟩ := nm_let hf
    refine pf_11_8 hK hx hb hts hown hH (cl_n0 hL) (cl_k0 hL) (hts _ tw_295) (fun _ h9 => h9) rfl rfl dX11_tear_15 (fun H locs hH => ?_)
    have hH : nm_H D Y (fun q => s0 ≤ q) s.heap X nl ad (M3.1, M3.2, N, K) H locs := by rw [eM3]; exact hH
    refine lv_iload_n hx hb dX11_tear_18 rfl (lv_at hl 0 rfl) ?_
    exact nm_iret hx hb hr hlocks hQ hH (congrArg Prod.fst (Option.some.inj hf)) (congrArg (fun q => (q.2.1, q.2.2, N, K)) (Option.some.inj hf)) dX11_tear_19
def f_X11_row (x1 : Int32) (M : cm) : Option (Int32 × cm) :=
(if (M.1 0 8) = 0 then
nm_s2 (f_X11_refuse (-2 : Int32) M) fun r8 M6 =>
some (r8, M6)
else
(if (f_X11_outside x1 (64 : Int32)) = 0 then
some (((nm_shr (M.2 0 7) x1) &&& (1 : Int64)).toInt32, M)
else
nm_s2 (f_X11_refuse (-3 : Int32) M) fun r5 M3 =>
some (r5, M3)))
set_option maxHeartbeats 4000000 in
set_option maxRecDepth 100000 in
theorem k_X11_row {l : Launch} {D : va_G} {Y : nm_Y} {s0 : Nat} {X : va_W} {ad : Nat → Nat} {nl : List Nat} {N K : Nat → Nat} (hL : cl_L nl K) (hN : cl_N N) {x1 : Int32} {M : cm} {r0 : Int32} {M0 : cm} (hf : f_X11_row x1 M = some (r0, M0)) :
    nm_Met l yX11_row cX11_row 2 (some .int) { frames := 1, cells := 0, slots := 0, locals := 21 } [.ref (ad 0), .int x1] D Y s0 (nm_W Y X nl ad (M.1, M.2, N, K)) (nm_Qi D s0 r0 (nm_W Y X nl ad (M0.1, M0.2, N, K))) 0 0 := by
  refine nm_of (by decide) (Nat.le_of_ble_eq_true rfl) ?_
  intro p e R s m args below meth c Q ls hx hb hr hlocks hml hown hts hs0 hK hZ hRf hRl hRc hRs hQ hP hD hl
  have hH : nm_H D Y (fun q => s0 ≤ q) s.heap X nl ad (M.1, M.2, N, K) s.heap [] := ⟨hP, hD, va_S.rf⟩
  have hl : lv_has ls 2 [(0, .ref (ad 0)), (1, .int x1)] := hl
  unfold f_X11_row at hf
  refine lv_aload_n hx hb dX11_row_0 rfl (lv_at hl 0 rfl) ?_
  refine gf_11_8 hK hx hb hts hown hH (cl_n0 hL) (cl_k0 hL) (hts _ tw_295) (fun _ h9 => h9) dX11_row_1 ?_
  refine lv_if_ne (tgt := 14) hx hb dX11_row_4 (by decide) (fun c1 => ?_) (fun c1 => ?_)
  · have hf := nm_ie c1 hf
    refine lv_iload_n hx hb dX11_row_14 rfl (lv_at hl 1 rfl) ?_
    refine lv_bipush (v := 64) hx hb dX11_row_15 (by decide) ?_
    refine nm_calli (nm_runS (X := X) (nl := nl) (k_X11_outside hL hN (hf := (rfl : f_X11_outside x1 (64 : Int32) = _))) hx hb hml hown hts hs0 hK hZ hH tw_321 tw_319 tw_320 tw_1 hd_X11_outside rfl rfl ⟨Nat.le_trans (Nat.le_of_ble_eq_true rfl) hRf, Nat.le_trans (Nat.le_of_ble_eq_true rfl) hRl⟩ rfl hl.1 rfl (Nat.le_of_ble_eq_true rfl) dX11_row_17 ⟨Nat.zero_le _, Nat.zero_le _⟩) hH (fun H locs hH => ?_)
    have hH : nm_H D Y (fun q => s0 ≤ q) s.heap X nl ad (M.1, M.2, N, K) H locs := hH
    refine lv_if_eq (tgt := 32) hx hb dX11_row_20 (by decide) (fun c2 => ?_) (fun c2 => ?_)
    · have hf := nm_it c2 hf
      refine lv_aload_n hx hb dX11_row_32 rfl (lv_at hl 0 rfl) ?_
      refine gf_11_7 hK hx hb hts hown hH (cl_n0 hL) (cl_k0 hL) (hts _ tw_294) (fun _ h9 => h9) dX11_row_33 ?_
      refine lv_iload_n hx hb dX11_row_36 rfl (lv_at hl 1 rfl) ?_
      refine lv_lushr (v := nm_shr (M.2 0 7) x1) hx hb dX11_row_37 rfl ?_
      refine lv_lconst (v := 1) hx hb dX11_row_38 (by decide) ?_
      refine lv_land hx hb dX11_row_39 ?_
      refine lv_l2i hx hb dX11_row_40 rfl ?_
      exact nm_iret hx hb hr hlocks hQ hH (congrArg Prod.fst (Option.some.inj hf)) (congrArg (fun q => (q.2.1, q.2.2, N, K)) (Option.some.inj hf)) dX11_row_41
    · have hf := nm_ie c2 hf
      refine lv_aload_n hx hb dX11_row_23 rfl (lv_at hl 0 rfl) ?_
      refine lv_bipush (v := -3) hx hb dX11_row_24 (by decide) ?_
      obtain ⟨r5, M3, hc4, hf⟩ := nm_sd2 hf
      refine nm_calli (nm_runV (X := X) (nl := nl) (k_X11_refuse hL hN (hf := hc4)) hx hb hml hown hts hs0 hK hZ hH tw_325 tw_322 tw_324 (sw_X11_refuse) tw_1 hd_X11_refuse (cl_n0 hL) (cl_k0 hL) (by decide) rfl rfl rfl ⟨Nat.le_trans (Nat.le_of_ble_eq_true rfl) hRf, Nat.le_trans (Nat.le_of_ble_eq_true rfl) hRl⟩ rfl hl.1 rfl (Nat.le_of_ble_eq_true rfl) dX11_row_26 ⟨Nat.zero_le _, Nat.zero_le _⟩) hH (fun H locs hH => ?_)
      have hH : nm_H D Y (fun q => s0 ≤ q) s.heap X nl ad (M3.1, M3.2, N, K) H locs := hH
      refine lv_goto (tgt := 41) hx hb dX11_row_29 (by decide) ?_
      exact nm_iret hx hb hr hlocks hQ hH (congrArg Prod.fst (Option.some.inj hf)) (congrArg (fun q => (q.2.1, q.2.2, N, K)) (Option.some.inj hf)) dX11_row_41
  · have hf := nm_it c1 hf
    refine lv_aload_n hx hb dX11_row_7 rfl (lv_at hl 0 rfl) ?_
    refine lv_bipush (v := -2) hx hb dX11_row_8 (by decide) ?_
    obtain ⟨r8, M6, hc7, hf⟩ := nm_sd2 hf
    refine nm_calli (nm_runV (X := X) (nl := nl) (k_X11_refuse hL hN (hf := hc7)) hx hb hml hown hts hs0 hK hZ hH tw_325 tw_322 tw_324 (sw_X11_refuse) tw_1 hd_X11_refuse (cl_n0 hL) (cl_k0 hL) (by decide) rfl rfl rfl ⟨Nat.le_trans (Nat.le_of_ble_eq_true rfl) hRf, Nat.le_trans (Nat.le_of_ble_eq_true rfl) hRl⟩ rfl hl.1 rfl (Nat.le_of_ble_eq_true rfl) dX11_row_10 ⟨Nat.zero_le _, Nat.zero_le _⟩) hH (fun H locs hH => ?_)
    have hH : nm_H D Y (fun q => s0 ≤ q) s.heap X nl ad (M6.1, M6.2, N, K) H locs := hH
    exact nm_iret hx hb hr hlocks hQ hH (congrArg Prod.fst (Option.some.inj hf)) (congrArg (fun q => (q.2.1, q.2.2, N, K)) (Option.some.inj hf)) dX11_row_13
def f_X11_copy (x1 : Int32) (x2 : Int32) (x3 : Int32) (M : cm) : Option (Int32 × cm) :=
(if (M.1 0 8) = 0 then
nm_s2 (f_X11_refuse (-2 : Int32) M) fun r30 M28 =>
some (r30, M28)
else
(if 0 ≤ x3 then
(if x1 < 0 then
nm_s2 (f_X11_refuse (-6 : Int32) M) fun r6 M4 =>
some (r6, M4)
else
(if x2 < 0 then
nm_s2 (f_X11_refuse (-6 : Int32) M) fun r10 M8 =>
some (r10, M8)
else
(if (64 : Int32) < x3 then
nm_s2 (f_X11_refuse (-6 : Int32) M) fun r14 M12 =>
some (r14, M12)
else
(if ((64 : Int32) - x3) < x1 then
nm_s2 (f_X11_refuse (-6 : Int32) M) fun r18 M16 =>
some (r18, M16)
else
(if x2 ≤ ((64 : Int32) - x3) then
nm_l ((nm_shr (M.2 0 7) x1) &&& (f_X0_span (0 : Int32) x3)) fun v20 =>
nm_l ((M.1, nm_upJ M.2 0 7 (((M.2 0 7) &&& ((f_X0_span x2 x3) ^^^ (-1 : Int64))) ||| (nm_shl v20 x2)))) fun M21 =>
some (x3, M21)
else
nm_s2 (f_X11_refuse (-6 : Int32) M) fun r24 M22 =>
some (r24, M22))))))
else
nm_s2 (f_X11_refuse (-4 : Int32) M) fun r27 M25 =>
some (r27, M25)))
set_option maxHeartbeats 4000000 in
set_option maxRecDepth 100000 in
theorem k_X11_copy {l : Launch} {D : va_G} {Y : nm_Y} {s0 : Nat} {X : va_W} {ad : Nat → Nat} {nl : List Nat} {N K : Nat → Nat} (hL : cl_L nl K) (hN : cl_N N) {x1 : Int32} {x2 : Int32} {x3 : Int32} {M : cm} {r0 : Int32} {M0 : cm} (hf : f_X11_copy x1 x2 x3 M = some (r0, M0)) :
    nm_Met l yX11_copy cX11_copy 6 (some .int) { frames := 1, cells := 0, slots := 0, locals := 21 } [.ref (ad 0), .int x1, .int x2, .int x3] D Y s0 (nm_W Y X nl ad (M.1, M.2, N, K)) (nm_Qi D s0 r0 (nm_W Y X nl ad (M0.1, M0.2, N, K))) 0 0 := by
  refine nm_of (by decide) (Nat.le_of_ble_eq_true rfl) ?_
  intro p e R s m args below meth c Q ls hx hb hr hlocks hml hown hts hs0 hK hZ hRf hRl hRc hRs hQ hP hD hl
  have hH : nm_H D Y (fun q => s0 ≤ q) s.heap X nl ad (M.1, M.2, N, K) s.heap [] := ⟨hP, hD, va_S.rf⟩
  have hl : lv_has ls 6 [(0, .ref (ad 0)), (1, .int x1), (2, .int x2), (3, .int x3)] := hl
  unfold f_X11_copy at hf
  refine lv_aload_n hx hb dX11_copy_0 rfl (lv_at hl 0 rfl) ?_
  refine gf_11_8 hK hx hb hts hown hH (cl_n0 hL) (cl_k0 hL) (hts _ tw_295) (fun _ h9 => h9) dX11_copy_1 ?_
  refine lv_if_ne (tgt := 14) hx hb dX11_copy_4 (by decide) (fun c1 => ?_) (fun c1 => ?_)
  · have hf := nm_ie c1 hf
    refine lv_iload_n hx hb dX11_copy_14 rfl (lv_at hl 3 rfl) ?_
    refine lv_if_ge (tgt := 25) hx hb dX11_copy_15 (by decide) (fun c2 => ?_) (fun c2 => ?_)
    · have hf := nm_it c2 hf
      refine lv_iload_n hx hb dX11_copy_25 rfl (lv_at hl 1 rfl) ?_
      refine lv_if_lt (tgt := 55) hx hb dX11_copy_26 (by decide) (fun c3 => ?_) (fun c3 => ?_)
      · have hf := nm_it c3 hf
        refine lv_aload_n hx hb dX11_copy_55 rfl (lv_at hl 0 rfl) ?_
        refine lv_bipush (v := -6) hx hb dX11_copy_56 (by decide) ?_
        obtain ⟨r6, M4, hc5, hf⟩ := nm_sd2 hf
        refine nm_calli (nm_runV (X := X) (nl := nl) (k_X11_refuse hL hN (hf := hc5)) hx hb hml hown hts hs0 hK hZ hH tw_325 tw_322 tw_324 (sw_X11_refuse) tw_1 hd_X11_refuse (cl_n0 hL) (cl_k0 hL) (by decide) rfl rfl rfl ⟨Nat.le_trans (Nat.le_of_ble_eq_true rfl) hRf, Nat.le_trans (Nat.le_of_ble_eq_true rfl) hRl⟩ rfl hl.1 rfl (Nat.le_of_ble_eq_true rfl) dX11_copy_58 ⟨Nat.zero_le _, Nat.zero_le _⟩) hH (fun H locs hH => ?_)
        have hH : nm_H D Y (fun q => s0 ≤ q) s.heap X nl ad (M4.1, M4.2, N, K) H locs := hH
        exact nm_iret hx hb hr hlocks hQ hH (congrArg Prod.fst (Option.some.inj hf)) (congrArg (fun q => (q.2.1, q.2.2, N, K)) (Option.some.inj hf)) dX11_copy_61
      · have hf := nm_ie c3 hf
        refine lv_iload_n hx hb dX11_copy_29 rfl (lv_at hl 2 rfl) ?_
        refine lv_if_lt (tgt := 55) hx hb dX11_copy_30 (by decide) (fun c7 => ?_) (fun c7 => ?_)
        · have hf := nm_it c7 hf
          refine lv_aload_n hx hb dX11_copy_55 rfl (lv_at hl 0 rfl) ?_
          refine lv_bipush (v := -6) hx hb dX11_copy_56 (by decide) ?_
          obtain ⟨r10, M8, hc9, hf⟩ := nm_sd2 hf
          refine nm_calli (nm_runV (X := X) (nl := nl) (k_X11_refuse hL hN (hf := hc9)) hx hb hml hown hts hs0 hK hZ hH tw_325 tw_322 tw_324 (sw_X11_refuse) tw_1 hd_X11_refuse (cl_n0 hL) (cl_k0 hL) (by decide) rfl rfl rfl ⟨Nat.le_trans (Nat.le_of_ble_eq_true rfl) hRf, Nat.le_trans (Nat.le_of_ble_eq_true rfl) hRl⟩ rfl hl.1 rfl (Nat.le_of_ble_eq_true rfl) dX11_copy_58 ⟨Nat.zero_le _, Nat.zero_le _⟩) hH (fun H locs hH => ?_)
          have hH : nm_H D Y (fun q => s0 ≤ q) s.heap X nl ad (M8.1, M8.2, N, K) H locs := hH
          exact nm_iret hx hb hr hlocks hQ hH (congrArg Prod.fst (Option.some.inj hf)) (congrArg (fun q => (q.2.1, q.2.2, N, K)) (Option.some.inj hf)) dX11_copy_61
        · have hf := nm_ie c7 hf
          refine lv_iload_n hx hb dX11_copy_33 rfl (lv_at hl 3 rfl) ?_
          refine lv_bipush (v := 64) hx hb dX11_copy_34 (by decide) ?_
          refine lv_icmp_gt (tgt := 55) hx hb dX11_copy_36 (by decide) (fun c11 => ?_) (fun c11 => ?_)
          · have hf := nm_it c11 hf
            refine lv_aload_n hx hb dX11_copy_55 rfl (lv_at hl 0 rfl) ?_
            refine lv_bipush (v := -6) hx hb dX11_copy_56 (by decide) ?_
            obtain ⟨r14, M12, hc13, hf⟩ := nm_sd2 hf
            refine nm_calli (nm_runV (X := X) (nl := nl) (k_X11_refuse hL hN (hf := hc13)) hx hb hml hown hts hs0 hK hZ hH tw_325 tw_322 tw_324 (sw_X11_refuse) tw_1 hd_X11_refuse (cl_n0 hL) (cl_k0 hL) (by decide) rfl rfl rfl ⟨Nat.le_trans (Nat.le_of_ble_eq_true rfl) hRf, Nat.le_trans (Nat.le_of_ble_eq_true rfl) hRl⟩ rfl hl.1 rfl (Nat.le_of_ble_eq_true rfl) dX11_copy_58 ⟨Nat.zero_le _, Nat.zero_le _⟩) hH (fun H locs hH => ?_)
            have hH : nm_H D Y (fun q => s0 ≤ q) s.heap X nl ad (M12.1, M12.2, N, K) H locs := hH
            exact nm_iret hx hb hr hlocks hQ hH (congrArg Prod.fst (Option.some.inj hf)) (congrArg (fun q => (q.2.1, q.2.2, N, K)) (Option.some.inj hf)) dX11_copy_61
          · have hf := nm_ie c11 hf
            refine lv_iload_n hx hb dX11_copy_39 rfl (lv_at hl 1 rfl) ?_
            refine lv_bipush (v := 64) hx hb dX11_copy_40 (by decide) ?_
            refine lv_iload_n hx hb dX11_copy_42 rfl (lv_at hl 3 rfl) ?_
            refine lv_isub hx hb dX11_copy_43 ?_
            refine lv_icmp_gt (tgt := 55) hx hb dX11_copy_44 (by decide) (fun c15 => ?_) (fun c15 => ?_)
            · have hf := nm_it c15 hf
              refine lv_aload_n hx hb dX11_copy_55 rfl (lv_at hl 0 rfl) ?_
              refine lv_bipush (v := -6) hx hb dX11_copy_56 (by decide) ?_
              obtain ⟨r18, M16, hc17, hf⟩ := nm_sd2 hf
              refine nm_calli (nm_runV (X := X) (nl := nl) (k_X11_refuse hL hN (hf := hc17)) hx hb hml hown hts hs0 hK hZ hH tw_325 tw_322 tw_324 (sw_X11_refuse) tw_1 hd_X11_refuse (cl_n0 hL) (cl_k0 hL) (by decide) rfl rfl rfl ⟨Nat.le_trans (Nat.le_of_ble_eq_true rfl) hRf, Nat.le_trans (Nat.le_of_ble_eq_true rfl) hRl⟩ rfl hl.1 rfl (Nat.le_of_ble_eq_true rfl) dX11_copy_58 ⟨Nat.zero_le _, Nat.zero_le _⟩) hH (fun H locs hH => ?_)
              have hH : nm_H D Y (fun q => s0 ≤ q) s.heap X nl ad (M16.1, M16.2, N, K) H locs := hH
              exact nm_iret hx hb hr hlocks hQ hH (congrArg Prod.fst (Option.some.inj hf)) (congrArg (fun q => (q.2.1, q.2.2, N, K)) (Option.some.inj hf)) dX11_copy_61
            · have hf := nm_ie c15 hf
              refine lv_iload_n hx hb dX11_copy_47 rfl (lv_at hl 2 rfl) ?_
              refine lv_bipush (v := 64) hx hb dX11_copy_48 (by decide) ?_
              refine lv_iload_n hx hb dX11_copy_50 rfl (lv_at hl 3 rfl) ?_
              refine lv_isub hx hb dX11_copy_51 ?_
              refine lv_icmp_le (tgt := 62) hx hb dX11_copy_52 (by decide) (fun c19 => ?_) (fun c19 => ?_)
              · have hf := nm_it c19 hf
                refine lv_aload_n hx hb dX11_copy_62 rfl (lv_at hl 0 rfl) ?_
                refine gf_11_7 hK hx hb hts hown hH (cl_n0 hL) (cl_k0 hL) (hts _ tw_294) (fun _ h9 => h9) dX11_copy_63 ?_
                refine lv_iload_n hx hb dX11_copy_66 rfl (lv_at hl 1 rfl) ?_
                refine lv_lushr (v := nm_shr (M.2 0 7) x1) hx hb dX11_copy_67 rfl ?_
                refine lv_iconst (v := 0) hx hb dX11_copy_68 (by decide) ?_
                refine lv_iload_n hx hb dX11_copy_69 rfl (lv_at hl 3 rfl) ?_
                refine nm_calll (nm_runS (X := X) (nl := nl) (k_X0_span hL hN (hf := (rfl : f_X0_span (0 : Int32) x3 = _))) hx hb hml hown hts hs0 hK hZ hH tw_378 tw_942 tw_377 tw_13 hd_X0_span rfl rfl ⟨Nat.le_trans (Nat.le_of_ble_eq_true rfl) hRf, Nat.le_trans (Nat.le_of_ble_eq_true rfl) hRl⟩ rfl hl.1 rfl (Nat.le_of_ble_eq_true rfl) dX11_copy_70 ⟨Nat.zero_le _, Nat.zero_le _⟩) hH (fun H locs hH => ?_)
                have hH : nm_H D Y (fun q => s0 ≤ q) s.heap X nl ad (M.1, M.2, N, K) H locs := hH
                refine lv_land hx hb dX11_copy_73 ?_
                obtain ⟨v20, ev20, hf⟩ := nm_let hf
                refine nm_topl ev20 ?_
                refine lv_lstore (lv' := [(4, .long v20), (0, .ref (ad 0)), (1, .int x1), (2, .int x2), (3, .int x3)]) hx hb dX11_copy_74 hl (by decide) rfl (fun ls hl => ?_)
                refine lv_aload_n hx hb dX11_copy_76 rfl (lv_at hl 1 rfl) ?_
                refine lv_aload_n hx hb dX11_copy_77 rfl (lv_at hl 1 rfl) ?_
                refine gf_11_7 hK hx hb hts hown hH (cl_n0 hL) (cl_k0 hL) (hts _ tw_294) (fun _ h9 => h9) dX11_copy_78 ?_
                refine lv_iload_n hx hb dX11_copy_81 rfl (lv_at hl 3 rfl) ?_
                refine lv_iload_n hx hb dX11_copy_82 rfl (lv_at hl 4 rfl) ?_
                refine nm_calll (nm_runS (X := X) (nl := nl) (k_X0_span hL hN (hf := (rfl : f_X0_span x2 x3 = _))) hx hb hml hown hts hs0 hK hZ hH tw_378 tw_942 tw_377 tw_13 hd_X0_span rfl rfl ⟨Nat.le_trans (Nat.le_of_ble_eq_true rfl) hRf, Nat.le_trans (Nat.le_of_ble_eq_true rfl) hRl⟩ rfl hl.1 rfl (Nat.le_of_ble_eq_true rfl) dX11_copy_83 ⟨Nat.zero_le _, Nat.zero_le _⟩) hH (fun H locs hH => ?_)
                have hH : nm_H D Y (fun q => s0 ≤ q) s.heap X nl ad (M.1, M.2, N, K) H locs := hH
                refine lv_ldc2 hx hb hown (hts _ tw_943) dX11_copy_86 ?_
                refine lv_lxor hx hb dX11_copy_89 ?_
                refine lv_land hx hb dX11_copy_90 ?_
                refine lv_lload hx hb dX11_copy_91 (lv_at hl 0 rfl) ?_
                refine lv_iload_n hx hb dX11_copy_93 rfl (lv_at hl 3 rfl) ?_
                refine lv_lshl (v := nm_shl v20 x2) hx hb dX11_copy_94 rfl ?_
                refine lv_lor hx hb dX11_copy_95 ?_
                obtain ⟨M21, eM21, hf⟩ := nm_let hf
                refine pf_11_7 hK hx hb hts hown hH (cl_n0 hL) (cl_k0 hL) (hts _ tw_294) (fun _ h9 => h9) dX11_copy_96 (fun H locs hH => ?_)
                have hH : nm_H D Y (fun q => s0 ≤ q) s.heap X nl ad (M21.1, M21.2, N, K) H locs := by rw [eM21]; exact hH
                refine lv_iload_n hx hb dX11_copy_99 rfl (lv_at hl 4 rfl) ?_
                exact nm_iret hx hb hr hlocks hQ hH (congrArg Prod.fst (Option.some.inj hf)) (congrArg (fun q => (q.2.1, q.2.2, N, K)) (Option.some.inj hf)) dX11_copy_100
              · have hf := nm_ie c19 hf
                refine lv_aload_n hx hb dX11_copy_55 rfl (lv_at hl 0 rfl) ?_
                refine lv_bipush (v := -6) hx hb dX11_copy_56 (by decide) ?_
                obtain ⟨r24, M22, hc23, hf⟩ := nm_sd2 hf
                refine nm_calli (nm_runV (X := X) (nl := nl) (k_X11_refuse hL hN (hf := hc23)) hx hb hml hown hts hs0 hK hZ hH tw_325 tw_322 tw_324 (sw_X11_refuse) tw_1 hd_X11_refuse (cl_n0 hL) (cl_k0 hL) (by decide) rfl rfl rfl ⟨Nat.le_trans (Nat.le_of_ble_eq_true rfl) hRf, Nat.le_trans (Nat.le_of_ble_eq_true rfl) hRl⟩ rfl hl.1 rfl (Nat.le_of_ble_eq_true rfl) dX11_copy_58 ⟨Nat.zero_le _, Nat.zero_le _⟩) hH (fun H locs hH => ?_)
                have hH : nm_H D Y (fun q => s0 ≤ q) s.heap X nl ad (M22.1, M22.2, N, K) H locs := hH
                exact nm_iret hx hb hr hlocks hQ hH (congrArg Prod.fst (Option.some.inj hf)) (congrArg (fun q => (q.2.1, q.2.2, N, K)) (Option.some.inj hf)) dX11_copy_61
    · have hf := nm_ie c2 hf
      refine lv_aload_n hx hb dX11_copy_18 rfl (lv_at hl 0 rfl) ?_
      refine lv_bipush (v := -4) hx hb dX11_copy_19 (by decide) ?_
      obtain ⟨r27, M25, hc26, hf⟩ := nm_sd2 hf
      refine nm_calli (nm_runV (X := X) (nl := nl) (k_X11_refuse hL hN (hf := hc26)) hx hb hml hown hts hs0 hK hZ hH tw_325 tw_322 tw_324 (sw_X11_refuse) tw_1 hd_X11_refuse (cl_n0 hL) (cl_k0 hL) (by decide) rfl rfl rfl ⟨Nat.le_trans (Nat.le_of_ble_eq_true rfl) hRf, Nat.le_trans (Nat.le_of_ble_eq_true rfl) hRl⟩ rfl hl.1 rfl (Nat.le_of_ble_eq_true rfl) dX11_copy_21 ⟨Nat.zero_le _, Nat.zero_le _⟩) hH (fun H locs hH => ?_)
      have hH : nm_H D Y (fun q => s0 ≤ q) s.heap X nl ad (M25.1, M25.2, N, K) H locs := hH
      exact nm_iret hx hb hr hlocks hQ hH (congrArg Prod.fst (Option.some.inj hf)) (congrArg (fun q => (q.2.1, q.2.2, N, K)) (Option.some.inj hf)) dX11_copy_24
  · have hf := nm_it c1 hf
    refine lv_aload_n hx hb dX11_copy_7 rfl (lv_at hl 0 rfl) ?_
    refine lv_bipush (v := -2) hx hb dX11_copy_8 (by decide) ?_
    obtain ⟨r30, M28, hc29, hf⟩ := nm_sd2 hf
    refine nm_calli (nm_runV (X := X) (nl := nl) (k_X11_refuse hL hN (hf := hc29)) hx hb hml hown hts hs0 hK hZ hH tw_325 tw_322 tw_324 (sw_X11_refuse) tw_1 hd_X11_refuse (cl_n0 hL) (cl_k0 hL) (by decide) rfl rfl rfl ⟨Nat.le_trans (Nat.le_of_ble_eq_true rfl) hRf, Nat.le_trans (Nat.le_of_ble_eq_true rfl) hRl⟩ rfl hl.1 rfl (Nat.le_of_ble_eq_true rfl) dX11_copy_10 ⟨Nat.zero_le _, Nat.zero_le _⟩) hH (fun H locs hH => ?_)
    have hH : nm_H D Y (fun q => s0 ≤ q) s.heap X nl ad (M28.1, M28.2, N, K) H locs := hH
    exact nm_iret hx hb hr hlocks hQ hH (congrArg Prod.fst (Option.some.inj hf)) (congrArg (fun q => (q.2.1, q.2.2, N, K)) (Option.some.inj hf)) dX11_copy_13
def f_X11_status (x1 : Int32) (M : cm) : Option (Int32 × cm) :=
(if (-2 : Int32) < x1 then
nm_s2 (f_X11_refuse (-7 : Int32) M) fun r4 M2 =>
some (r4, M2)
else
(if (-9 : Int32) ≤ x1 then
nm_c ((-2 : Int32) - x1) 8 (
some (M.1 2 ((-2 : Int32) - x1).toNatClampNeg, M))
else
nm_s2 (f_X11_refuse (-7 : Int32) M) fun r9 M7 =>
some (r9, M7)))
set_option maxHeartbeats 4000000 in
set_option maxRecDepth 100000 in
theorem k_X11_status {l : Launch} {D : va_G} {Y : nm_Y} {s0 : Nat} {X : va_W} {ad : Nat → Nat} {nl : List Nat} {N K : Nat → Nat} (hL : cl_L nl K) (hN : cl_N N) {x1 : Int32} {M : cm} {r0 : Int32} {M0 : cm} (hf : f_X11_status x1 M = some (r0, M0)) :
    nm_Met l yX11_status cX11_status 2 (some .int) { frames := 1, cells := 0, slots := 0, locals := 21 } [.ref (ad 0), .int x1] D Y s0 (nm_W Y X nl ad (M.1, M.2, N, K)) (nm_Qi D s0 r0 (nm_W Y X nl ad (M0.1, M0.2, N, K))) 0 0 := by
  refine nm_of (by decide) (Nat.le_of_ble_eq_true rfl) ?_
  intro p e R s m args below meth c Q ls hx hb hr hlocks hml hown hts hs0 hK hZ hRf hRl hRc hRs hQ hP hD hl
  have hH : nm_H D Y (fun q => s0 ≤ q) s.heap X nl ad (M.1, M.2, N, K) s.heap [] := ⟨hP, hD, va_S.rf⟩
  have hl : lv_has ls 2 [(0, .ref (ad 0)), (1, .int x1)] := hl
  unfold f_X11_status at hf
  refine lv_iload_n hx hb dX11_status_0 rfl (lv_at hl 1 rfl) ?_
  refine lv_bipush (v := -2) hx hb dX11_status_1 (by decide) ?_
  refine lv_icmp_gt (tgt := 12) hx hb dX11_status_3 (by decide) (fun c1 => ?_) (fun c1 => ?_)
  · have hf := nm_it c1 hf
    refine lv_aload_n hx hb dX11_status_12 rfl (lv_at hl 0 rfl) ?_
    refine lv_bipush (v := -7) hx hb dX11_status_13 (by decide) ?_
    obtain ⟨r4, M2, hc3, hf⟩ := nm_sd2 hf
    refine nm_calli (nm_runV (X := X) (nl := nl) (k_X11_refuse hL hN (hf := hc3)) hx hb hml hown hts hs0 hK hZ hH tw_325 tw_322 tw_324 (sw_X11_refuse) tw_1 hd_X11_refuse (cl_n0 hL) (cl_k0 hL) (by decide) rfl rfl rfl ⟨Nat.le_trans (Nat.le_of_ble_eq_true rfl) hRf, Nat.le_trans (Nat.le_of_ble_eq_true rfl) hRl⟩ rfl hl.1 rfl (Nat.le_of_ble_eq_true rfl) dX11_status_15 ⟨Nat.zero_le _, Nat.zero_le _⟩) hH (fun H locs hH => ?_)
    have hH : nm_H D Y (fun q => s0 ≤ q) s.heap X nl ad (M2.1, M2.2, N, K) H locs := hH
    exact nm_iret hx hb hr hlocks hQ hH (congrArg Prod.fst (Option.some.inj hf)) (congrArg (fun q => (q.2.1, q.2.2, N, K)) (Option.some.inj hf)) dX11_status_18
  · have hf := nm_ie c1 hf
    refine lv_iload_n hx hb dX11_status_6 rfl (lv_at hl 1 rfl) ?_
    refine lv_bipush (v := -9) hx hb dX11_status_7 (by decide) ?_
    refine lv_icmp_ge (tgt := 19) hx hb dX11_status_9 (by decide) (fun c5 => ?_) (fun c5 => ?_)
    · have hf := nm_it c5 hf
      refine lv_aload_n hx hb dX11_status_19 rfl (lv_at hl 0 rfl) ?_
      refine gf_11_5 hK hx hb hts hown hH (cl_n0 hL) (cl_k0 hL) (hts _ tw_292) (fun _ h9 => h9) dX11_status_20 ?_
      refine lv_bipush (v := -2) hx hb dX11_status_23 (by decide) ?_
      refine lv_iload_n hx hb dX11_status_25 rfl (lv_at hl 1 rfl) ?_
      refine lv_isub hx hb dX11_status_26 ?_
      obtain ⟨hi6, hf⟩ := nm_chk hf
      refine nm_iald hx hb hK hH (cl_n2 hL) (cl_k2 hL) (cl_l2 hN) hi6 dX11_status_27 ?_
      exact nm_iret hx hb hr hlocks hQ hH (congrArg Prod.fst (Option.some.inj hf)) (congrArg (fun q => (q.2.1, q.2.2, N, K)) (Option.some.inj hf)) dX11_status_28
    · have hf := nm_ie c5 hf
      refine lv_aload_n hx hb dX11_status_12 rfl (lv_at hl 0 rfl) ?_
      refine lv_bipush (v := -7) hx hb dX11_status_13 (by decide) ?_
      obtain ⟨r9, M7, hc8, hf⟩ := nm_sd2 hf
      refine nm_calli (nm_runV (X := X) (nl := nl) (k_X11_refuse hL hN (hf := hc8)) hx hb hml hown hts hs0 hK hZ hH tw_325 tw_322 tw_324 (sw_X11_refuse) tw_1 hd_X11_refuse (cl_n0 hL) (cl_k0 hL) (by decide) rfl rfl rfl ⟨Nat.le_trans (Nat.le_of_ble_eq_true rfl) hRf, Nat.le_trans (Nat.le_of_ble_eq_true rfl) hRl⟩ rfl hl.1 rfl (Nat.le_of_ble_eq_true rfl) dX11_status_15 ⟨Nat.zero_le _, Nat.zero_le _⟩) hH (fun H locs hH => ?_)
      have hH : nm_H D Y (fun q => s0 ≤ q) s.heap X nl ad (M7.1, M7.2, N, K) H locs := hH
      exact nm_iret hx hb hr hlocks hQ hH (congrArg Prod.fst (Option.some.inj hf)) (congrArg (fun q => (q.2.1, q.2.2, N, K)) (Option.some.inj hf)) dX11_status_18
def f_X1_placedCells_J43 (w : Nat) (K : Nat → Nat) (x1 : Int32) (x2 : Int32) (M : cm) (k : Int32 → Int32 → Option (Int32)) : Option (Int32) :=
k x1 (x2 + 1)
def f_X1_placedCells_L4 (w : Nat) (K : Nat → Nat) (M : cm) : Nat → Int32 → Int32 → Option (Int32)
  | 0, _, _ => none
  | n4 + 1, x1, x2 =>
    (if (M.1 w 1) ≤ x2 then
    some x1
    else
    nm_c x2 16 (
    nm_l (w + 10 + x2.toNatClampNeg) fun pz3 =>
    nm_nz (K pz3) (
    (if (nm_is (K pz3) 7) = 0 then
    f_X1_placedCells_J43 w K x1 x2 M (f_X1_placedCells_L4 w K M n4)
    else
    nm_l (x1 ||| ((1 : Int32) <<< ((M.1 pz3 1) &&& 31))) fun v5 =>
    f_X1_placedCells_J43 w K v5 x2 M (f_X1_placedCells_L4 w K M n4)))))
def f_X1_placedCells (w : Nat) (K : Nat → Nat) (M : cm) : Option Int32 :=
nm_s1 (f_X1_placedCells_L4 w K M nm_F (0 : Int32) (0 : Int32)) fun y6 =>
some y6
set_option maxHeartbeats 4000000 in
set_option maxRecDepth 100000 in
theorem k_X1_placedCells {l : Launch} {D : va_G} {Y : nm_Y} {s0 : Nat} {X : va_W} {ad : Nat → Nat} {nl : List Nat} {N K : Nat → Nat} (hL : cl_L nl K) (hN : cl_N N) {w : Nat} (hw : cl_w w) {M : cm} {r0 : Int32} (hf : f_X1_placedCells w K M = some r0) :
    nm_Met l yX1_placedCells cX1_placedCells 5 (some .int) { frames := 0, cells := 0, slots := 0, locals := 0 } [.ref (ad w)] D Y s0 (nm_W Y X nl ad (M.1, M.2, N, K)) (nm_Qi D s0 r0 (nm_W Y X nl ad (M.1, M.2, N, K))) 0 0 := by
  refine nm_of (by decide) (Nat.le_of_ble_eq_true rfl) ?_
  intro p e R s m args below meth c Q ls hx hb hr hlocks hml hown hts hs0 hK hZ hRf hRl hRc hRs hQ hP hD hl
  have hH : nm_H D Y (fun q => s0 ≤ q) s.heap X nl ad (M.1, M.2, N, K) s.heap [] := ⟨hP, hD, va_S.rf⟩
  have hl : lv_has ls 5 [(0, .ref (ad w))] := hl
  unfold f_X1_placedCells at hf
  refine lv_iconst (v := 0) hx hb dX1_placedCells_0 (by decide) ?_
  refine lv_istore_n (lv' := [(1, .int (0 : Int32)), (0, .ref (ad w))]) hx hb dX1_placedCells_1 rfl hl (by decide) rfl (fun ls hl => ?_)
  refine lv_iconst (v := 0) hx hb dX1_placedCells_2 (by decide) ?_
  refine lv_istore_n (lv' := [(2, .int (0 : Int32)), (1, .int (0 : Int32)), (0, .ref (ad w))]) hx hb dX1_placedCells_3 rfl hl (by decide) rfl (fun ls hl => ?_)
  have hL4 : ∀ (n4 : Nat) (x1 : Int32) (x2 : Int32) (H : Heap) (locs : List Loc) (ls : Array Slot) (o4 : Int32), nm_H D Y (fun q => s0 ≤ q) s.heap X nl ad (M.1, M.2, N, K) H locs → lv_has ls 5 [(0, .ref (ad w)), (1, .int x1), (2, .int x2)] → f_X1_placedCells_L4 w K M n4 x1 x2 = some o4 → (∀ (H : Heap) (locs : List Loc) (ls : Array Slot), nm_H D Y (fun q => s0 ≤ q) s.heap X nl ad (M.1, M.2, N, K) H locs → lv_has ls 5 [(1, .int o4)] → W p l e R s m args below meth c H locs 0 0 Q (F0 m 49 ls [])) → W p l e R s m args below meth c H locs 0 0 Q (F0 m 4 ls []) := by
    intro n4
    induction n4 with
    | zero =>
      intro x1 x2 H locs ls o4 hH hl hf hX4
      cases hf
    | succ n4 ih4 =>
      intro x1 x2 H locs ls o4 hH hl hf hX4
      rw [f_X1_placedCells_L4] at hf
      refine lv_iload_n hx hb dX1_placedCells_4 rfl (lv_at hl 2 rfl) ?_
      refine lv_aload_n hx hb dX1_placedCells_5 rfl (lv_at hl 0 rfl) ?_
      refine gf_1_1 hK hx hb hts hown hH (cl_nw0 hL hw) (cl_kw0 hL hw) (hts _ tw_264) (fun _ h9 => h9) dX1_placedCells_6 ?_
      refine lv_icmp_ge (tgt := 49) hx hb dX1_placedCells_9 (by decide) (fun c1 => ?_) (fun c1 => ?_)
      · have hf := nm_it c1 hf
        cases hf
        exact hX4 _ _ _ hH (lv_sub hl [1] rfl)
      · have hf := nm_ie c1 hf
        refine lv_aload_n hx hb dX1_placedCells_12 rfl (lv_at hl 0 rfl) ?_
        refine gf_1_0 hK hx hb hts hown hH (cl_nw0 hL hw) (cl_kw0 hL hw) (hts _ tw_262) (fun _ h9 => h9) dX1_placedCells_13 ?_
        refine lv_iload_n hx hb dX1_placedCells_16 rfl (lv_at hl 2 rfl) ?_
        obtain ⟨hi2, hf⟩ := nm_chk hf
        obtain ⟨pz3, epz3, hf⟩ := nm_let hf
        obtain ⟨hz_pz3, hf⟩ := nm_nzd hf
        have hs_pz3 := cl_shp hL hw epz3 hi2 hz_pz3
        refine nm_sald hx hb hK hH (cl_nw1 hL hw) (cl_kw1 hL hw) (cl_lw1 hN hw) hi2 epz3 hz_pz3 dX1_placedCells_17 ?_
        refine lv_astore (lv' := [(4, .ref (ad pz3)), (0, .ref (ad w)), (1, .int x1), (2, .int x2)]) hx hb dX1_placedCells_18 hl (by decide) rfl (fun ls hl => ?_)
        refine lv_aload hx hb dX1_placedCells_20 (lv_at hl 0 rfl) ?_
        refine nm_inst7 hx hb hK hZ hown hH hs_pz3 (hts _ tw_488) dX1_placedCells_22 ?_
        have hJ43 : ∀ (x1 : Int32) (H : Heap) (locs : List Loc) (ls : Array Slot), nm_H D Y (fun q => s0 ≤ q) s.heap X nl ad (M.1, M.2, N, K) H locs → lv_has ls 5 [(0, .ref (ad w)), (1, .int x1), (2, .int x2)] → f_X1_placedCells_J43 w K x1 x2 M (f_X1_placedCells_L4 w K M n4) = some o4 → W p l e R s m args below meth c H locs 0 0 Q (F0 m 43 ls []) := by
          intro x1 H locs ls hH hl hf
          unfold f_X1_placedCells_J43 at hf
          refine lv_iinc (v := x2 + 1) (lv' := [(2, .int (x2 + 1)), (0, .ref (ad w)), (1, .int x1)]) hx hb dX1_placedCells_43 hl (k := 2) rfl rfl (by decide) rfl (fun ls hl => ?_)
          refine lv_goto (tgt := 4) hx hb dX1_placedCells_46 (by decide) ?_
          exact ih4 x1 (x2 + 1) _ _ _ _ hH (lv_sub hl [1, 2, 0] rfl) hf hX4
        refine lv_if_eq (tgt := 43) hx hb dX1_placedCells_25 (by decide) (fun c4 => ?_) (fun c4 => ?_)
        · have hf := nm_it c4 hf
          exact hJ43 x1 _ _ _ hH (lv_sub hl [1, 2, 3] rfl) hf
        · have hf := nm_ie c4 hf
          have hk_pz3 := nm_is1 c4
          refine lv_aload hx hb dX1_placedCells_28 (lv_at hl 0 rfl) ?_
          refine nm_cast7 hx hb hK hown hH hs_pz3.1 hk_pz3 (hts _ tw_488) dX1_placedCells_30 ?_
          refine lv_astore_n (lv' := [(3, .ref (ad pz3)), (4, .ref (ad pz3)), (0, .ref (ad w)), (1, .int x1), (2, .int x2)]) hx hb dX1_placedCells_33 rfl hl (by decide) rfl (fun ls hl => ?_)
          refine lv_iload_n hx hb dX1_placedCells_34 rfl (lv_at hl 3 rfl) ?_
          refine lv_iconst (v := 1) hx hb dX1_placedCells_35 (by decide) ?_
          refine lv_aload_n hx hb dX1_placedCells_36 rfl (lv_at hl 0 rfl) ?_
          refine gf_7_1 hK hx hb hts hown hH hs_pz3.1 hk_pz3 (hts _ tw_346) (u_same (hts _ tw_347)) dX1_placedCells_37 ?_
          refine lv_ishl hx hb dX1_placedCells_40 ?_
          refine lv_ior hx hb dX1_placedCells_41 ?_
          obtain ⟨v5, ev5, hf⟩ := nm_let hf
          refine nm_topi ev5 ?_
          refine lv_istore_n (lv' := [(1, .int v5), (3, .ref (ad pz3)), (4, .ref (ad pz3)), (0, .ref (ad w)), (2, .int x2)]) hx hb dX1_placedCells_42 rfl hl (by decide) rfl (fun ls hl => ?_)
          exact hJ43 v5 _ _ _ hH (lv_sub hl [3, 0, 4] rfl) hf
  obtain ⟨y6, hl7, hf⟩ := nm_sd1 hf
  refine hL4 nm_F (0 : Int32) (0 : Int32) _ _ _ _ hH (lv_sub hl [2, 1, 0] rfl) hl7 (fun H locs ls hH hl => ?_)
  have hl : lv_has ls 5 [(1, .int y6)] := hl
  have hH : nm_H D Y (fun q => s0 ≤ q) s.heap X nl ad (M.1, M.2, N, K) H locs := hH
  refine lv_iload_n hx hb dX1_placedCells_49 rfl (lv_at hl 0 rfl) ?_
  exact nm_iret hx hb hr hlocks hQ hH (Option.some.inj hf) rfl dX1_placedCells_50
def f_X1_markPatches_J57 (w : Nat) (N : Nat → Nat) (K : Nat → Nat) (x2 : Int32) (M5 : cm) (k : Int32 → cm → Option (cm)) : Option (cm) :=
k (x2 + 1) M5
def f_X1_markPatches_J46 (w : Nat) (N : Nat → Nat) (K : Nat → Nat) (pz4 : Nat) (x2 : Int32) (t46_1 : Int32) (t46_0 : Int32) (M1 : cm) (k : Int32 → cm → Option (cm)) : Option (cm) :=
(if t46_0 = t46_1 then
nm_s1 (f_X6_mark pz4 (w + 2) N M1) fun M8 =>
f_X1_markPatches_J57 w N K x2 M8 k
else
f_X1_markPatches_J57 w N K x2 M1 k)
def f_X1_markPatches_L2 (w : Nat) (N : Nat → Nat) (K : Nat → Nat) (x1 : Int32) : Nat → Int32 → cm → Option (cm)
  | 0, _, _ => none
  | n2 + 1, x2, M1 =>
    (if (M1.1 w 1) ≤ x2 then
    some M1
    else
    nm_c x2 16 (
    nm_l (w + 10 + x2.toNatClampNeg) fun pz4 =>
    nm_nz (K pz4) (
    (if (nm_is (K pz4) 6) = 0 then
    f_X1_markPatches_J57 w N K x2 M1 (f_X1_markPatches_L2 w N K x1 n2)
    else
    (if (M1.1 pz4 0) = (1 : Int32) then
    f_X1_markPatches_J46 w N K pz4 x2 (1 : Int32) x1 M1 (f_X1_markPatches_L2 w N K x1 n2)
    else
    f_X1_markPatches_J46 w N K pz4 x2 (0 : Int32) x1 M1 (f_X1_markPatches_L2 w N K x1 n2))))))
def f_X1_markPatches (w : Nat) (N : Nat → Nat) (K : Nat → Nat) (x1 : Int32) (M : cm) : Option (cm) :=
nm_s1 (f_X1_markPatches_L2 w N K x1 nm_F (0 : Int32) M) fun M11 =>
some M11
set_option maxHeartbeats 4000000 in
set_option maxRecDepth 100000 in
theorem k_X1_markPatches {l : Launch} {D : va_G} {Y : nm_Y} {s0 : Nat} {X : va_W} {ad : Nat → Nat} {nl : List Nat} {N K : Nat → Nat} (hL : cl_L nl K) (hN : cl_N N) {w : Nat} (hw : cl_w w) {x1 : Int32} {M : cm} {M0 : cm} (hf : f_X1_markPatches w N K x1 M = some M0) :
    nm_Met l yX1_markPatches cX1_markPatches 5 none { frames := 1, cells := 0, slots := 0, locals := 23 } [.ref (ad w), .int x1] D Y s0 (nm_W Y X nl ad (M.1, M.2, N, K)) (nm_Qv D s0 (nm_W Y X nl ad (M0.1, M0.2, N, K))) 0 0 := by
  refine nm_of (by decide) (Nat.le_of_ble_eq_true rfl) ?_
  intro p e R s m args below meth c Q ls hx hb hr hlocks hml hown hts hs0 hK hZ hRf hRl hRc hRs hQ hP hD hl
  have hH : nm_H D Y (fun q => s0 ≤ q) s.heap X nl ad (M.1, M.2, N, K) s.heap [] := ⟨hP, hD, va_S.rf⟩
  have hl : lv_has ls 5 [(0, .ref (ad w)), (1, .int x1)] := hl
  unfold f_X1_markPatches at hf
  refine lv_iconst (v := 0) hx hb dX1_markPatches_0 (by decide) ?_
  refine lv_istore_n (lv' := [(2, .int (0 : Int32)), (0, .ref (ad w)), (1, .int x1)]) hx hb dX1_markPatches_1 rfl hl (by decide) rfl (fun ls hl => ?_)
  have hL2 : ∀ (n2 : Nat) (x2 : Int32) (M1 : cm) (H : Heap) (locs : List Loc) (ls : Array Slot) (o2 : cm), nm_H D Y (fun q => s0 ≤ q) s.heap X nl ad (M1.1, M1.2, N, K) H locs → lv_has ls 5 [(0, .ref (ad w)), (1, .int x1), (2, .int x2)] → f_X1_markPatches_L2 w N K x1 n2 x2 M1 = some o2 → (∀ (H : Heap) (locs : List Loc) (ls : Array Slot), nm_H D Y (fun q => s0 ≤ q) s.heap X nl ad (o2.1, o2.2, N, K) H locs → lv_has ls 5 [] → W p l e R s m args below meth c H locs 0 0 Q (F0 m 63 ls [])) → W p l e R s m args below meth c H locs 0 0 Q (F0 m 2 ls []) := by
    intro n2
    induction n2 with
    | zero =>
      intro x2 M1 H locs ls o2 hH hl hf hX2
      cases hf
    | succ n2 ih2 =>
      intro x2 M1 H locs ls o2 hH hl hf hX2
      rw [f_X1_markPatches_L2] at hf
      refine lv_iload_n hx hb dX1_markPatches_2 rfl (lv_at hl 2 rfl) ?_
      refine lv_aload_n hx hb dX1_markPatches_3 rfl (lv_at hl 0 rfl) ?_
      refine gf_1_1 hK hx hb hts hown hH (cl_nw0 hL hw) (cl_kw0 hL hw) (hts _ tw_264) (fun _ h9 => h9) dX1_markPatches_4 ?_
      refine lv_icmp_ge (tgt := 63) hx hb dX1_markPatches_7 (by decide) (fun c2 => ?_) (fun c2 => ?_)
      · have hf := nm_it c2 hf
        cases hf
        exact hX2 _ _ _ hH (lv_sub hl [] rfl)
      · have hf := nm_ie c2 hf
        refine lv_aload_n hx hb dX1_markPatches_10 rfl (lv_at hl 0 rfl) ?_
        refine gf_1_0 hK hx hb hts hown hH (cl_nw0 hL hw) (cl_kw0 hL hw) (hts _ tw_262) (fun _ h9 => h9) dX1_markPatches_11 ?_
        refine lv_iload_n hx hb dX1_markPatches_14 rfl (lv_at hl 2 rfl) ?_
        obtain ⟨hi3, hf⟩ := nm_chk hf
        obtain ⟨pz4, epz4, hf⟩ := nm_let hf
        obtain ⟨hz_pz4, hf⟩ := nm_nzd hf
        have hs_pz4 := cl_shp hL hw epz4 hi3 hz_pz4
        refine nm_sald hx hb hK hH (cl_nw1 hL hw) (cl_kw1 hL hw) (cl_lw1 hN hw) hi3 epz4 hz_pz4 dX1_markPatches_15 ?_
        refine lv_astore (lv' := [(4, .ref (ad pz4)), (0, .ref (ad w)), (1, .int x1), (2, .int x2)]) hx hb dX1_markPatches_16 hl (by decide) rfl (fun ls hl => ?_)
        refine lv_aload hx hb dX1_markPatches_18 (lv_at hl 0 rfl) ?_
        refine nm_inst6 hx hb hK hZ hown hH hs_pz4 (hts _ tw_500) dX1_markPatches_20 ?_
        have hJ57 : ∀ (M5 : cm) (H : Heap) (locs : List Loc) (ls : Array Slot), nm_H D Y (fun q => s0 ≤ q) s.heap X nl ad (M5.1, M5.2, N, K) H locs → lv_has ls 5 [(0, .ref (ad w)), (1, .int x1), (2, .int x2)] → f_X1_markPatches_J57 w N K x2 M5 (f_X1_markPatches_L2 w N K x1 n2) = some o2 → W p l e R s m args below meth c H locs 0 0 Q (F0 m 57 ls []) := by
          intro M5 H locs ls hH hl hf
          unfold f_X1_markPatches_J57 at hf
          refine lv_iinc (v := x2 + 1) (lv' := [(2, .int (x2 + 1)), (0, .ref (ad w)), (1, .int x1)]) hx hb dX1_markPatches_57 hl (k := 2) rfl rfl (by decide) rfl (fun ls hl => ?_)
          refine lv_goto (tgt := 2) hx hb dX1_markPatches_60 (by decide) ?_
          exact ih2 (x2 + 1) M5 _ _ _ _ hH (lv_sub hl [1, 2, 0] rfl) hf hX2
        refine lv_if_eq (tgt := 57) hx hb dX1_markPatches_23 (by decide) (fun c6 => ?_) (fun c6 => ?_)
        · have hf := nm_it c6 hf
          exact hJ57  M1 _ _ _ hH (lv_sub hl [1, 2, 3] rfl) hf
        · have hf := nm_ie c6 hf
          have hk_pz4 := nm_is1 c6
          refine lv_aload hx hb dX1_markPatches_26 (lv_at hl 0 rfl) ?_
          refine nm_cast6 hx hb hK hown hH hs_pz4.1 hk_pz4 (hts _ tw_500) dX1_markPatches_28 ?_
          refine lv_astore_n (lv' := [(3, .ref (ad pz4)), (4, .ref (ad pz4)), (0, .ref (ad w)), (1, .int x1), (2, .int x2)]) hx hb dX1_markPatches_31 rfl hl (by decide) rfl (fun ls hl => ?_)
          refine lv_iload_n hx hb dX1_markPatches_32 rfl (lv_at hl 3 rfl) ?_
          refine lv_aload_n hx hb dX1_markPatches_33 rfl (lv_at hl 0 rfl) ?_
          refine gf_6_0 hK hx hb hts hown hH hs_pz4.1 hk_pz4 (hts _ tw_341) (u_same (hts _ tw_340)) dX1_markPatches_34 ?_
          refine lv_iconst (v := 1) hx hb dX1_markPatches_37 (by decide) ?_
          have hJ46 : ∀ (t46_1 : Int32) (t46_0 : Int32) (H : Heap) (locs : List Loc) (ls : Array Slot), nm_H D Y (fun q => s0 ≤ q) s.heap X nl ad (M1.1, M1.2, N, K) H locs → lv_has ls 5 [(0, .ref (ad w)), (1, .int x1), (2, .int x2), (3, .ref (ad pz4))] → f_X1_markPatches_J46 w N K pz4 x2 t46_1 t46_0 M1 (f_X1_markPatches_L2 w N K x1 n2) = some o2 → W p l e R s m args below meth c H locs 0 0 Q (F0 m 46 ls [.int t46_1, .int t46_0]) := by
            intro t46_1 t46_0 H locs ls hH hl hf
            unfold f_X1_markPatches_J46 at hf
            refine lv_icmp_ne (tgt := 57) hx hb dX1_markPatches_46 (by decide) (fun c7 => ?_) (fun c7 => ?_)
            · have hf := nm_ie c7 hf
              exact hJ57  M1 _ _ _ hH (lv_sub hl [0, 1, 2] rfl) hf
            · have hf := nm_it c7 hf
              refine lv_aload_n hx hb dX1_markPatches_49 rfl (lv_at hl 3 rfl) ?_
              refine lv_aload_n hx hb dX1_markPatches_50 rfl (lv_at hl 0 rfl) ?_
              refine gf_1_3 hK hx hb hts hown hH (cl_nw0 hL hw) (cl_kw0 hL hw) (hts _ tw_268) (fun _ h9 => h9) dX1_markPatches_51 ?_
              obtain ⟨M8, hc9, hf⟩ := nm_sd1 hf
              refine nm_callv (nm_runV (X := X) (nl := nl) (k_X6_mark hL hN hs_pz4.1 hk_pz4 (cl_nw2 hL hw) (cl_kw2 hL hw) (hf := hc9)) hx hb hml hown hts hs0 hK hZ hH tw_504 tw_501 tw_502 (sw_X6_mark) tw_11 hd_X6_mark hs_pz4.1 hk_pz4 (by decide) rfl rfl rfl ⟨Nat.le_trans (Nat.le_of_ble_eq_true rfl) hRf, Nat.le_trans (Nat.le_of_ble_eq_true rfl) hRl⟩ rfl hl.1 rfl (Nat.le_of_ble_eq_true rfl) dX1_markPatches_54 ⟨Nat.zero_le _, Nat.zero_le _⟩) hH (fun H locs hH => ?_)
              have hH : nm_H D Y (fun q => s0 ≤ q) s.heap X nl ad (M8.1, M8.2, N, K) H locs := hH
              exact hJ57  M8 _ _ _ hH (lv_sub hl [0, 1, 2] rfl) hf
          refine lv_icmp_ne (tgt := 45) hx hb dX1_markPatches_38 (by decide) (fun c10 => ?_) (fun c10 => ?_)
          · have hf := nm_ie c10 hf
            refine lv_iconst (v := 0) hx hb dX1_markPatches_45 (by decide) ?_
            exact hJ46 (0 : Int32) x1 _ _ _ hH (lv_sub hl [2, 3, 4, 0] rfl) hf
          · have hf := nm_it c10 hf
            refine lv_iconst (v := 1) hx hb dX1_markPatches_41 (by decide) ?_
            refine lv_goto (tgt := 46) hx hb dX1_markPatches_42 (by decide) ?_
            exact hJ46 (1 : Int32) x1 _ _ _ hH (lv_sub hl [2, 3, 4, 0] rfl) hf
  obtain ⟨M11, hl12, hf⟩ := nm_sd1 hf
  refine hL2 nm_F (0 : Int32) M _ _ _ _ hH (lv_sub hl [1, 2, 0] rfl) hl12 (fun H locs ls hH hl => ?_)
  have hl : lv_has ls 5 [] := hl
  have hH : nm_H D Y (fun q => s0 ≤ q) s.heap X nl ad (M11.1, M11.2, N, K) H locs := hH
  exact nm_vret hx hb hr hlocks hQ hH (congrArg (fun q => (q.1, q.2, N, K)) (Option.some.inj hf)) dX1_markPatches_63
def f_X11_outdate_L2  : Nat → Int32 → cm → Option (cm)
  | 0, _, _ => none
  | n2 + 1, x2, M1 =>
    (if (8 : Int32) ≤ x2 then
    some M1
    else
    nm_c x2 8 (
    nm_l (1000 + 100 * x2.toNatClampNeg) fun w4 =>
    nm_l ((nm_up M1.1 w4 2 (0 : Int32), M1.2)) fun M5 =>
    f_X11_outdate_L2 n2 (x2 + 1) M5))
def f_X11_outdate (x1 : Int32) (M : cm) : Option (cm) :=
nm_s1 (f_X11_outdate_L2 nm_F x1 M) fun M6 =>
some M6
set_option maxHeartbeats 4000000 in
set_option maxRecDepth 100000 in
theorem k_X11_outdate {l : Launch} {D : va_G} {Y : nm_Y} {s0 : Nat} {X : va_W} {ad : Nat → Nat} {nl : List Nat} {N K : Nat → Nat} (hL : cl_L nl K) (hN : cl_N N) {x1 : Int32} {M : cm} {M0 : cm} (hf : f_X11_outdate x1 M = some M0) :
    nm_Met l yX11_outdate cX11_outdate 3 none { frames := 0, cells := 0, slots := 0, locals := 0 } [.ref (ad 0), .int x1] D Y s0 (nm_W Y X nl ad (M.1, M.2, N, K)) (nm_Qv D s0 (nm_W Y X nl ad (M0.1, M0.2, N, K))) 0 0 := by
  refine nm_of (by decide) (Nat.le_of_ble_eq_true rfl) ?_
  intro p e R s m args below meth c Q ls hx hb hr hlocks hml hown hts hs0 hK hZ hRf hRl hRc hRs hQ hP hD hl
  have hH : nm_H D Y (fun q => s0 ≤ q) s.heap X nl ad (M.1, M.2, N, K) s.heap [] := ⟨hP, hD, va_S.rf⟩
  have hl : lv_has ls 3 [(0, .ref (ad 0)), (1, .int x1)] := hl
  unfold f_X11_outdate at hf
  refine lv_iload_n hx hb dX11_outdate_0 rfl (lv_at hl 1 rfl) ?_
  refine lv_istore_n (lv' := [(2, .int x1), (0, .ref (ad 0)), (1, .int x1)]) hx hb dX11_outdate_1 rfl hl (by decide) rfl (fun ls hl => ?_)
  have hL2 : ∀ (n2 : Nat) (x2 : Int32) (M1 : cm) (H : Heap) (locs : List Loc) (ls : Array Slot) (o2 : cm), nm_H D Y (fun q => s0 ≤ q) s.heap X nl ad (M1.1, M1.2, N, K) H locs → lv_has ls 3 [(0, .ref (ad 0)), (2, .int x2)] → f_X11_outdate_L2 n2 x2 M1 = some o2 → (∀ (H : Heap) (locs : List Loc) (ls : Array Slot), nm_H D Y (fun q => s0 ≤ q) s.heap X nl ad (o2.1, o2.2, N, K) H locs → lv_has ls 3 [] → W p l e R s m args below meth c H locs 0 0 Q (F0 m 24 ls [])) → W p l e R s m args below meth c H locs 0 0 Q (F0 m 2 ls []) := by
    intro n2
    induction n2 with
    | zero =>
      intro x2 M1 H locs ls o2 hH hl hf hX2
      cases hf
    | succ n2 ih2 =>
      intro x2 M1 H locs ls o2 hH hl hf hX2
      rw [f_X11_outdate_L2] at hf
      refine lv_iload_n hx hb dX11_outdate_2 rfl (lv_at hl 1 rfl) ?_
      refine lv_bipush (v := 8) hx hb dX11_outdate_3 (by decide) ?_
      refine lv_icmp_ge (tgt := 24) hx hb dX11_outdate_5 (by decide) (fun c2 => ?_) (fun c2 => ?_)
      · have hf := nm_it c2 hf
        cases hf
        exact hX2 _ _ _ hH (lv_sub hl [] rfl)
      · have hf := nm_ie c2 hf
        refine lv_aload_n hx hb dX11_outdate_8 rfl (lv_at hl 0 rfl) ?_
        refine gf_11_0 hK hx hb hts hown hH (cl_n0 hL) (cl_k0 hL) (hts _ tw_287) (fun _ h9 => h9) dX11_outdate_9 ?_
        refine lv_iload_n hx hb dX11_outdate_12 rfl (lv_at hl 1 rfl) ?_
        obtain ⟨hi3, hf⟩ := nm_chk hf
        obtain ⟨w4, ew4, hf⟩ := nm_let hf
        have hw4 : cl_w w4 := cl_wi ew4 hi3
        refine nm_cald hx hb hK hH (cl_n1 hL) (cl_k1 hL) (cl_l1 hN) hi3 ew4 dX11_outdate_13 ?_
        refine lv_iconst (v := 0) hx hb dX11_outdate_14 (by decide) ?_
        obtain ⟨M5, eM5, hf⟩ := nm_let hf
        refine pf_1_2 hK hx hb hts hown hH (cl_nw0 hL hw4) (cl_kw0 hL hw4) (hts _ tw_267) (fun _ h9 => h9) rfl rfl dX11_outdate_15 (fun H locs hH => ?_)
        have hH : nm_H D Y (fun q => s0 ≤ q) s.heap X nl ad (M5.1, M5.2, N, K) H locs := by rw [eM5]; exact hH
        refine lv_iinc (v := x2 + 1) (lv' := [(2, .int (x2 + 1)), (0, .ref (ad 0))]) hx hb dX11_outdate_18 hl (k := 1) rfl rfl (by decide) rfl (fun ls hl => ?_)
        refine lv_goto (tgt := 2) hx hb dX11_outdate_21 (by decide) ?_
        exact ih2 (x2 + 1) M5 _ _ _ _ hH (lv_sub hl [1, 0] rfl) hf hX2
  obtain ⟨M6, hl7, hf⟩ := nm_sd1 hf
  refine hL2 nm_F x1 M _ _ _ _ hH (lv_sub hl [1, 0] rfl) hl7 (fun H locs ls hH hl => ?_)
  have hl : lv_has ls 3 [] := hl
  have hH : nm_H D Y (fun q => s0 ≤ q) s.heap X nl ad (M6.1, M6.2, N, K) H locs := hH
  exact nm_vret hx hb hr hlocks hQ hH (congrArg (fun q => (q.1, q.2, N, K)) (Option.some.inj hf)) dX11_outdate_24
def f_X11_undo (x1 : Int32) (M : cm) : Option (Int32 × cm) :=
(if (f_X11_outside x1 (8 : Int32)) = 0 then
nm_c x1 8 (
nm_l (1000 + 100 * x1.toNatClampNeg) fun w3 =>
(if 0 < (M.1 w3 1) then
nm_c x1 8 (
nm_l (1000 + 100 * x1.toNatClampNeg) fun w6 =>
nm_l ((nm_up M.1 w6 1 ((M.1 w6 1) - (1 : Int32)), M.2)) fun M7 =>
nm_s1 (f_X11_outdate x1 M7) fun M8 =>
nm_c x1 8 (
nm_l (1000 + 100 * x1.toNatClampNeg) fun w11 =>
some (M8.1 w11 1, M8)))
else
nm_s2 (f_X11_refuse (-2 : Int32) M) fun r14 M12 =>
some (r14, M12)))
else
nm_s2 (f_X11_refuse (-3 : Int32) M) fun r17 M15 =>
some (r17, M15))
set_option maxHeartbeats 4000000 in
set_option maxRecDepth 100000 in
theorem k_X11_undo {l : Launch} {D : va_G} {Y : nm_Y} {s0 : Nat} {X : va_W} {ad : Nat → Nat} {nl : List Nat} {N K : Nat → Nat} (hL : cl_L nl K) (hN : cl_N N) {x1 : Int32} {M : cm} {r0 : Int32} {M0 : cm} (hf : f_X11_undo x1 M = some (r0, M0)) :
    nm_Met l yX11_undo cX11_undo 2 (some .int) { frames := 1, cells := 0, slots := 0, locals := 22 } [.ref (ad 0), .int x1] D Y s0 (nm_W Y X nl ad (M.1, M.2, N, K)) (nm_Qi D s0 r0 (nm_W Y X nl ad (M0.1, M0.2, N, K))) 0 0 := by
  refine nm_of (by decide) (Nat.le_of_ble_eq_true rfl) ?_
  intro p e R s m args below meth c Q ls hx hb hr hlocks hml hown hts hs0 hK hZ hRf hRl hRc hRs hQ hP hD hl
  have hH : nm_H D Y (fun q => s0 ≤ q) s.heap X nl ad (M.1, M.2, N, K) s.heap [] := ⟨hP, hD, va_S.rf⟩
  have hl : lv_has ls 2 [(0, .ref (ad 0)), (1, .int x1)] := hl
  unfold f_X11_undo at hf
  refine lv_iload_n hx hb dX11_undo_0 rfl (lv_at hl 1 rfl) ?_
  refine lv_bipush (v := 8) hx hb dX11_undo_1 (by decide) ?_
  refine nm_calli (nm_runS (X := X) (nl := nl) (k_X11_outside hL hN (hf := (rfl : f_X11_outside x1 (8 : Int32) = _))) hx hb hml hown hts hs0 hK hZ hH tw_321 tw_319 tw_320 tw_1 hd_X11_outside rfl rfl ⟨Nat.le_trans (Nat.le_of_ble_eq_true rfl) hRf, Nat.le_trans (Nat.le_of_ble_eq_true rfl) hRl⟩ rfl hl.1 rfl (Nat.le_of_ble_eq_true rfl) dX11_undo_3 ⟨Nat.zero_le _, Nat.zero_le _⟩) hH (fun H locs hH => ?_)
  have hH : nm_H D Y (fun q => s0 ≤ q) s.heap X nl ad (M.1, M.2, N, K) H locs := hH
  refine lv_if_eq (tgt := 16) hx hb dX11_undo_6 (by decide) (fun c1 => ?_) (fun c1 => ?_)
  · have hf := nm_it c1 hf
    refine lv_aload_n hx hb dX11_undo_16 rfl (lv_at hl 0 rfl) ?_
    refine gf_11_0 hK hx hb hts hown hH (cl_n0 hL) (cl_k0 hL) (hts _ tw_287) (fun _ h9 => h9) dX11_undo_17 ?_
    refine lv_iload_n hx hb dX11_undo_20 rfl (lv_at hl 1 rfl) ?_
    obtain ⟨hi2, hf⟩ := nm_chk hf
    obtain ⟨w3, ew3, hf⟩ := nm_let hf
    have hw3 : cl_w w3 := cl_wi ew3 hi2
    refine nm_cald hx hb hK hH (cl_n1 hL) (cl_k1 hL) (cl_l1 hN) hi2 ew3 dX11_undo_21 ?_
    refine gf_1_1 hK hx hb hts hown hH (cl_nw0 hL hw3) (cl_kw0 hL hw3) (hts _ tw_265) (fun _ h9 => h9) dX11_undo_22 ?_
    refine lv_if_gt (tgt := 35) hx hb dX11_undo_25 (by decide) (fun c4 => ?_) (fun c4 => ?_)
    · have hf := nm_it c4 hf
      refine lv_aload_n hx hb dX11_undo_35 rfl (lv_at hl 0 rfl) ?_
      refine gf_11_0 hK hx hb hts hown hH (cl_n0 hL) (cl_k0 hL) (hts _ tw_287) (fun _ h9 => h9) dX11_undo_36 ?_
      refine lv_iload_n hx hb dX11_undo_39 rfl (lv_at hl 1 rfl) ?_
      obtain ⟨hi5, hf⟩ := nm_chk hf
      obtain ⟨w6, ew6, hf⟩ := nm_let hf
      have hw6 : cl_w w6 := cl_wi ew6 hi5
      refine nm_cald hx hb hK hH (cl_n1 hL) (cl_k1 hL) (cl_l1 hN) hi5 ew6 dX11_undo_40 ?_
      refine lv_dup hx hb dX11_undo_41 rfl ?_
      refine gf_1_1 hK hx hb hts hown hH (cl_nw0 hL hw6) (cl_kw0 hL hw6) (hts _ tw_265) (fun _ h9 => h9) dX11_undo_42 ?_
      refine lv_iconst (v := 1) hx hb dX11_undo_45 (by decide) ?_
      refine lv_isub hx hb dX11_undo_46 ?_
      obtain ⟨M7, eM7, hf⟩ := nm_let hf
      refine pf_1_1 hK hx hb hts hown hH (cl_nw0 hL hw6) (cl_kw0 hL hw6) (hts _ tw_265) (fun _ h9 => h9) dX11_undo_47 (fun H locs hH => ?_)
      have hH : nm_H D Y (fun q => s0 ≤ q) s.heap X nl ad (M7.1, M7.2, N, K) H locs := by rw [eM7]; exact hH
      refine lv_aload_n hx hb dX11_undo_50 rfl (lv_at hl 0 rfl) ?_
      refine lv_iload_n hx hb dX11_undo_51 rfl (lv_at hl 1 rfl) ?_
      obtain ⟨M8, hc9, hf⟩ := nm_sd1 hf
      refine nm_callv (nm_runV (X := X) (nl := nl) (k_X11_outdate hL hN (hf := hc9)) hx hb hml hown hts hs0 hK hZ hH tw_387 tw_384 tw_386 (sw_X11_outdate) tw_1 hd_X11_outdate (cl_n0 hL) (cl_k0 hL) (by decide) rfl rfl rfl ⟨Nat.le_trans (Nat.le_of_ble_eq_true rfl) hRf, Nat.le_trans (Nat.le_of_ble_eq_true rfl) hRl⟩ rfl hl.1 rfl (Nat.le_of_ble_eq_true rfl) dX11_undo_52 ⟨Nat.zero_le _, Nat.zero_le _⟩) hH (fun H locs hH => ?_)
      have hH : nm_H D Y (fun q => s0 ≤ q) s.heap X nl ad (M8.1, M8.2, N, K) H locs := hH
      refine lv_aload_n hx hb dX11_undo_55 rfl (lv_at hl 0 rfl) ?_
      refine gf_11_0 hK hx hb hts hown hH (cl_n0 hL) (cl_k0 hL) (hts _ tw_287) (fun _ h9 => h9) dX11_undo_56 ?_
      refine lv_iload_n hx hb dX11_undo_59 rfl (lv_at hl 1 rfl) ?_
      obtain ⟨hi10, hf⟩ := nm_chk hf
      obtain ⟨w11, ew11, hf⟩ := nm_let hf
      have hw11 : cl_w w11 := cl_wi ew11 hi10
      refine nm_cald hx hb hK hH (cl_n1 hL) (cl_k1 hL) (cl_l1 hN) hi10 ew11 dX11_undo_60 ?_
      refine gf_1_1 hK hx hb hts hown hH (cl_nw0 hL hw11) (cl_kw0 hL hw11) (hts _ tw_265) (fun _ h9 => h9) dX11_undo_61 ?_
      exact nm_iret hx hb hr hlocks hQ hH (congrArg Prod.fst (Option.some.inj hf)) (congrArg (fun q => (q.2.1, q.2.2, N, K)) (Option.some.inj hf)) dX11_undo_64
    · have hf := nm_ie c4 hf
      refine lv_aload_n hx hb dX11_undo_28 rfl (lv_at hl 0 rfl) ?_
      refine lv_bipush (v := -2) hx hb dX11_undo_29 (by decide) ?_
      obtain ⟨r14, M12, hc13, hf⟩ := nm_sd2 hf
      refine nm_calli (nm_runV (X := X) (nl := nl) (k_X11_refuse hL hN (hf := hc13)) hx hb hml hown hts hs0 hK hZ hH tw_325 tw_322 tw_324 (sw_X11_refuse) tw_1 hd_X11_refuse (cl_n0 hL) (cl_k0 hL) (by decide) rfl rfl rfl ⟨Nat.le_trans (Nat.le_of_ble_eq_true rfl) hRf, Nat.le_trans (Nat.le_of_ble_eq_true rfl) hRl⟩ rfl hl.1 rfl (Nat.le_of_ble_eq_true rfl) dX11_undo_31 ⟨Nat.zero_le _, Nat.zero_le _⟩) hH (fun H locs hH => ?_)
      have hH : nm_H D Y (fun q => s0 ≤ q) s.heap X nl ad (M12.1, M12.2, N, K) H locs := hH
      exact nm_iret hx hb hr hlocks hQ hH (congrArg Prod.fst (Option.some.inj hf)) (congrArg (fun q => (q.2.1, q.2.2, N, K)) (Option.some.inj hf)) dX11_undo_34
  · have hf := nm_ie c1 hf
    refine lv_aload_n hx hb dX11_undo_9 rfl (lv_at hl 0 rfl) ?_
    refine lv_bipush (v := -3) hx hb dX11_undo_10 (by decide) ?_
    obtain ⟨r17, M15, hc16, hf⟩ := nm_sd2 hf
    refine nm_calli (nm_runV (X := X) (nl := nl) (k_X11_refuse hL hN (hf := hc16)) hx hb hml hown hts hs0 hK hZ hH tw_325 tw_322 tw_324 (sw_X11_refuse) tw_1 hd_X11_refuse (cl_n0 hL) (cl_k0 hL) (by decide) rfl rfl rfl ⟨Nat.le_trans (Nat.le_of_ble_eq_true rfl) hRf, Nat.le_trans (Nat.le_of_ble_eq_true rfl) hRl⟩ rfl hl.1 rfl (Nat.le_of_ble_eq_true rfl) dX11_undo_12 ⟨Nat.zero_le _, Nat.zero_le _⟩) hH (fun H locs hH => ?_)
    have hH : nm_H D Y (fun q => s0 ≤ q) s.heap X nl ad (M15.1, M15.2, N, K) H locs := hH
    exact nm_iret hx hb hr hlocks hQ hH (congrArg Prod.fst (Option.some.inj hf)) (congrArg (fun q => (q.2.1, q.2.2, N, K)) (Option.some.inj hf)) dX11_undo_15
def f_X11_shape (K : Nat → Nat) (x1 : Int32) (x2 : Int32) (x3 : Int32) (M : cm) : Option (Int32 × cm) :=
(if (f_X11_outside x1 (8 : Int32)) = 0 then
nm_c x1 8 (
nm_l (1000 + 100 * x1.toNatClampNeg) fun w6 =>
(if (f_X11_outside x2 (M.1 w6 1)) = 0 then
nm_c x1 8 (
nm_l (1000 + 100 * x1.toNatClampNeg) fun w9 =>
nm_c x2 16 (
nm_l (w9 + 10 + x2.toNatClampNeg) fun pz11 =>
nm_nz (K pz11) (
(if (f_X11_outside x3 (3 : Int32)) = 0 then
(if x3 = 0 then
some (M.1 pz11 0, M)
else
(if x3 = (1 : Int32) then
some (M.1 pz11 1, M)
else
some (M.1 pz11 2, M)))
else
nm_s2 (f_X11_refuse (-7 : Int32) M) fun r17 M15 =>
some (r17, M15)))))
else
nm_s2 (f_X11_refuse (-3 : Int32) M) fun r20 M18 =>
some (r20, M18)))
else
nm_s2 (f_X11_refuse (-3 : Int32) M) fun r4 M2 =>
some (r4, M2))
set_option maxHeartbeats 4000000 in
set_option maxRecDepth 100000 in
theorem k_X11_shape {l : Launch} {D : va_G} {Y : nm_Y} {s0 : Nat} {X : va_W} {ad : Nat → Nat} {nl : List Nat} {N K : Nat → Nat} (hL : cl_L nl K) (hN : cl_N N) {x1 : Int32} {x2 : Int32} {x3 : Int32} {M : cm} {r0 : Int32} {M0 : cm} (hf : f_X11_shape K x1 x2 x3 M = some (r0, M0)) :
    nm_Met l yX11_shape cX11_shape 5 (some .int) { frames := 1, cells := 0, slots := 0, locals := 21 } [.ref (ad 0), .int x1, .int x2, .int x3] D Y s0 (nm_W Y X nl ad (M.1, M.2, N, K)) (nm_Qi D s0 r0 (nm_W Y X nl ad (M0.1, M0.2, N, K))) 0 0 := by
  refine nm_of (by decide) (Nat.le_of_ble_eq_true rfl) ?_
  intro p e R s m args below meth c Q ls hx hb hr hlocks hml hown hts hs0 hK hZ hRf hRl hRc hRs hQ hP hD hl
  have hH : nm_H D Y (fun q => s0 ≤ q) s.heap X nl ad (M.1, M.2, N, K) s.heap [] := ⟨hP, hD, va_S.rf⟩
  have hl : lv_has ls 5 [(0, .ref (ad 0)), (1, .int x1), (2, .int x2), (3, .int x3)] := hl
  unfold f_X11_shape at hf
  refine lv_iload_n hx hb dX11_shape_0 rfl (lv_at hl 1 rfl) ?_
  refine lv_bipush (v := 8) hx hb dX11_shape_1 (by decide) ?_
  refine nm_calli (nm_runS (X := X) (nl := nl) (k_X11_outside hL hN (hf := (rfl : f_X11_outside x1 (8 : Int32) = _))) hx hb hml hown hts hs0 hK hZ hH tw_321 tw_319 tw_320 tw_1 hd_X11_outside rfl rfl ⟨Nat.le_trans (Nat.le_of_ble_eq_true rfl) hRf, Nat.le_trans (Nat.le_of_ble_eq_true rfl) hRl⟩ rfl hl.1 rfl (Nat.le_of_ble_eq_true rfl) dX11_shape_3 ⟨Nat.zero_le _, Nat.zero_le _⟩) hH (fun H locs hH => ?_)
  have hH : nm_H D Y (fun q => s0 ≤ q) s.heap X nl ad (M.1, M.2, N, K) H locs := hH
  refine lv_if_ne (tgt := 25) hx hb dX11_shape_6 (by decide) (fun c1 => ?_) (fun c1 => ?_)
  · have hf := nm_ie c1 hf
    refine lv_aload_n hx hb dX11_shape_25 rfl (lv_at hl 0 rfl) ?_
    refine lv_bipush (v := -3) hx hb dX11_shape_26 (by decide) ?_
    obtain ⟨r4, M2, hc3, hf⟩ := nm_sd2 hf
    refine nm_calli (nm_runV (X := X) (nl := nl) (k_X11_refuse hL hN (hf := hc3)) hx hb hml hown hts hs0 hK hZ hH tw_325 tw_322 tw_324 (sw_X11_refuse) tw_1 hd_X11_refuse (cl_n0 hL) (cl_k0 hL) (by decide) rfl rfl rfl ⟨Nat.le_trans (Nat.le_of_ble_eq_true rfl) hRf, Nat.le_trans (Nat.le_of_ble_eq_true rfl) hRl⟩ rfl hl.1 rfl (Nat.le_of_ble_eq_true rfl) dX11_shape_28 ⟨Nat.zero_le _, Nat.zero_le _⟩) hH (fun H locs hH => ?_)
    have hH : nm_H D Y (fun q => s0 ≤ q) s.heap X nl ad (M2.1, M2.2, N, K) H locs := hH
    exact nm_iret hx hb hr hlocks hQ hH (congrArg Prod.fst (Option.some.inj hf)) (congrArg (fun q => (q.2.1, q.2.2, N, K)) (Option.some.inj hf)) dX11_shape_31
  · have hf := nm_it c1 hf
    refine lv_iload_n hx hb dX11_shape_9 rfl (lv_at hl 2 rfl) ?_
    refine lv_aload_n hx hb dX11_shape_10 rfl (lv_at hl 0 rfl) ?_
    refine gf_11_0 hK hx hb hts hown hH (cl_n0 hL) (cl_k0 hL) (hts _ tw_287) (fun _ h9 => h9) dX11_shape_11 ?_
    refine lv_iload_n hx hb dX11_shape_14 rfl (lv_at hl 1 rfl) ?_
    obtain ⟨hi5, hf⟩ := nm_chk hf
    obtain ⟨w6, ew6, hf⟩ := nm_let hf
    have hw6 : cl_w w6 := cl_wi ew6 hi5
    refine nm_cald hx hb hK hH (cl_n1 hL) (cl_k1 hL) (cl_l1 hN) hi5 ew6 dX11_shape_15 ?_
    refine gf_1_1 hK hx hb hts hown hH (cl_nw0 hL hw6) (cl_kw0 hL hw6) (hts _ tw_265) (fun _ h9 => h9) dX11_shape_16 ?_
    refine nm_calli (nm_runS (X := X) (nl := nl) (k_X11_outside hL hN (hf := (rfl : f_X11_outside x2 (M.1 w6 1) = _))) hx hb hml hown hts hs0 hK hZ hH tw_321 tw_319 tw_320 tw_1 hd_X11_outside rfl rfl ⟨Nat.le_trans (Nat.le_of_ble_eq_true rfl) hRf, Nat.le_trans (Nat.le_of_ble_eq_true rfl) hRl⟩ rfl hl.1 rfl (Nat.le_of_ble_eq_true rfl) dX11_shape_19 ⟨Nat.zero_le _, Nat.zero_le _⟩) hH (fun H locs hH => ?_)
    have hH : nm_H D Y (fun q => s0 ≤ q) s.heap X nl ad (M.1, M.2, N, K) H locs := hH
    refine lv_if_eq (tgt := 32) hx hb dX11_shape_22 (by decide) (fun c7 => ?_) (fun c7 => ?_)
    · have hf := nm_it c7 hf
      refine lv_aload_n hx hb dX11_shape_32 rfl (lv_at hl 0 rfl) ?_
      refine gf_11_0 hK hx hb hts hown hH (cl_n0 hL) (cl_k0 hL) (hts _ tw_287) (fun _ h9 => h9) dX11_shape_33 ?_
      refine lv_iload_n hx hb dX11_shape_36 rfl (lv_at hl 1 rfl) ?_
      obtain ⟨hi8, hf⟩ := nm_chk hf
      obtain ⟨w9, ew9, hf⟩ := nm_let hf
      have hw9 : cl_w w9 := cl_wi ew9 hi8
      refine nm_cald hx hb hK hH (cl_n1 hL) (cl_k1 hL) (cl_l1 hN) hi8 ew9 dX11_shape_37 ?_
      refine gf_1_0 hK hx hb hts hown hH (cl_nw0 hL hw9) (cl_kw0 hL hw9) (hts _ tw_263) (fun _ h9 => h9) dX11_shape_38 ?_
      refine lv_iload_n hx hb dX11_shape_41 rfl (lv_at hl 2 rfl) ?_
      obtain ⟨hi10, hf⟩ := nm_chk hf
      obtain ⟨pz11, epz11, hf⟩ := nm_let hf
      obtain ⟨hz_pz11, hf⟩ := nm_nzd hf
      have hs_pz11 := cl_shp hL hw9 epz11 hi10 hz_pz11
      refine nm_sald hx hb hK hH (cl_nw1 hL hw9) (cl_kw1 hL hw9) (cl_lw1 hN hw9) hi10 epz11 hz_pz11 dX11_shape_42 ?_
      refine lv_astore (lv' := [(4, .ref (ad pz11)), (0, .ref (ad 0)), (1, .int x1), (2, .int x2), (3, .int x3)]) hx hb dX11_shape_43 hl (by decide) rfl (fun ls hl => ?_)
      refine lv_aload hx hb dX11_shape_45 (lv_at hl 0 rfl) ?_
      refine lv_ifnull hx hb dX11_shape_47 ?_
      refine lv_iload_n hx hb dX11_shape_50 rfl (lv_at hl 4 rfl) ?_
      refine lv_iconst (v := 3) hx hb dX11_shape_51 (by decide) ?_
      refine nm_calli (nm_runS (X := X) (nl := nl) (k_X11_outside hL hN (hf := (rfl : f_X11_outside x3 (3 : Int32) = _))) hx hb hml hown hts hs0 hK hZ hH tw_321 tw_319 tw_320 tw_1 hd_X11_outside rfl rfl ⟨Nat.le_trans (Nat.le_of_ble_eq_true rfl) hRf, Nat.le_trans (Nat.le_of_ble_eq_true rfl) hRl⟩ rfl hl.1 rfl (Nat.le_of_ble_eq_true rfl) dX11_shape_52 ⟨Nat.zero_le _, Nat.zero_le _⟩) hH (fun H locs hH => ?_)
      have hH : nm_H D Y (fun q => s0 ≤ q) s.heap X nl ad (M.1, M.2, N, K) H locs := hH
      refine lv_if_eq (tgt := 65) hx hb dX11_shape_55 (by decide) (fun c12 => ?_) (fun c12 => ?_)
      · have hf := nm_it c12 hf
        refine lv_iload_n hx hb dX11_shape_65 rfl (lv_at hl 4 rfl) ?_
        refine lv_if_ne (tgt := 77) hx hb dX11_shape_66 (by decide) (fun c13 => ?_) (fun c13 => ?_)
        · have hf := nm_ie c13 hf
          refine lv_iload_n hx hb dX11_shape_77 rfl (lv_at hl 4 rfl) ?_
          refine lv_iconst (v := 1) hx hb dX11_shape_78 (by decide) ?_
          refine lv_icmp_ne (tgt := 90) hx hb dX11_shape_79 (by decide) (fun c14 => ?_) (fun c14 => ?_)
          · have hf := nm_ie c14 hf
            refine lv_aload hx hb dX11_shape_90 (lv_at hl 0 rfl) ?_
            refine gfS_2 hK hx hb hts hown hH hs_pz11 (hts _ tw_352) dX11_shape_92 ?_
            exact nm_iret hx hb hr hlocks hQ hH (congrArg Prod.fst (Option.some.inj hf)) (congrArg (fun q => (q.2.1, q.2.2, N, K)) (Option.some.inj hf)) dX11_shape_95
          · have hf := nm_it c14 hf
            refine lv_aload hx hb dX11_shape_82 (lv_at hl 0 rfl) ?_
            refine gfS_1 hK hx hb hts hown hH hs_pz11 (hts _ tw_348) dX11_shape_84 ?_
            refine lv_goto (tgt := 95) hx hb dX11_shape_87 (by decide) ?_
            exact nm_iret hx hb hr hlocks hQ hH (congrArg Prod.fst (Option.some.inj hf)) (congrArg (fun q => (q.2.1, q.2.2, N, K)) (Option.some.inj hf)) dX11_shape_95
        · have hf := nm_it c13 hf
          refine lv_aload hx hb dX11_shape_69 (lv_at hl 0 rfl) ?_
          refine gfS_0 hK hx hb hts hown hH hs_pz11 (hts _ tw_342) dX11_shape_71 ?_
          refine lv_goto (tgt := 95) hx hb dX11_shape_74 (by decide) ?_
          exact nm_iret hx hb hr hlocks hQ hH (congrArg Prod.fst (Option.some.inj hf)) (congrArg (fun q => (q.2.1, q.2.2, N, K)) (Option.some.inj hf)) dX11_shape_95
      · have hf := nm_ie c12 hf
        refine lv_aload_n hx hb dX11_shape_58 rfl (lv_at hl 1 rfl) ?_
        refine lv_bipush (v := -7) hx hb dX11_shape_59 (by decide) ?_
        obtain ⟨r17, M15, hc16, hf⟩ := nm_sd2 hf
        refine nm_calli (nm_runV (X := X) (nl := nl) (k_X11_refuse hL hN (hf := hc16)) hx hb hml hown hts hs0 hK hZ hH tw_325 tw_322 tw_324 (sw_X11_refuse) tw_1 hd_X11_refuse (cl_n0 hL) (cl_k0 hL) (by decide) rfl rfl rfl ⟨Nat.le_trans (Nat.le_of_ble_eq_true rfl) hRf, Nat.le_trans (Nat.le_of_ble_eq_true rfl) hRl⟩ rfl hl.1 rfl (Nat.le_of_ble_eq_true rfl) dX11_shape_61 ⟨Nat.zero_le _, Nat.zero_le _⟩) hH (fun H locs hH => ?_)
        have hH : nm_H D Y (fun q => s0 ≤ q) s.heap X nl ad (M15.1, M15.2, N, K) H locs := hH
        exact nm_iret hx hb hr hlocks hQ hH (congrArg Prod.fst (Option.some.inj hf)) (congrArg (fun q => (q.2.1, q.2.2, N, K)) (Option.some.inj hf)) dX11_shape_64
    · have hf := nm_ie c7 hf
      refine lv_aload_n hx hb dX11_shape_25 rfl (lv_at hl 0 rfl) ?_
      refine lv_bipush (v := -3) hx hb dX11_shape_26 (by decide) ?_
      obtain ⟨r20, M18, hc19, hf⟩ := nm_sd2 hf
      refine nm_calli (nm_runV (X := X) (nl := nl) (k_X11_refuse hL hN (hf := hc19)) hx hb hml hown hts hs0 hK hZ hH tw_325 tw_322 tw_324 (sw_X11_refuse) tw_1 hd_X11_refuse (cl_n0 hL) (cl_k0 hL) (by decide) rfl rfl rfl ⟨Nat.le_trans (Nat.le_of_ble_eq_true rfl) hRf, Nat.le_trans (Nat.le_of_ble_eq_true rfl) hRl⟩ rfl hl.1 rfl (Nat.le_of_ble_eq_true rfl) dX11_shape_28 ⟨Nat.zero_le _, Nat.zero_le _⟩) hH (fun H locs hH => ?_)
      have hH : nm_H D Y (fun q => s0 ≤ q) s.heap X nl ad (M18.1, M18.2, N, K) H locs := hH
      exact nm_iret hx hb hr hlocks hQ hH (congrArg Prod.fst (Option.some.inj hf)) (congrArg (fun q => (q.2.1, q.2.2, N, K)) (Option.some.inj hf)) dX11_shape_31
def f_X11_times (K : Nat → Nat) (x1 : Int32) (x2 : Int32) (x3 : Int32) (x4 : Int32) (M : cm) : Option (Int32 × cm) :=
(if (f_X11_outside x1 (8 : Int32)) = 0 then
nm_c x1 8 (
nm_l (1000 + 100 * x1.toNatClampNeg) fun w6 =>
(if (f_X11_outside x2 (M.1 w6 1)) = 0 then
nm_c x1 8 (
nm_l (1000 + 100 * x1.toNatClampNeg) fun w9 =>
nm_c x2 16 (
nm_l (w9 + 10 + x2.toNatClampNeg) fun pz11 =>
nm_nz (K pz11) (
(if (nm_is (K pz11) 7) = 0 then
nm_s2 (f_X11_refuse (-5 : Int32) M) fun r15 M13 =>
some (r15, M13)
else
(if (f_X7_canBeTold x3) = 0 then
nm_s2 (f_X11_refuse (-7 : Int32) M) fun r19 M17 =>
some (r19, M17)
else
(if (f_X7_canBeTold x4) = 0 then
nm_s2 (f_X11_refuse (-7 : Int32) M) fun r27 M25 =>
some (r27, M25)
else
nm_s1 (f_X7_repeat pz11 x3 x4 M) fun M21 =>
nm_s1 (f_X11_outdate x1 M21) fun M23 =>
some ((1 : Int32), M23)))))))
else
nm_s2 (f_X11_refuse (-3 : Int32) M) fun r30 M28 =>
some (r30, M28)))
else
nm_s2 (f_X11_refuse (-3 : Int32) M) fun r4 M2 =>
some (r4, M2))
set_option maxHeartbeats 4000000 in
set_option maxRecDepth 100000 in
theorem k_X11_times {l : Launch} {D : va_G} {Y : nm_Y} {s0 : Nat} {X : va_W} {ad : Nat → Nat} {nl : List Nat} {N K : Nat → Nat} (hL : cl_L nl K) (hN : cl_N N) {x1 : Int32} {x2 : Int32} {x3 : Int32} {x4 : Int32} {M : cm} {r0 : Int32} {M0 : cm} (hf : f_X11_times K x1 x2 x3 x4 M = some (r0, M0)) :
    nm_Met l yX11_times cX11_times 7 (some .int) { frames := 1, cells := 0, slots := 0, locals := 22 } [.ref (ad 0), .int x1, .int x2, .int x3, .int x4] D Y s0 (nm_W Y X nl ad (M.1, M.2, N, K)) (nm_Qi D s0 r0 (nm_W Y X nl ad (M0.1, M0.2, N, K))) 0 0 := by
  refine nm_of (by decide) (Nat.le_of_ble_eq_true rfl) ?_
  intro p e R s m args below meth c Q ls hx hb hr hlocks hml hown hts hs0 hK hZ hRf hRl hRc hRs hQ hP hD hl
  have hH : nm_H D Y (fun q => s0 ≤ q) s.heap X nl ad (M.1, M.2, N, K) s.heap [] := ⟨hP, hD, va_S.rf⟩
  have hl : lv_has ls 7 [(0, .ref (ad 0)), (1, .int x1), (2, .int x2), (3, .int x3), (4, .int x4)] := hl
  unfold f_X11_times at hf
  refine lv_iload_n hx hb dX11_times_0 rfl (lv_at hl 1 rfl) ?_
  refine lv_bipush (v := 8) hx hb dX11_times_1 (by decide) ?_
  refine nm_calli (nm_runS (X := X) (nl := nl) (k_X11_outside hL hN (hf := (rfl : f_X11_outside x1 (8 : Int32) = _))) hx hb hml hown hts hs0 hK hZ hH tw_321 tw_319 tw_320 tw_1 hd_X11_outside rfl rfl ⟨Nat.le_trans (Nat.le_of_ble_eq_true rfl) hRf, Nat.le_trans (Nat.le_of_ble_eq_true rfl) hRl⟩ rfl hl.1 rfl (Nat.le_of_ble_eq_true rfl) dX11_times_3 ⟨Nat.zero_le _, Nat.zero_le _⟩) hH (fun H locs hH => ?_)
  have hH : nm_H D Y (fun q => s0 ≤ q) s.heap X nl ad (M.1, M.2, N, K) H locs := hH
  refine lv_if_ne (tgt := 25) hx hb dX11_times_6 (by decide) (fun c1 => ?_) (fun c1 => ?_)
  · have hf := nm_ie c1 hf
    refine lv_aload_n hx hb dX11_times_25 rfl (lv_at hl 0 rfl) ?_
    refine lv_bipush (v := -3) hx hb dX11_times_26 (by decide) ?_
    obtain ⟨r4, M2, hc3, hf⟩ := nm_sd2 hf
    refine nm_calli (nm_runV (X := X) (nl := nl) (k_X11_refuse hL hN (hf := hc3)) hx hb hml hown hts hs0 hK hZ hH tw_325 tw_322 tw_324 (sw_X11_refuse) tw_1 hd_X11_refuse (cl_n0 hL) (cl_k0 hL) (by decide) rfl rfl rfl ⟨Nat.le_trans (Nat.le_of_ble_eq_true rfl) hRf, Nat.le_trans (Nat.le_of_ble_eq_true rfl) hRl⟩ rfl hl.1 rfl (Nat.le_of_ble_eq_true rfl) dX11_times_28 ⟨Nat.zero_le _, Nat.zero_le _⟩) hH (fun H locs hH => ?_)
    have hH : nm_H D Y (fun q => s0 ≤ q) s.heap X nl ad (M2.1, M2.2, N, K) H locs := hH
    exact nm_iret hx hb hr hlocks hQ hH (congrArg Prod.fst (Option.some.inj hf)) (congrArg (fun q => (q.2.1, q.2.2, N, K)) (Option.some.inj hf)) dX11_times_31
  · have hf := nm_it c1 hf
    refine lv_iload_n hx hb dX11_times_9 rfl (lv_at hl 2 rfl) ?_
    refine lv_aload_n hx hb dX11_times_10 rfl (lv_at hl 0 rfl) ?_
    refine gf_11_0 hK hx hb hts hown hH (cl_n0 hL) (cl_k0 hL) (hts _ tw_287) (fun _ h9 => h9) dX11_times_11 ?_
    refine lv_iload_n hx hb dX11_times_14 rfl (lv_at hl 1 rfl) ?_
    obtain ⟨hi5, hf⟩ := nm_chk hf
    obtain ⟨w6, ew6, hf⟩ := nm_let hf
    have hw6 : cl_w w6 := cl_wi ew6 hi5
    refine nm_cald hx hb hK hH (cl_n1 hL) (cl_k1 hL) (cl_l1 hN) hi5 ew6 dX11_times_15 ?_
    refine gf_1_1 hK hx hb hts hown hH (cl_nw0 hL hw6) (cl_kw0 hL hw6) (hts _ tw_265) (fun _ h9 => h9) dX11_times_16 ?_
    refine nm_calli (nm_runS (X := X) (nl := nl) (k_X11_outside hL hN (hf := (rfl : f_X11_outside x2 (M.1 w6 1) = _))) hx hb hml hown hts hs0 hK hZ hH tw_321 tw_319 tw_320 tw_1 hd_X11_outside rfl rfl ⟨Nat.le_trans (Nat.le_of_ble_eq_true rfl) hRf, Nat.le_trans (Nat.le_of_ble_eq_true rfl) hRl⟩ rfl hl.1 rfl (Nat.le_of_ble_eq_true rfl) dX11_times_19 ⟨Nat.zero_le _, Nat.zero_le _⟩) hH (fun H locs hH => ?_)
    have hH : nm_H D Y (fun q => s0 ≤ q) s.heap X nl ad (M.1, M.2, N, K) H locs := hH
    refine lv_if_eq (tgt := 32) hx hb dX11_times_22 (by decide) (fun c7 => ?_) (fun c7 => ?_)
    · have hf := nm_it c7 hf
      refine lv_aload_n hx hb dX11_times_32 rfl (lv_at hl 0 rfl) ?_
      refine gf_11_0 hK hx hb hts hown hH (cl_n0 hL) (cl_k0 hL) (hts _ tw_287) (fun _ h9 => h9) dX11_times_33 ?_
      refine lv_iload_n hx hb dX11_times_36 rfl (lv_at hl 1 rfl) ?_
      obtain ⟨hi8, hf⟩ := nm_chk hf
      obtain ⟨w9, ew9, hf⟩ := nm_let hf
      have hw9 : cl_w w9 := cl_wi ew9 hi8
      refine nm_cald hx hb hK hH (cl_n1 hL) (cl_k1 hL) (cl_l1 hN) hi8 ew9 dX11_times_37 ?_
      refine gf_1_0 hK hx hb hts hown hH (cl_nw0 hL hw9) (cl_kw0 hL hw9) (hts _ tw_263) (fun _ h9 => h9) dX11_times_38 ?_
      refine lv_iload_n hx hb dX11_times_41 rfl (lv_at hl 2 rfl) ?_
      obtain ⟨hi10, hf⟩ := nm_chk hf
      obtain ⟨pz11, epz11, hf⟩ := nm_let hf
      obtain ⟨hz_pz11, hf⟩ := nm_nzd hf
      have hs_pz11 := cl_shp hL hw9 epz11 hi10 hz_pz11
      refine nm_sald hx hb hK hH (cl_nw1 hL hw9) (cl_kw1 hL hw9) (cl_lw1 hN hw9) hi10 epz11 hz_pz11 dX11_times_42 ?_
      refine lv_astore (lv' := [(6, .ref (ad pz11)), (0, .ref (ad 0)), (1, .int x1), (2, .int x2), (3, .int x3), (4, .int x4)]) hx hb dX11_times_43 hl (by decide) rfl (fun ls hl => ?_)
      refine lv_aload hx hb dX11_times_45 (lv_at hl 0 rfl) ?_
      refine nm_inst7 hx hb hK hZ hown hH hs_pz11 (hts _ tw_423) dX11_times_47 ?_
      refine lv_if_eq (tgt := 97) hx hb dX11_times_50 (by decide) (fun c12 => ?_) (fun c12 => ?_)
      · have hf := nm_it c12 hf
        refine lv_aload_n hx hb dX11_times_97 rfl (lv_at hl 1 rfl) ?_
        refine lv_bipush (v := -5) hx hb dX11_times_98 (by decide) ?_
        obtain ⟨r15, M13, hc14, hf⟩ := nm_sd2 hf
        refine nm_calli (nm_runV (X := X) (nl := nl) (k_X11_refuse hL hN (hf := hc14)) hx hb hml hown hts hs0 hK hZ hH tw_325 tw_322 tw_324 (sw_X11_refuse) tw_1 hd_X11_refuse (cl_n0 hL) (cl_k0 hL) (by decide) rfl rfl rfl ⟨Nat.le_trans (Nat.le_of_ble_eq_true rfl) hRf, Nat.le_trans (Nat.le_of_ble_eq_true rfl) hRl⟩ rfl hl.1 rfl (Nat.le_of_ble_eq_true rfl) dX11_times_100 ⟨Nat.zero_le _, Nat.zero_le _⟩) hH (fun H locs hH => ?_)
        have hH : nm_H D Y (fun q => s0 ≤ q) s.heap X nl ad (M13.1, M13.2, N, K) H locs := hH
        exact nm_iret hx hb hr hlocks hQ hH (congrArg Prod.fst (Option.some.inj hf)) (congrArg (fun q => (q.2.1, q.2.2, N, K)) (Option.some.inj hf)) dX11_times_103
      · have hf := nm_ie c12 hf
        have hk_pz11 := nm_is1 c12
        refine lv_aload hx hb dX11_times_53 (lv_at hl 0 rfl) ?_
        refine nm_cast7 hx hb hK hown hH hs_pz11.1 hk_pz11 (hts _ tw_423) dX11_times_55 ?_
        refine lv_astore (lv' := [(5, .ref (ad pz11)), (6, .ref (ad pz11)), (0, .ref (ad 0)), (1, .int x1), (2, .int x2), (3, .int x3), (4, .int x4)]) hx hb dX11_times_58 hl (by decide) rfl (fun ls hl => ?_)
        refine lv_iload_n hx hb dX11_times_60 rfl (lv_at hl 5 rfl) ?_
        refine nm_calli (nm_runS (X := X) (nl := nl) (k_X7_canBeTold hL hN (hf := (rfl : f_X7_canBeTold x3 = _))) hx hb hml hown hts hs0 hK hZ hH tw_459 tw_457 tw_458 tw_15 hd_X7_canBeTold rfl rfl ⟨Nat.le_trans (Nat.le_of_ble_eq_true rfl) hRf, Nat.le_trans (Nat.le_of_ble_eq_true rfl) hRl⟩ rfl hl.1 rfl (Nat.le_of_ble_eq_true rfl) dX11_times_61 ⟨Nat.zero_le _, Nat.zero_le _⟩) hH (fun H locs hH => ?_)
        have hH : nm_H D Y (fun q => s0 ≤ q) s.heap X nl ad (M.1, M.2, N, K) H locs := hH
        refine lv_if_eq (tgt := 75) hx hb dX11_times_64 (by decide) (fun c16 => ?_) (fun c16 => ?_)
        · have hf := nm_it c16 hf
          refine lv_aload_n hx hb dX11_times_75 rfl (lv_at hl 2 rfl) ?_
          refine lv_bipush (v := -7) hx hb dX11_times_76 (by decide) ?_
          obtain ⟨r19, M17, hc18, hf⟩ := nm_sd2 hf
          refine nm_calli (nm_runV (X := X) (nl := nl) (k_X11_refuse hL hN (hf := hc18)) hx hb hml hown hts hs0 hK hZ hH tw_325 tw_322 tw_324 (sw_X11_refuse) tw_1 hd_X11_refuse (cl_n0 hL) (cl_k0 hL) (by decide) rfl rfl rfl ⟨Nat.le_trans (Nat.le_of_ble_eq_true rfl) hRf, Nat.le_trans (Nat.le_of_ble_eq_true rfl) hRl⟩ rfl hl.1 rfl (Nat.le_of_ble_eq_true rfl) dX11_times_78 ⟨Nat.zero_le _, Nat.zero_le _⟩) hH (fun H locs hH => ?_)
          have hH : nm_H D Y (fun q => s0 ≤ q) s.heap X nl ad (M17.1, M17.2, N, K) H locs := hH
          exact nm_iret hx hb hr hlocks hQ hH (congrArg Prod.fst (Option.some.inj hf)) (congrArg (fun q => (q.2.1, q.2.2, N, K)) (Option.some.inj hf)) dX11_times_81
        · have hf := nm_ie c16 hf
          refine lv_iload hx hb dX11_times_67 (lv_at hl 6 rfl) ?_
          refine nm_calli (nm_runS (X := X) (nl := nl) (k_X7_canBeTold hL hN (hf := (rfl : f_X7_canBeTold x4 = _))) hx hb hml hown hts hs0 hK hZ hH tw_459 tw_457 tw_458 tw_15 hd_X7_canBeTold rfl rfl ⟨Nat.le_trans (Nat.le_of_ble_eq_true rfl) hRf, Nat.le_trans (Nat.le_of_ble_eq_true rfl) hRl⟩ rfl hl.1 rfl (Nat.le_of_ble_eq_true rfl) dX11_times_69 ⟨Nat.zero_le _, Nat.zero_le _⟩) hH (fun H locs hH => ?_)
          have hH : nm_H D Y (fun q => s0 ≤ q) s.heap X nl ad (M.1, M.2, N, K) H locs := hH
          refine lv_if_ne (tgt := 82) hx hb dX11_times_72 (by decide) (fun c20 => ?_) (fun c20 => ?_)
          · have hf := nm_ie c20 hf
            refine lv_aload hx hb dX11_times_82 (lv_at hl 0 rfl) ?_
            refine lv_iload_n hx hb dX11_times_84 rfl (lv_at hl 5 rfl) ?_
            refine lv_iload hx hb dX11_times_85 (lv_at hl 6 rfl) ?_
            obtain ⟨M21, hc22, hf⟩ := nm_sd1 hf
            refine nm_callv (nm_runV (X := X) (nl := nl) (k_X7_repeat hL hN hs_pz11.1 hk_pz11 (hf := hc22)) hx hb hml hown hts hs0 hK hZ hH tw_463 tw_460 tw_461 (sw_X7_repeat) tw_15 hd_X7_repeat hs_pz11.1 hk_pz11 (by decide) rfl rfl rfl ⟨Nat.le_trans (Nat.le_of_ble_eq_true rfl) hRf, Nat.le_trans (Nat.le_of_ble_eq_true rfl) hRl⟩ rfl hl.1 rfl (Nat.le_of_ble_eq_true rfl) dX11_times_87 ⟨Nat.zero_le _, Nat.zero_le _⟩) hH (fun H locs hH => ?_)
            have hH : nm_H D Y (fun q => s0 ≤ q) s.heap X nl ad (M21.1, M21.2, N, K) H locs := hH
            refine lv_aload_n hx hb dX11_times_90 rfl (lv_at hl 2 rfl) ?_
            refine lv_iload_n hx hb dX11_times_91 rfl (lv_at hl 3 rfl) ?_
            obtain ⟨M23, hc24, hf⟩ := nm_sd1 hf
            refine nm_callv (nm_runV (X := X) (nl := nl) (k_X11_outdate hL hN (hf := hc24)) hx hb hml hown hts hs0 hK hZ hH tw_387 tw_384 tw_386 (sw_X11_outdate) tw_1 hd_X11_outdate (cl_n0 hL) (cl_k0 hL) (by decide) rfl rfl rfl ⟨Nat.le_trans (Nat.le_of_ble_eq_true rfl) hRf, Nat.le_trans (Nat.le_of_ble_eq_true rfl) hRl⟩ rfl hl.1 rfl (Nat.le_of_ble_eq_true rfl) dX11_times_92 ⟨Nat.zero_le _, Nat.zero_le _⟩) hH (fun H locs hH => ?_)
            have hH : nm_H D Y (fun q => s0 ≤ q) s.heap X nl ad (M23.1, M23.2, N, K) H locs := hH
            refine lv_iconst (v := 1) hx hb dX11_times_95 (by decide) ?_
            exact nm_iret hx hb hr hlocks hQ hH (congrArg Prod.fst (Option.some.inj hf)) (congrArg (fun q => (q.2.1, q.2.2, N, K)) (Option.some.inj hf)) dX11_times_96
          · have hf := nm_it c20 hf
            refine lv_aload_n hx hb dX11_times_75 rfl (lv_at hl 2 rfl) ?_
            refine lv_bipush (v := -7) hx hb dX11_times_76 (by decide) ?_
            obtain ⟨r27, M25, hc26, hf⟩ := nm_sd2 hf
            refine nm_calli (nm_runV (X := X) (nl := nl) (k_X11_refuse hL hN (hf := hc26)) hx hb hml hown hts hs0 hK hZ hH tw_325 tw_322 tw_324 (sw_X11_refuse) tw_1 hd_X11_refuse (cl_n0 hL) (cl_k0 hL) (by decide) rfl rfl rfl ⟨Nat.le_trans (Nat.le_of_ble_eq_true rfl) hRf, Nat.le_trans (Nat.le_of_ble_eq_true rfl) hRl⟩ rfl hl.1 rfl (Nat.le_of_ble_eq_true rfl) dX11_times_78 ⟨Nat.zero_le _, Nat.zero_le _⟩) hH (fun H locs hH => ?_)
            have hH : nm_H D Y (fun q => s0 ≤ q) s.heap X nl ad (M25.1, M25.2, N, K) H locs := hH
            exact nm_iret hx hb hr hlocks hQ hH (congrArg Prod.fst (Option.some.inj hf)) (congrArg (fun q => (q.2.1, q.2.2, N, K)) (Option.some.inj hf)) dX11_times_81
    · have hf := nm_ie c7 hf
      refine lv_aload_n hx hb dX11_times_25 rfl (lv_at hl 0 rfl) ?_
      refine lv_bipush (v := -3) hx hb dX11_times_26 (by decide) ?_
      obtain ⟨r30, M28, hc29, hf⟩ := nm_sd2 hf
      refine nm_calli (nm_runV (X := X) (nl := nl) (k_X11_refuse hL hN (hf := hc29)) hx hb hml hown hts hs0 hK hZ hH tw_325 tw_322 tw_324 (sw_X11_refuse) tw_1 hd_X11_refuse (cl_n0 hL) (cl_k0 hL) (by decide) rfl rfl rfl ⟨Nat.le_trans (Nat.le_of_ble_eq_true rfl) hRf, Nat.le_trans (Nat.le_of_ble_eq_true rfl) hRl⟩ rfl hl.1 rfl (Nat.le_of_ble_eq_true rfl) dX11_times_28 ⟨Nat.zero_le _, Nat.zero_le _⟩) hH (fun H locs hH => ?_)
      have hH : nm_H D Y (fun q => s0 ≤ q) s.heap X nl ad (M28.1, M28.2, N, K) H locs := hH
      exact nm_iret hx hb hr hlocks hQ hH (congrArg Prod.fst (Option.some.inj hf)) (congrArg (fun q => (q.2.1, q.2.2, N, K)) (Option.some.inj hf)) dX11_times_31
def f_X10_search_J164 (rec : Int32 → cm → Option (Int32 × cm)) (N : Nat → Nat) (K : Nat → Nat) (x3 : Int32) (M5 : cm) (k : Int32 → cm → Option (Int32 × cm)) (kx12 : cm → Option (Int32 × cm)) : Option (Int32 × cm) :=
k (x3 + 1) M5
def f_X10_search_J86 (rec : Int32 → cm → Option (Int32 × cm)) (N : Nat → Nat) (K : Nat → Nat) (x2 : Int32) (x3 : Int32) (v4 : Int32) (t86_4 : Int32) (t86_3 : Int32) (t86_2 : Int32) (M8 : cm) (k : Int32 → cm → Option (Int32 × cm)) (kx12 : cm → Option (Int32 × cm)) : Option (Int32 × cm) :=
nm_s2 (f_X10_fit N t86_2 t86_3 t86_4 M8) fun r11 M9 =>
(if r11 = (-1 : Int32) then
f_X10_search_J164 rec N K x3 M9 k kx12
else
nm_l ((nm_up M9.1 400 8 ((M9.1 400 8) ||| ((1 : Int32) <<< (v4 &&& 31))), M9.2)) fun M13 =>
nm_c x2 12 (
nm_l (nm_up M13.1 403 x2.toNatClampNeg v4, M13.2) fun M15 =>
nm_s2 (rec (x2 + (1 : Int32)) M15) fun r18 M16 =>
(if r18 = 0 then
nm_l ((nm_up M16.1 400 8 ((M16.1 400 8) &&& (((1 : Int32) <<< (v4 &&& 31)) ^^^ (-1 : Int32))), M16.2)) fun M20 =>
nm_s1 (f_X10_part r11 M20) fun M21 =>
(if (M21.1 400 2) = 0 then
f_X10_search_J164 rec N K x3 M21 k kx12
else
some ((0 : Int32), M21))
else
some ((1 : Int32), M16))))
def f_X10_search_L12 (rec : Int32 → cm → Option (Int32 × cm)) (N : Nat → Nat) (K : Nat → Nat) (x2 : Int32) (kx12 : cm → Option (Int32 × cm)) : Nat → Int32 → cm → Option (Int32 × cm)
  | 0, _, _ => none
  | n12 + 1, x3, M2 =>
    (if ((2 : Int32) * (M2.1 400 0)) ≤ x3 then
    kx12 M2
    else
    nm_l (x3 / (2 : Int32)) fun v4 =>
    (if ((M2.1 400 8) &&& ((1 : Int32) <<< (v4 &&& 31))) = 0 then
    (if (M2.1 400 1) < (5000 : Int32) then
    nm_l ((nm_up M2.1 400 1 ((M2.1 400 1) + (1 : Int32)), M2.2)) fun M8 =>
    (if (x3 - x3 / (2 : Int32) * (2 : Int32)) = (1 : Int32) then
    f_X10_search_J86 rec N K x2 x3 v4 (1 : Int32) v4 x2 M8 (f_X10_search_L12 rec N K x2 kx12 n12) kx12
    else
    f_X10_search_J86 rec N K x2 x3 v4 (0 : Int32) v4 x2 M8 (f_X10_search_L12 rec N K x2 kx12 n12) kx12)
    else
    nm_l ((nm_up M2.1 400 2 (1 : Int32), M2.2)) fun M25 =>
    some ((0 : Int32), M25))
    else
    f_X10_search_J164 rec N K x3 M2 (f_X10_search_L12 rec N K x2 kx12 n12) kx12))
def f_X10_searchB (rec : Int32 → cm → Option (Int32 × cm)) (N : Nat → Nat) (K : Nat → Nat) (x2 : Int32) (M : cm) : Option (Int32 × cm) :=
(if x2 < (M.1 400 0) then
nm_l (fun (M26 : cm) =>
some ((0 : Int32), M26)) fun kx12 =>
f_X10_search_L12 rec N K x2 kx12 nm_F (0 : Int32) M
else
some ((1 : Int32), M))
def f_X10_search (N : Nat → Nat) (K : Nat → Nat) : Nat → Int32 → cm → Option (Int32 × cm)
  | 0 => fun _ _ => none
  | d + 1 => fun x2 M => f_X10_searchB (f_X10_search N K d) N K x2 M
set_option maxHeartbeats 4000000 in
set_option maxRecDepth 100000 in
theorem k_X10_search {l : Launch} {D : va_G} {Y : nm_Y} {s0 : Nat} {X : va_W} {ad : Nat → Nat} {nl : List Nat} {N K : Nat → Nat} (hL : cl_L nl K) (hN : cl_N N) : ∀ (d : Nat) {x2 : Int32} {M : cm} {r0 : Int32} {M0 : cm}, f_X10_search N K d x2 M = some (r0, M0) →
    nm_Met l yX10_search cX10_search 6 (some .boolean) { frames := 3 + d, cells := 0, slots := 0, locals := 72 + 25 * d } [.ref (ad 400), .ref (ad 300), .int x2] D Y s0 (nm_W Y X nl ad (M.1, M.2, N, K)) (nm_Qi D s0 r0 (nm_W Y X nl ad (M0.1, M0.2, N, K))) 0 0 := by
  intro d
  induction d with
  | zero =>
    intro x2 M r0 M0 hf
    cases hf
  | succ d ihd =>
    intro x2 M r0 M0 hf
    refine nm_of (by decide) (Nat.le_of_ble_eq_true rfl) ?_
    intro p e R s m args below meth c Q ls hx hb hr hlocks hml hown hts hs0 hK hZ hRf hRl hRc hRs hQ hP hD hl
    have hH : nm_H D Y (fun q => s0 ≤ q) s.heap X nl ad (M.1, M.2, N, K) s.heap [] := ⟨hP, hD, va_S.rf⟩
    have hl : lv_has ls 6 [(0, .ref (ad 400)), (1, .ref (ad 300)), (2, .int x2)] := hl
    obtain ⟨rec, hrec⟩ : ∃ g, g = f_X10_search N K d := ⟨_, rfl⟩
    have hf : f_X10_searchB (f_X10_search N K d) N K x2 M = some (r0, M0) := hf
    rw [← hrec] at hf
    unfold f_X10_searchB at hf
    refine lv_iload_n hx hb dX10_search_0 rfl (lv_at hl 2 rfl) ?_
    refine lv_aload_n hx hb dX10_search_1 rfl (lv_at hl 0 rfl) ?_
    refine gf_10_0 hK hx hb hts hown hH (cl_n400 hL) (cl_k400 hL) (hts _ tw_223) (fun _ h9 => h9) dX10_search_2 ?_
    refine lv_icmp_lt (tgt := 10) hx hb dX10_search_5 (by decide) (fun c1 => ?_) (fun c1 => ?_)
    · have hf := nm_it c1 hf
      refine lv_iconst (v := 0) hx hb dX10_search_10 (by decide) ?_
      refine lv_istore_n (lv' := [(3, .int (0 : Int32)), (0, .ref (ad 400)), (1, .ref (ad 300)), (2, .int x2)]) hx hb dX10_search_11 rfl hl (by decide) rfl (fun ls hl => ?_)
      obtain ⟨kx12, hkx12, hf⟩ := nm_let hf
      have hX12 : ∀ (M26 : cm) (H : Heap) (locs : List Loc) (ls : Array Slot), nm_H D Y (fun q => s0 ≤ q) s.heap X nl ad (M26.1, M26.2, N, K) H locs → lv_has ls 6 [] → kx12 M26 = some (r0, M0) → W p l e R s m args below meth c H locs 0 0 Q (F0 m 170 ls []) := by
        intro M26 H locs ls hH hl hf
        rw [hkx12] at hf
        refine lv_iconst (v := 0) hx hb dX10_search_170 (by decide) ?_
        exact nm_zret hx hb hr hlocks hQ hH rfl (congrArg Prod.fst (Option.some.inj hf)) (congrArg (fun q => (q.2.1, q.2.2, N, K)) (Option.some.inj hf)) dX10_search_171
      have hL12 : ∀ (n12 : Nat) (x3 : Int32) (M2 : cm) (H : Heap) (locs : List Loc) (ls : Array Slot), nm_H D Y (fun q => s0 ≤ q) s.heap X nl ad (M2.1, M2.2, N, K) H locs → lv_has ls 6 [(0, .ref (ad 400)), (1, .ref (ad 300)), (2, .int x2), (3, .int x3)] → f_X10_search_L12 rec N K x2 kx12 n12 x3 M2 = some (r0, M0) → W p l e R s m args below meth c H locs 0 0 Q (F0 m 12 ls []) := by
        intro n12
        induction n12 with
        | zero =>
          intro x3 M2 H locs ls hH hl hf
          cases hf
        | succ n12 ih12 =>
          intro x3 M2 H locs ls hH hl hf
          rw [f_X10_search_L12] at hf
          refine lv_iload_n hx hb dX10_search_12 rfl (lv_at hl 3 rfl) ?_
          refine lv_iconst (v := 2) hx hb dX10_search_13 (by decide) ?_
          refine lv_aload_n hx hb dX10_search_14 rfl (lv_at hl 0 rfl) ?_
          refine gf_10_0 hK hx hb hts hown hH (cl_n400 hL) (cl_k400 hL) (hts _ tw_223) (fun _ h9 => h9) dX10_search_15 ?_
          refine lv_imul hx hb dX10_search_18 ?_
          refine lv_icmp_ge (tgt := 170) hx hb dX10_search_19 (by decide) (fun c3 => ?_) (fun c3 => ?_)
          · have hf := nm_it c3 hf
            exact hX12 M2 _ _ _ hH (lv_sub hl [] rfl) hf
          · have hf := nm_ie c3 hf
            refine lv_iload_n hx hb dX10_search_22 rfl (lv_at hl 3 rfl) ?_
            refine lv_iconst (v := 2) hx hb dX10_search_23 (by decide) ?_
            refine lv_idiv hx hb dX10_search_24 (by decide) ?_
            obtain ⟨v4, ev4, hf⟩ := nm_let hf
            refine nm_topi ev4 ?_
            refine lv_istore (lv' := [(4, .int v4), (0, .ref (ad 400)), (1, .ref (ad 300)), (2, .int x2), (3, .int x3)]) hx hb dX10_search_25 hl (by decide) rfl (fun ls hl => ?_)
            refine lv_aload_n hx hb dX10_search_27 rfl (lv_at hl 1 rfl) ?_
            refine gf_10_8 hK hx hb hts hown hH (cl_n400 hL) (cl_k400 hL) (hts _ tw_235) (fun _ h9 => h9) dX10_search_28 ?_
            refine lv_iconst (v := 1) hx hb dX10_search_31 (by decide) ?_
            refine lv_iload hx hb dX10_search_32 (lv_at hl 0 rfl) ?_
            refine lv_ishl hx hb dX10_search_34 ?_
            refine lv_iand hx hb dX10_search_35 ?_
            have hJ164 : ∀ (M5 : cm) (H : Heap) (locs : List Loc) (ls : Array Slot), nm_H D Y (fun q => s0 ≤ q) s.heap X nl ad (M5.1, M5.2, N, K) H locs → lv_has ls 6 [(0, .ref (ad 400)), (1, .ref (ad 300)), (2, .int x2), (3, .int x3)] → f_X10_search_J164 rec N K x3 M5 (f_X10_search_L12 rec N K x2 kx12 n12) kx12 = some (r0, M0) → W p l e R s m args below meth c H locs 0 0 Q (F0 m 164 ls []) := by
              intro M5 H locs ls hH hl hf
              unfold f_X10_search_J164 at hf
              refine lv_iinc (v := x3 + 1) (lv' := [(3, .int (x3 + 1)), (0, .ref (ad 400)), (1, .ref (ad 300)), (2, .int x2)]) hx hb dX10_search_164 hl (k := 3) rfl rfl (by decide) rfl (fun ls hl => ?_)
              refine lv_goto (tgt := 12) hx hb dX10_search_167 (by decide) ?_
              exact ih12 (x3 + 1) M5 _ _ _ hH (lv_sub hl [1, 2, 3, 0] rfl) hf
            refine lv_if_eq (tgt := 42) hx hb dX10_search_36 (by decide) (fun c6 => ?_) (fun c6 => ?_)
            · have hf := nm_it c6 hf
              refine lv_aload_n hx hb dX10_search_42 rfl (lv_at hl 1 rfl) ?_
              refine gf_10_1 hK hx hb hts hown hH (cl_n400 hL) (cl_k400 hL) (hts _ tw_225) (fun _ h9 => h9) dX10_search_43 ?_
              refine lv_sipush (v := 5000) hx hb dX10_search_46 (by decide) ?_
              refine lv_icmp_lt (tgt := 59) hx hb dX10_search_49 (by decide) (fun c7 => ?_) (fun c7 => ?_)
              · have hf := nm_it c7 hf
                refine lv_aload_n hx hb dX10_search_59 rfl (lv_at hl 1 rfl) ?_
                refine lv_dup hx hb dX10_search_60 rfl ?_
                refine gf_10_1 hK hx hb hts hown hH (cl_n400 hL) (cl_k400 hL) (hts _ tw_225) (fun _ h9 => h9) dX10_search_61 ?_
                refine lv_iconst (v := 1) hx hb dX10_search_64 (by decide) ?_
                refine lv_iadd hx hb dX10_search_65 ?_
                obtain ⟨M8, eM8, hf⟩ := nm_let hf
                refine pf_10_1 hK hx hb hts hown hH (cl_n400 hL) (cl_k400 hL) (hts _ tw_225) (fun _ h9 => h9) dX10_search_66 (fun H locs hH => ?_)
                have hH : nm_H D Y (fun q => s0 ≤ q) s.heap X nl ad (M8.1, M8.2, N, K) H locs := by rw [eM8]; exact hH
                refine lv_aload_n hx hb dX10_search_69 rfl (lv_at hl 1 rfl) ?_
                refine lv_aload_n hx hb dX10_search_70 rfl (lv_at hl 2 rfl) ?_
                refine lv_iload_n hx hb dX10_search_71 rfl (lv_at hl 3 rfl) ?_
                refine lv_iload hx hb dX10_search_72 (lv_at hl 0 rfl) ?_
                refine lv_iload_n hx hb dX10_search_74 rfl (lv_at hl 4 rfl) ?_
                refine lv_iconst (v := 2) hx hb dX10_search_75 (by decide) ?_
                refine lv_irem hx hb dX10_search_76 (by decide) ?_
                refine lv_iconst (v := 1) hx hb dX10_search_77 (by decide) ?_
                have hJ86 : ∀ (t86_4 : Int32) (t86_3 : Int32) (t86_2 : Int32) (H : Heap) (locs : List Loc) (ls : Array Slot), nm_H D Y (fun q => s0 ≤ q) s.heap X nl ad (M8.1, M8.2, N, K) H locs → lv_has ls 6 [(0, .ref (ad 400)), (1, .ref (ad 300)), (2, .int x2), (3, .int x3), (4, .int v4)] → f_X10_search_J86 rec N K x2 x3 v4 t86_4 t86_3 t86_2 M8 (f_X10_search_L12 rec N K x2 kx12 n12) kx12 = some (r0, M0) → W p l e R s m args below meth c H locs 0 0 Q (F0 m 86 ls [.int t86_4, .int t86_3, .int t86_2, .ref (ad 300), .ref (ad 400)]) := by
                  intro t86_4 t86_3 t86_2 H locs ls hH hl hf
                  unfold f_X10_search_J86 at hf
                  obtain ⟨r11, M9, hc10, hf⟩ := nm_sd2 hf
                  refine nm_calli (nm_runV (X := X) (nl := nl) (k_X10_fit hL hN (hf := hc10)) hx hb hml hown hts hs0 hK hZ hH tw_897 tw_894 tw_896 (sw_X10_fit) tw_7 hd_X10_fit (cl_n400 hL) (cl_k400 hL) (by decide) rfl rfl rfl ⟨Nat.le_trans (show 3 ≤ 3 + (d + 1) from by omega) hRf, Nat.le_trans (show 72 ≤ 72 + 25 * (d + 1) from by omega) hRl⟩ rfl hl.1 rfl (Nat.le_of_ble_eq_true rfl) dX10_search_86 ⟨Nat.zero_le _, Nat.zero_le _⟩) hH (fun H locs hH => ?_)
                  have hH : nm_H D Y (fun q => s0 ≤ q) s.heap X nl ad (M9.1, M9.2, N, K) H locs := hH
                  refine lv_istore (lv' := [(5, .int r11), (0, .ref (ad 400)), (1, .ref (ad 300)), (2, .int x2), (3, .int x3), (4, .int v4)]) hx hb dX10_search_89 hl (by decide) rfl (fun ls hl => ?_)
                  refine lv_iload hx hb dX10_search_91 (lv_at hl 0 rfl) ?_
                  refine lv_iconst (v := -1) hx hb dX10_search_93 (by decide) ?_
                  refine lv_icmp_ne (tgt := 100) hx hb dX10_search_94 (by decide) (fun c12 => ?_) (fun c12 => ?_)
                  · have hf := nm_ie c12 hf
                    refine lv_aload_n hx hb dX10_search_100 rfl (lv_at hl 1 rfl) ?_
                    refine lv_dup hx hb dX10_search_101 rfl ?_
                    refine gf_10_8 hK hx hb hts hown hH (cl_n400 hL) (cl_k400 hL) (hts _ tw_235) (fun _ h9 => h9) dX10_search_102 ?_
                    refine lv_iconst (v := 1) hx hb dX10_search_105 (by decide) ?_
                    refine lv_iload hx hb dX10_search_106 (lv_at hl 5 rfl) ?_
                    refine lv_ishl hx hb dX10_search_108 ?_
                    refine lv_ior hx hb dX10_search_109 ?_
                    obtain ⟨M13, eM13, hf⟩ := nm_let hf
                    refine pf_10_8 hK hx hb hts hown hH (cl_n400 hL) (cl_k400 hL) (hts _ tw_235) (fun _ h9 => h9) dX10_search_110 (fun H locs hH => ?_)
                    have hH : nm_H D Y (fun q => s0 ≤ q) s.heap X nl ad (M13.1, M13.2, N, K) H locs := by rw [eM13]; exact hH
                    refine lv_aload_n hx hb dX10_search_113 rfl (lv_at hl 1 rfl) ?_
                    refine gf_10_6 hK hx hb hts hown hH (cl_n400 hL) (cl_k400 hL) (hts _ tw_233) (fun _ h9 => h9) dX10_search_114 ?_
                    refine lv_iload_n hx hb dX10_search_117 rfl (lv_at hl 3 rfl) ?_
                    refine lv_iload hx hb dX10_search_118 (lv_at hl 5 rfl) ?_
                    obtain ⟨hi14, hf⟩ := nm_chk hf
                    obtain ⟨M15, eM15, hf⟩ := nm_let hf
                    refine nm_iast hx hb hK hH (cl_n403 hL) (cl_k403 hL) (cl_l403 hN) hi14 dX10_search_120 (fun H locs hH => ?_)
                    have hH : nm_H D Y (fun q => s0 ≤ q) s.heap X nl ad (M15.1, M15.2, N, K) H locs := by rw [eM15]; exact hH
                    refine lv_aload_n hx hb dX10_search_121 rfl (lv_at hl 1 rfl) ?_
                    refine lv_aload_n hx hb dX10_search_122 rfl (lv_at hl 2 rfl) ?_
                    refine lv_iload_n hx hb dX10_search_123 rfl (lv_at hl 3 rfl) ?_
                    refine lv_iconst (v := 1) hx hb dX10_search_124 (by decide) ?_
                    refine lv_iadd hx hb dX10_search_125 ?_
                    obtain ⟨r18, M16, hc17, hf⟩ := nm_sd2 hf
                    refine nm_calli (nm_runV (X := X) (nl := nl) (ihd (by rw [← hrec]; exact hc17)) hx hb hml hown hts hs0 hK hZ hH tw_893 tw_890 tw_892 (sw_X10_search) tw_7 hd_X10_search (cl_n400 hL) (cl_k400 hL) (by decide) rfl rfl rfl ⟨Nat.le_trans (show 3 + d + 1 ≤ 3 + (d + 1) from by omega) hRf, Nat.le_trans (show 8 + (6 + 11) + (72 + 25 * d) ≤ 72 + 25 * (d + 1) from by omega) hRl⟩ rfl hl.1 rfl (Nat.le_of_ble_eq_true rfl) dX10_search_126 ⟨Nat.zero_le _, Nat.zero_le _⟩) hH (fun H locs hH => ?_)
                    have hH : nm_H D Y (fun q => s0 ≤ q) s.heap X nl ad (M16.1, M16.2, N, K) H locs := hH
                    refine lv_if_eq (tgt := 134) hx hb dX10_search_129 (by decide) (fun c19 => ?_) (fun c19 => ?_)
                    · have hf := nm_it c19 hf
                      refine lv_aload_n hx hb dX10_search_134 rfl (lv_at hl 1 rfl) ?_
                      refine lv_dup hx hb dX10_search_135 rfl ?_
                      refine gf_10_8 hK hx hb hts hown hH (cl_n400 hL) (cl_k400 hL) (hts _ tw_235) (fun _ h9 => h9) dX10_search_136 ?_
                      refine lv_iconst (v := 1) hx hb dX10_search_139 (by decide) ?_
                      refine lv_iload hx hb dX10_search_140 (lv_at hl 5 rfl) ?_
                      refine lv_ishl hx hb dX10_search_142 ?_
                      refine lv_iconst (v := -1) hx hb dX10_search_143 (by decide) ?_
                      refine lv_ixor hx hb dX10_search_144 ?_
                      refine lv_iand hx hb dX10_search_145 ?_
                      obtain ⟨M20, eM20, hf⟩ := nm_let hf
                      refine pf_10_8 hK hx hb hts hown hH (cl_n400 hL) (cl_k400 hL) (hts _ tw_235) (fun _ h9 => h9) dX10_search_146 (fun H locs hH => ?_)
                      have hH : nm_H D Y (fun q => s0 ≤ q) s.heap X nl ad (M20.1, M20.2, N, K) H locs := by rw [eM20]; exact hH
                      refine lv_aload_n hx hb dX10_search_149 rfl (lv_at hl 1 rfl) ?_
                      refine lv_iload hx hb dX10_search_150 (lv_at hl 0 rfl) ?_
                      obtain ⟨M21, hc22, hf⟩ := nm_sd1 hf
                      refine nm_callv (nm_runV (X := X) (nl := nl) (k_X10_part hL hN (hf := hc22)) hx hb hml hown hts hs0 hK hZ hH tw_910 tw_907 tw_909 (sw_X10_part) tw_7 hd_X10_part (cl_n400 hL) (cl_k400 hL) (by decide) rfl rfl rfl ⟨Nat.le_trans (show 1 ≤ 3 + (d + 1) from by omega) hRf, Nat.le_trans (show 22 ≤ 72 + 25 * (d + 1) from by omega) hRl⟩ rfl hl.1 rfl (Nat.le_of_ble_eq_true rfl) dX10_search_152 ⟨Nat.zero_le _, Nat.zero_le _⟩) hH (fun H locs hH => ?_)
                      have hH : nm_H D Y (fun q => s0 ≤ q) s.heap X nl ad (M21.1, M21.2, N, K) H locs := hH
                      refine lv_aload_n hx hb dX10_search_155 rfl (lv_at hl 1 rfl) ?_
                      refine gf_10_2 hK hx hb hts hown hH (cl_n400 hL) (cl_k400 hL) (hts _ tw_227) (fun _ h9 => h9) dX10_search_156 ?_
                      refine lv_if_eq (tgt := 164) hx hb dX10_search_159 (by decide) (fun c23 => ?_) (fun c23 => ?_)
                      · have hf := nm_it c23 hf
                        exact hJ164  M21 _ _ _ hH (lv_sub hl [1, 2, 3, 4] rfl) hf
                      · have hf := nm_ie c23 hf
                        refine lv_iconst (v := 0) hx hb dX10_search_162 (by decide) ?_
                        exact nm_zret hx hb hr hlocks hQ hH rfl (congrArg Prod.fst (Option.some.inj hf)) (congrArg (fun q => (q.2.1, q.2.2, N, K)) (Option.some.inj hf)) dX10_search_163
                    · have hf := nm_ie c19 hf
                      refine lv_iconst (v := 1) hx hb dX10_search_132 (by decide) ?_
                      exact nm_zret hx hb hr hlocks hQ hH rfl (congrArg Prod.fst (Option.some.inj hf)) (congrArg (fun q => (q.2.1, q.2.2, N, K)) (Option.some.inj hf)) dX10_search_133
                  · have hf := nm_it c12 hf
                    refine lv_goto (tgt := 164) hx hb dX10_search_97 (by decide) ?_
                    exact hJ164  M9 _ _ _ hH (lv_sub hl [1, 2, 3, 4] rfl) hf
                refine lv_icmp_ne (tgt := 85) hx hb dX10_search_78 (by decide) (fun c24 => ?_) (fun c24 => ?_)
                · have hf := nm_ie c24 hf
                  refine lv_iconst (v := 0) hx hb dX10_search_85 (by decide) ?_
                  exact hJ86 (0 : Int32) v4 x2 _ _ _ hH (lv_sub hl [1, 2, 3, 4, 0] rfl) hf
                · have hf := nm_it c24 hf
                  refine lv_iconst (v := 1) hx hb dX10_search_81 (by decide) ?_
                  refine lv_goto (tgt := 86) hx hb dX10_search_82 (by decide) ?_
                  exact hJ86 (1 : Int32) v4 x2 _ _ _ hH (lv_sub hl [1, 2, 3, 4, 0] rfl) hf
              · have hf := nm_ie c7 hf
                refine lv_aload_n hx hb dX10_search_52 rfl (lv_at hl 1 rfl) ?_
                refine lv_iconst (v := 1) hx hb dX10_search_53 (by decide) ?_
                obtain ⟨M25, eM25, hf⟩ := nm_let hf
                refine pf_10_2 hK hx hb hts hown hH (cl_n400 hL) (cl_k400 hL) (hts _ tw_227) (fun _ h9 => h9) rfl rfl dX10_search_54 (fun H locs hH => ?_)
                have hH : nm_H D Y (fun q => s0 ≤ q) s.heap X nl ad (M25.1, M25.2, N, K) H locs := by rw [eM25]; exact hH
                refine lv_iconst (v := 0) hx hb dX10_search_57 (by decide) ?_
                exact nm_zret hx hb hr hlocks hQ hH rfl (congrArg Prod.fst (Option.some.inj hf)) (congrArg (fun q => (q.2.1, q.2.2, N, K)) (Option.some.inj hf)) dX10_search_58
            · have hf := nm_ie c6 hf
              refine lv_goto (tgt := 164) hx hb dX10_search_39 (by decide) ?_
              exact hJ164  M2 _ _ _ hH (lv_sub hl [1, 2, 3, 4] rfl) hf
      exact hL12 nm_F (0 : Int32) M _ _ _ hH (lv_sub hl [1, 2, 3, 0] rfl) hf
    · have hf := nm_ie c1 hf
      refine lv_iconst (v := 1) hx hb dX10_search_8 (by decide) ?_
      exact nm_zret hx hb hr hlocks hQ hH rfl (congrArg Prod.fst (Option.some.inj hf)) (congrArg (fun q => (q.2.1, q.2.2, N, K)) (Option.some.inj hf)) dX10_search_9
