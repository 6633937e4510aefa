def f_X10_match_L42 (N : Nat → Nat) (K : Nat → Nat) (M5 : cm) (kx42 : Unit → Option (cm)) : Nat → Int32 → Option (cm)
  | 0, _ => none
  | n42 + 1, x2 =>
    (if (M5.1 400 0) ≤ x2 then
    kx42 ()
    else
    nm_s1 (f_X2_isWhole N x2 M5) fun r9 =>
    (if r9 = 0 then
    some M5
    else
    f_X10_match_L42 N K M5 kx42 n42 (x2 + 1)))
def f_X10_match (N : Nat → Nat) (K : Nat → Nat) (M : cm) : Option (cm) :=
nm_l ((nm_up M.1 400 1 (0 : Int32), M.2)) fun M1 =>
nm_l ((nm_up M1.1 400 2 (0 : Int32), M1.2)) fun M2 =>
nm_l ((nm_up M2.1 400 3 (0 : Int32), M2.2)) fun M3 =>
nm_l ((nm_up M3.1 400 8 (0 : Int32), M3.2)) fun M4 =>
nm_s1 (f_J7_fill_53178 404 N (-1 : Int32) M4) fun M5 =>
(if (M5.1 300 3) = (M5.1 400 0) then
nm_l (fun (_ : Unit) =>
nm_s2 (f_X10_search N K 14 (0 : Int32) M5) fun r14 M12 =>
nm_b r14 (
nm_l (nm_up M12.1 400 3 r14, M12.2) fun M16 =>
some M16)) fun kx42 =>
f_X10_match_L42 N K M5 kx42 nm_F (0 : Int32)
else
some M5)
set_option maxHeartbeats 4000000 in
set_option maxRecDepth 100000 in
theorem k_X10_match {l : Launch} {D : va_G} {Y : nm_Y} {s0 : Nat} {X : va_W} {ad : Nat → Nat} {nl : List Nat} {N K : Nat → Nat} (hL : cl_L nl K) (hN : cl_N N) {M : cm} {M0 : cm} (hf : f_X10_match N K M = some M0) :
    nm_Met l yX10_match cX10_match 3 none { frames := 18, cells := 0, slots := 0, locals := 447 } [.ref (ad 400), .ref (ad 300)] D Y s0 (nm_W Y X nl ad (M.1, M.2, N, K)) (nm_Qv D s0 (nm_W Y X nl ad (M0.1, M0.2, N, K))) 0 0 := by
  refine nm_of (by decide) (Nat.le_of_ble_eq_true rfl) ?_
  intro p e R s m args below meth c Q ls hx hb hr hlocks hml hown hts hs0 hK hZ hRf hRl hRc hRs hQ hP hD hl
  have hH : nm_H D Y (fun q => s0 ≤ q) s.heap X nl ad (M.1, M.2, N, K) s.heap [] := ⟨hP, hD, va_S.rf⟩
  have hl : lv_has ls 3 [(0, .ref (ad 400)), (1, .ref (ad 300))] := hl
  unfold f_X10_match at hf
  refine lv_aload_n hx hb dX10_match_0 rfl (lv_at hl 0 rfl) ?_
  refine lv_iconst (v := 0) hx hb dX10_match_1 (by decide) ?_
  obtain ⟨M1, eM1, hf⟩ := nm_let hf
  refine pf_10_1 hK hx hb hts hown hH (cl_n400 hL) (cl_k400 hL) (hts _ tw_225) (fun _ h9 => h9) dX10_match_2 (fun H locs hH => ?_)
  have hH : nm_H D Y (fun q => s0 ≤ q) s.heap X nl ad (M1.1, M1.2, N, K) H locs := by rw [eM1]; exact hH
  refine lv_aload_n hx hb dX10_match_5 rfl (lv_at hl 0 rfl) ?_
  refine lv_iconst (v := 0) hx hb dX10_match_6 (by decide) ?_
  obtain ⟨M2, eM2, hf⟩ := nm_let hf
  refine pf_10_2 hK hx hb hts hown hH (cl_n400 hL) (cl_k400 hL) (hts _ tw_227) (fun _ h9 => h9) rfl rfl dX10_match_7 (fun H locs hH => ?_)
  have hH : nm_H D Y (fun q => s0 ≤ q) s.heap X nl ad (M2.1, M2.2, N, K) H locs := by rw [eM2]; exact hH
  refine lv_aload_n hx hb dX10_match_10 rfl (lv_at hl 0 rfl) ?_
  refine lv_iconst (v := 0) hx hb dX10_match_11 (by decide) ?_
  obtain ⟨M3, eM3, hf⟩ := nm_let hf
  refine pf_10_3 hK hx hb hts hown hH (cl_n400 hL) (cl_k400 hL) (hts _ tw_229) (fun _ h9 => h9) rfl rfl dX10_match_12 (fun H locs hH => ?_)
  have hH : nm_H D Y (fun q => s0 ≤ q) s.heap X nl ad (M3.1, M3.2, N, K) H locs := by rw [eM3]; exact hH
  refine lv_aload_n hx hb dX10_match_15 rfl (lv_at hl 0 rfl) ?_
  refine lv_iconst (v := 0) hx hb dX10_match_16 (by decide) ?_
  obtain ⟨M4, eM4, hf⟩ := nm_let hf
  refine pf_10_8 hK hx hb hts hown hH (cl_n400 hL) (cl_k400 hL) (hts _ tw_235) (fun _ h9 => h9) dX10_match_17 (fun H locs hH => ?_)
  have hH : nm_H D Y (fun q => s0 ≤ q) s.heap X nl ad (M4.1, M4.2, N, K) H locs := by rw [eM4]; exact hH
  refine lv_aload_n hx hb dX10_match_20 rfl (lv_at hl 0 rfl) ?_
  refine gf_10_7 hK hx hb hts hown hH (cl_n400 hL) (cl_k400 hL) (hts _ tw_234) (fun _ h9 => h9) dX10_match_21 ?_
  refine lv_iconst (v := -1) hx hb dX10_match_24 (by decide) ?_
  obtain ⟨M5, hc6, hf⟩ := nm_sd1 hf
  refine nm_callv (nm_runS (X := X) (nl := nl) (k_J7_fill_53178 hL hN (cl_n404 hL) (cl_k404 hL) (hf := hc6)) hx hb hml hown hts hs0 hK hZ hH tw_82 tw_885 tw_81 tw_4 hd_J7_fill_53178 rfl rfl ⟨Nat.le_trans (Nat.le_of_ble_eq_true rfl) hRf, Nat.le_trans (Nat.le_of_ble_eq_true rfl) hRl⟩ rfl hl.1 rfl (Nat.le_of_ble_eq_true rfl) dX10_match_25 ⟨Nat.zero_le _, Nat.zero_le _⟩) hH (fun H locs hH => ?_)
  have hH : nm_H D Y (fun q => s0 ≤ q) s.heap X nl ad (M5.1, M5.2, N, K) H locs := hH
  refine lv_aload_n hx hb dX10_match_28 rfl (lv_at hl 1 rfl) ?_
  refine gf_2_3 hK hx hb hts hown hH (cl_n300 hL) (cl_k300 hL) (hts _ tw_175) (fun _ h9 => h9) dX10_match_29 ?_
  refine lv_aload_n hx hb dX10_match_32 rfl (lv_at hl 0 rfl) ?_
  refine gf_10_0 hK hx hb hts hown hH (cl_n400 hL) (cl_k400 hL) (hts _ tw_223) (fun _ h9 => h9) dX10_match_33 ?_
  refine lv_icmp_eq (tgt := 40) hx hb dX10_match_36 (by decide) (fun c7 => ?_) (fun c7 => ?_)
  · have hf := nm_it c7 hf
    refine lv_iconst (v := 0) hx hb dX10_match_40 (by decide) ?_
    refine lv_istore_n (lv' := [(2, .int (0 : Int32)), (0, .ref (ad 400)), (1, .ref (ad 300))]) hx hb dX10_match_41 rfl hl (by decide) rfl (fun ls hl => ?_)
    obtain ⟨kx42, hkx42, hf⟩ := nm_let hf
    have hX42 : ∀  (H : Heap) (locs : List Loc) (ls : Array Slot), nm_H D Y (fun q => s0 ≤ q) s.heap X nl ad (M5.1, M5.2, N, K) H locs → lv_has ls 3 [(0, .ref (ad 400)), (1, .ref (ad 300))] → kx42 () = some M0 → W p l e R s m args below meth c H locs 0 0 Q (F0 m 65 ls []) := by
      intro  H locs ls hH hl hf
      rw [hkx42] at hf
      refine lv_aload_n hx hb dX10_match_65 rfl (lv_at hl 0 rfl) ?_
      refine lv_aload_n hx hb dX10_match_66 rfl (lv_at hl 0 rfl) ?_
      refine lv_aload_n hx hb dX10_match_67 rfl (lv_at hl 1 rfl) ?_
      refine lv_iconst (v := 0) hx hb dX10_match_68 (by decide) ?_
      obtain ⟨r14, M12, hc13, hf⟩ := nm_sd2 hf
      refine nm_calli (nm_runV (X := X) (nl := nl) (k_X10_search hL hN 14 hc13) hx hb hml hown hts hs0 hK hZ hH tw_893 tw_890 tw_892 (sw_X10_search) tw_7 hd_X10_search (cl_n400 hL) (cl_k400 hL) (by decide) rfl rfl rfl ⟨Nat.le_trans (Nat.le_of_ble_eq_true rfl) hRf, Nat.le_trans (Nat.le_of_ble_eq_true rfl) hRl⟩ rfl hl.1 rfl (Nat.le_of_ble_eq_true rfl) dX10_match_69 ⟨Nat.zero_le _, Nat.zero_le _⟩) hH (fun H locs hH => ?_)
      have hH : nm_H D Y (fun q => s0 ≤ q) s.heap X nl ad (M12.1, M12.2, N, K) H locs := hH
      obtain ⟨hz15, hf⟩ := nm_bool hf
      obtain ⟨M16, eM16, hf⟩ := nm_let hf
      refine pf_10_3 hK hx hb hts hown hH (cl_n400 hL) (cl_k400 hL) (hts _ tw_229) (fun _ h9 => h9) hz15.1 hz15.2 dX10_match_72 (fun H locs hH => ?_)
      have hH : nm_H D Y (fun q => s0 ≤ q) s.heap X nl ad (M16.1, M16.2, N, K) H locs := by rw [eM16]; exact hH
      exact nm_vret hx hb hr hlocks hQ hH (congrArg (fun q => (q.1, q.2, N, K)) (Option.some.inj hf)) dX10_match_75
    have hL42 : ∀ (n42 : Nat) (x2 : Int32) (H : Heap) (locs : List Loc) (ls : Array Slot), nm_H D Y (fun q => s0 ≤ q) s.heap X nl ad (M5.1, M5.2, N, K) H locs → lv_has ls 3 [(0, .ref (ad 400)), (1, .ref (ad 300)), (2, .int x2)] → f_X10_match_L42 N K M5 kx42 n42 x2 = some M0 → W p l e R s m args below meth c H locs 0 0 Q (F0 m 42 ls []) := by
      intro n42
      induction n42 with
      | zero =>
        intro x2 H locs ls hH hl hf
        cases hf
      | succ n42 ih42 =>
        intro x2 H locs ls hH hl hf
        rw [f_X10_match_L42] at hf
        refine lv_iload_n hx hb dX10_match_42 rfl (lv_at hl 2 rfl) ?_
        refine lv_aload_n hx hb dX10_match_43 rfl (lv_at hl 0 rfl) ?_
        refine gf_10_0 hK hx hb hts hown hH (cl_n400 hL) (cl_k400 hL) (hts _ tw_223) (fun _ h9 => h9) dX10_match_44 ?_
        refine lv_icmp_ge (tgt := 65) hx hb dX10_match_47 (by decide) (fun c8 => ?_) (fun c8 => ?_)
        · have hf := nm_it c8 hf
          exact hX42  _ _ _ hH (lv_sub hl [0, 1] rfl) hf
        · have hf := nm_ie c8 hf
          refine lv_aload_n hx hb dX10_match_50 rfl (lv_at hl 1 rfl) ?_
          refine lv_iload_n hx hb dX10_match_51 rfl (lv_at hl 2 rfl) ?_
          obtain ⟨r9, hc10, hf⟩ := nm_sd1 hf
          refine nm_calli (nm_runV (X := X) (nl := nl) (k_X2_isWhole hL hN (hf := hc10)) hx hb hml hown hts hs0 hK hZ hH tw_889 tw_886 tw_887 (sw_X2_isWhole) tw_6 hd_X2_isWhole (cl_n300 hL) (cl_k300 hL) (by decide) rfl rfl rfl ⟨Nat.le_trans (Nat.le_of_ble_eq_true rfl) hRf, Nat.le_trans (Nat.le_of_ble_eq_true rfl) hRl⟩ rfl hl.1 rfl (Nat.le_of_ble_eq_true rfl) dX10_match_52 ⟨Nat.zero_le _, Nat.zero_le _⟩) hH (fun H locs hH => ?_)
          have hH : nm_H D Y (fun q => s0 ≤ q) s.heap X nl ad (M5.1, M5.2, N, K) H locs := hH
          refine lv_if_ne (tgt := 59) hx hb dX10_match_55 (by decide) (fun c11 => ?_) (fun c11 => ?_)
          · have hf := nm_ie c11 hf
            refine lv_iinc (v := x2 + 1) (lv' := [(2, .int (x2 + 1)), (0, .ref (ad 400)), (1, .ref (ad 300))]) hx hb dX10_match_59 hl (k := 2) rfl rfl (by decide) rfl (fun ls hl => ?_)
            refine lv_goto (tgt := 42) hx hb dX10_match_62 (by decide) ?_
            exact ih42 (x2 + 1) _ _ _ hH (lv_sub hl [1, 2, 0] rfl) hf
          · have hf := nm_it c11 hf
            exact nm_vret hx hb hr hlocks hQ hH (congrArg (fun q => (q.1, q.2, N, K)) (Option.some.inj hf)) dX10_match_58
    exact hL42 nm_F (0 : Int32) _ _ _ hH (lv_sub hl [1, 2, 0] rfl) hf
  · have hf := nm_ie c7 hf
    exact nm_vret hx hb hr hlocks hQ hH (congrArg (fun q => (q.1, q.2, N, K)) (Option.some.inj hf)) dX10_match_39
def f_X11_same (N : Nat → Nat) (K : Nat → Nat) (M : cm) : Option (Int32 × cm) :=
(if (M.1 300 2) = 0 then
nm_s2 (f_X11_refuse (-2 : Int32) M) fun r11 M9 =>
some (r11, M9)
else
nm_s1 (f_X10_match N K M) fun M2 =>
(if (M2.1 400 2) = 0 then
(if (M2.1 400 3) = 0 then
some ((0 : Int32), M2)
else
some ((1 : Int32), M2))
else
nm_s2 (f_X11_refuse (-9 : Int32) M2) fun r8 M6 =>
some (r8, M6)))
set_option maxHeartbeats 4000000 in
set_option maxRecDepth 100000 in
theorem k_X11_same {l : Launch} {D : va_G} {Y : nm_Y} {s0 : Nat} {X : va_W} {ad : Nat → Nat} {nl : List Nat} {N K : Nat → Nat} (hL : cl_L nl K) (hN : cl_N N) {M : cm} {r0 : Int32} {M0 : cm} (hf : f_X11_same N K M = some (r0, M0)) :
    nm_Met l yX11_same cX11_same 1 (some .int) { frames := 19, cells := 0, slots := 0, locals := 469 } [.ref (ad 0)] D Y s0 (nm_W Y X nl ad (M.1, M.2, N, K)) (nm_Qi D s0 r0 (nm_W Y X nl ad (M0.1, M0.2, N, K))) 0 0 := by
  refine nm_of (by decide) (Nat.le_of_ble_eq_true rfl) ?_
  intro p e R s m args below meth c Q ls hx hb hr hlocks hml hown hts hs0 hK hZ hRf hRl hRc hRs hQ hP hD hl
  have hH : nm_H D Y (fun q => s0 ≤ q) s.heap X nl ad (M.1, M.2, N, K) s.heap [] := ⟨hP, hD, va_S.rf⟩
  have hl : lv_has ls 1 [(0, .ref (ad 0))] := hl
  unfold f_X11_same at hf
  refine lv_aload_n hx hb dX11_same_0 rfl (lv_at hl 0 rfl) ?_
  refine gf_11_3 hK hx hb hts hown hH (cl_n0 hL) (cl_k0 hL) (hts _ tw_290) (fun _ h9 => h9) dX11_same_1 ?_
  refine gf_2_2 hK hx hb hts hown hH (cl_n300 hL) (cl_k300 hL) (hts _ tw_173) (fun _ h9 => h9) dX11_same_4 ?_
  refine lv_if_ne (tgt := 17) hx hb dX11_same_7 (by decide) (fun c1 => ?_) (fun c1 => ?_)
  · have hf := nm_ie c1 hf
    refine lv_aload_n hx hb dX11_same_17 rfl (lv_at hl 0 rfl) ?_
    refine gf_11_4 hK hx hb hts hown hH (cl_n0 hL) (cl_k0 hL) (hts _ tw_291) (fun _ h9 => h9) dX11_same_18 ?_
    refine lv_aload_n hx hb dX11_same_21 rfl (lv_at hl 0 rfl) ?_
    refine gf_11_3 hK hx hb hts hown hH (cl_n0 hL) (cl_k0 hL) (hts _ tw_290) (fun _ h9 => h9) dX11_same_22 ?_
    obtain ⟨M2, hc3, hf⟩ := nm_sd1 hf
    refine nm_callv (nm_runV (X := X) (nl := nl) (k_X10_match hL hN (hf := hc3)) hx hb hml hown hts hs0 hK hZ hH tw_884 tw_881 tw_882 (sw_X10_match) tw_7 hd_X10_match (cl_n400 hL) (cl_k400 hL) (by decide) rfl rfl rfl ⟨Nat.le_trans (Nat.le_of_ble_eq_true rfl) hRf, Nat.le_trans (Nat.le_of_ble_eq_true rfl) hRl⟩ rfl hl.1 rfl (Nat.le_of_ble_eq_true rfl) dX11_same_25 ⟨Nat.zero_le _, Nat.zero_le _⟩) hH (fun H locs hH => ?_)
    have hH : nm_H D Y (fun q => s0 ≤ q) s.heap X nl ad (M2.1, M2.2, N, K) H locs := hH
    refine lv_aload_n hx hb dX11_same_28 rfl (lv_at hl 0 rfl) ?_
    refine gf_11_4 hK hx hb hts hown hH (cl_n0 hL) (cl_k0 hL) (hts _ tw_291) (fun _ h9 => h9) dX11_same_29 ?_
    refine gf_10_2 hK hx hb hts hown hH (cl_n400 hL) (cl_k400 hL) (hts _ tw_228) (fun _ h9 => h9) dX11_same_32 ?_
    refine lv_if_eq (tgt := 45) hx hb dX11_same_35 (by decide) (fun c4 => ?_) (fun c4 => ?_)
    · have hf := nm_it c4 hf
      refine lv_aload_n hx hb dX11_same_45 rfl (lv_at hl 0 rfl) ?_
      refine gf_11_4 hK hx hb hts hown hH (cl_n0 hL) (cl_k0 hL) (hts _ tw_291) (fun _ h9 => h9) dX11_same_46 ?_
      refine gf_10_3 hK hx hb hts hown hH (cl_n400 hL) (cl_k400 hL) (hts _ tw_230) (fun _ h9 => h9) dX11_same_49 ?_
      refine lv_if_eq (tgt := 59) hx hb dX11_same_52 (by decide) (fun c5 => ?_) (fun c5 => ?_)
      · have hf := nm_it c5 hf
        refine lv_iconst (v := 0) hx hb dX11_same_59 (by decide) ?_
        exact nm_iret hx hb hr hlocks hQ hH (congrArg Prod.fst (Option.some.inj hf)) (congrArg (fun q => (q.2.1, q.2.2, N, K)) (Option.some.inj hf)) dX11_same_60
      · have hf := nm_ie c5 hf
        refine lv_iconst (v := 1) hx hb dX11_same_55 (by decide) ?_
        refine lv_goto (tgt := 60) hx hb dX11_same_56 (by decide) ?_
        exact nm_iret hx hb hr hlocks hQ hH (congrArg Prod.fst (Option.some.inj hf)) (congrArg (fun q => (q.2.1, q.2.2, N, K)) (Option.some.inj hf)) dX11_same_60
    · have hf := nm_ie c4 hf
      refine lv_aload_n hx hb dX11_same_38 rfl (lv_at hl 0 rfl) ?_
      refine lv_bipush (v := -9) hx hb dX11_same_39 (by decide) ?_
      obtain ⟨r8, M6, hc7, hf⟩ := nm_sd2 hf
      refine nm_calli (nm_runV (X := X) (nl := nl) (k_X11_refuse hL hN (hf := hc7)) hx hb hml hown hts hs0 hK hZ hH tw_325 tw_322 tw_324 (sw_X11_refuse) tw_1 hd_X11_refuse (cl_n0 hL) (cl_k0 hL) (by decide) rfl rfl rfl ⟨Nat.le_trans (Nat.le_of_ble_eq_true rfl) hRf, Nat.le_trans (Nat.le_of_ble_eq_true rfl) hRl⟩ rfl hl.1 rfl (Nat.le_of_ble_eq_true rfl) dX11_same_41 ⟨Nat.zero_le _, Nat.zero_le _⟩) hH (fun H locs hH => ?_)
      have hH : nm_H D Y (fun q => s0 ≤ q) s.heap X nl ad (M6.1, M6.2, N, K) H locs := hH
      exact nm_iret hx hb hr hlocks hQ hH (congrArg Prod.fst (Option.some.inj hf)) (congrArg (fun q => (q.2.1, q.2.2, N, K)) (Option.some.inj hf)) dX11_same_44
  · have hf := nm_it c1 hf
    refine lv_aload_n hx hb dX11_same_10 rfl (lv_at hl 0 rfl) ?_
    refine lv_bipush (v := -2) hx hb dX11_same_11 (by decide) ?_
    obtain ⟨r11, M9, hc10, hf⟩ := nm_sd2 hf
    refine nm_calli (nm_runV (X := X) (nl := nl) (k_X11_refuse hL hN (hf := hc10)) hx hb hml hown hts hs0 hK hZ hH tw_325 tw_322 tw_324 (sw_X11_refuse) tw_1 hd_X11_refuse (cl_n0 hL) (cl_k0 hL) (by decide) rfl rfl rfl ⟨Nat.le_trans (Nat.le_of_ble_eq_true rfl) hRf, Nat.le_trans (Nat.le_of_ble_eq_true rfl) hRl⟩ rfl hl.1 rfl (Nat.le_of_ble_eq_true rfl) dX11_same_13 ⟨Nat.zero_le _, Nat.zero_le _⟩) hH (fun H locs hH => ?_)
    have hH : nm_H D Y (fun q => s0 ≤ q) s.heap X nl ad (M9.1, M9.2, N, K) H locs := hH
    exact nm_iret hx hb hr hlocks hQ hH (congrArg Prod.fst (Option.some.inj hf)) (congrArg (fun q => (q.2.1, q.2.2, N, K)) (Option.some.inj hf)) dX11_same_16
