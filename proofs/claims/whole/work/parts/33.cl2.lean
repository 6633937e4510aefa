def f_X2_join_L3 (N : Nat → Nat) (x2 : Int32) (x3 : Int32) (x4 : Int32) : Nat → Int32 → cm → Option (cm)
  | 0, _, _ => none
  | n3 + 1, x5, M1 =>
    (if (64 : Int32) ≤ x5 then
    some M1
    else
    nm_c (x2 + x5) 1024 (
    nm_c (x4 + x5) 1024 (
    nm_l ((M1.2 311 (x2 + x5).toNatClampNeg) &&& (M1.2 311 (x4 + x5).toNatClampNeg)) fun v5 =>
    nm_c (x3 + x5) 1024 (
    nm_s1 (f_X4_unite 310 N (x2 + x5) (x4 + x5) (v5 &&& (M1.2 101 (x3 + x5).toNatClampNeg)) M1) fun M7 =>
    f_X2_join_L3 N x2 x3 x4 n3 (x5 + 1) M7))))
def f_X2_join (N : Nat → Nat) (x2 : Int32) (x3 : Int32) (x4 : Int32) (M : cm) : Option (cm) :=
nm_s1 (f_X2_join_L3 N x2 x3 x4 nm_F (0 : Int32) M) fun M9 =>
some M9
set_option maxHeartbeats 4000000 in
set_option maxRecDepth 100000 in
theorem k_X2_join {l : Launch} {D : va_G} {Y : nm_Y} {s0 : Nat} {X : va_W} {ad : Nat → Nat} {nl : List Nat} {N K : Nat → Nat} (hL : cl_L nl K) (hN : cl_N N) {x2 : Int32} {x3 : Int32} {x4 : Int32} {M : cm} {M0 : cm} (hf : f_X2_join N x2 x3 x4 M = some M0) :
    nm_Met l yX2_join cX2_join 8 none { frames := 3, cells := 0, slots := 0, locals := 76 } [.ref (ad 300), .ref (ad 100), .int x2, .int x3, .int x4] D Y s0 (nm_W Y X nl ad (M.1, M.2, N, K)) (nm_Qv D s0 (nm_W Y X nl ad (M0.1, M0.2, N, K))) 0 0 := by
  refine nm_of (by decide) (Nat.le_of_ble_eq_true rfl) ?_
  intro p e R s m args below meth c Q ls hx hb hr hlocks hml hown hts hs0 hK hZ hRf hRl hRc hRs hQ hP hD hl
  have hH : nm_H D Y (fun q => s0 ≤ q) s.heap X nl ad (M.1, M.2, N, K) s.heap [] := ⟨hP, hD, va_S.rf⟩
  have hl : lv_has ls 8 [(0, .ref (ad 300)), (1, .ref (ad 100)), (2, .int x2), (3, .int x3), (4, .int x4)] := hl
  unfold f_X2_join at hf
  refine lv_iconst (v := 0) hx hb dX2_join_0 (by decide) ?_
  refine lv_istore (lv' := [(5, .int (0 : Int32)), (0, .ref (ad 300)), (1, .ref (ad 100)), (2, .int x2), (3, .int x3), (4, .int x4)]) hx hb dX2_join_1 hl (by decide) rfl (fun ls hl => ?_)
  have hL3 : ∀ (n3 : Nat) (x5 : Int32) (M1 : cm) (H : Heap) (locs : List Loc) (ls : Array Slot) (o3 : cm), nm_H D Y (fun q => s0 ≤ q) s.heap X nl ad (M1.1, M1.2, N, K) H locs → lv_has ls 8 [(0, .ref (ad 300)), (1, .ref (ad 100)), (2, .int x2), (3, .int x3), (4, .int x4), (5, .int x5)] → f_X2_join_L3 N x2 x3 x4 n3 x5 M1 = some o3 → (∀ (H : Heap) (locs : List Loc) (ls : Array Slot), nm_H D Y (fun q => s0 ≤ q) s.heap X nl ad (o3.1, o3.2, N, K) H locs → lv_has ls 8 [] → W p l e R s m args below meth c H locs 0 0 Q (F0 m 72 ls [])) → W p l e R s m args below meth c H locs 0 0 Q (F0 m 3 ls []) := by
    intro n3
    induction n3 with
    | zero =>
      intro x5 M1 H locs ls o3 hH hl hf hX3
      cases hf
    | succ n3 ih3 =>
      intro x5 M1 H locs ls o3 hH hl hf hX3
      rw [f_X2_join_L3] at hf
      refine lv_iload hx hb dX2_join_3 (lv_at hl 5 rfl) ?_
      refine lv_bipush (v := 64) hx hb dX2_join_5 (by decide) ?_
      refine lv_icmp_ge (tgt := 72) hx hb dX2_join_7 (by decide) (fun c2 => ?_) (fun c2 => ?_)
      · have hf := nm_it c2 hf
        cases hf
        exact hX3 _ _ _ hH (lv_sub hl [] rfl)
      · have hf := nm_ie c2 hf
        refine lv_aload_n hx hb dX2_join_10 rfl (lv_at hl 0 rfl) ?_
        refine gf_2_4 hK hx hb hts hown hH (cl_n300 hL) (cl_k300 hL) (hts _ tw_177) (fun _ h9 => h9) dX2_join_11 ?_
        refine gf_4_0 hK hx hb hts hown hH (cl_n310 hL) (cl_k310 hL) (hts _ tw_41) (fun _ h9 => h9) dX2_join_14 ?_
        refine lv_iload_n hx hb dX2_join_17 rfl (lv_at hl 2 rfl) ?_
        refine lv_iload hx hb dX2_join_18 (lv_at hl 5 rfl) ?_
        refine lv_iadd hx hb dX2_join_20 ?_
        obtain ⟨hi3, hf⟩ := nm_chk hf
        refine nm_lald hx hb hK hH (cl_n311 hL) (cl_k311 hL) (cl_l311 hN) hi3 dX2_join_21 ?_
        refine lv_aload_n hx hb dX2_join_22 rfl (lv_at hl 0 rfl) ?_
        refine gf_2_4 hK hx hb hts hown hH (cl_n300 hL) (cl_k300 hL) (hts _ tw_177) (fun _ h9 => h9) dX2_join_23 ?_
        refine gf_4_0 hK hx hb hts hown hH (cl_n310 hL) (cl_k310 hL) (hts _ tw_41) (fun _ h9 => h9) dX2_join_26 ?_
        refine lv_iload hx hb dX2_join_29 (lv_at hl 4 rfl) ?_
        refine lv_iload hx hb dX2_join_31 (lv_at hl 5 rfl) ?_
        refine lv_iadd hx hb dX2_join_33 ?_
        obtain ⟨hi4, hf⟩ := nm_chk hf
        refine nm_lald hx hb hK hH (cl_n311 hL) (cl_k311 hL) (cl_l311 hN) hi4 dX2_join_34 ?_
        refine lv_land hx hb dX2_join_35 ?_
        obtain ⟨v5, ev5, hf⟩ := nm_let hf
        refine nm_topl ev5 ?_
        refine lv_lstore (lv' := [(6, .long v5), (0, .ref (ad 300)), (1, .ref (ad 100)), (2, .int x2), (3, .int x3), (4, .int x4), (5, .int x5)]) hx hb dX2_join_36 hl (by decide) rfl (fun ls hl => ?_)
        refine lv_aload_n hx hb dX2_join_38 rfl (lv_at hl 1 rfl) ?_
        refine gf_2_4 hK hx hb hts hown hH (cl_n300 hL) (cl_k300 hL) (hts _ tw_177) (fun _ h9 => h9) dX2_join_39 ?_
        refine lv_iload_n hx hb dX2_join_42 rfl (lv_at hl 3 rfl) ?_
        refine lv_iload hx hb dX2_join_43 (lv_at hl 6 rfl) ?_
        refine lv_iadd hx hb dX2_join_45 ?_
        refine lv_iload hx hb dX2_join_46 (lv_at hl 5 rfl) ?_
        refine lv_iload hx hb dX2_join_48 (lv_at hl 6 rfl) ?_
        refine lv_iadd hx hb dX2_join_50 ?_
        refine lv_lload hx hb dX2_join_51 (lv_at hl 0 rfl) ?_
        refine lv_aload_n hx hb dX2_join_53 rfl (lv_at hl 2 rfl) ?_
        refine gf_3_1 hK hx hb hts hown hH (cl_n100 hL) (cl_k100 hL) (hts _ tw_86) (fun _ h9 => h9) dX2_join_54 ?_
        refine lv_iload_n hx hb dX2_join_57 rfl (lv_at hl 4 rfl) ?_
        refine lv_iload hx hb dX2_join_58 (lv_at hl 6 rfl) ?_
        refine lv_iadd hx hb dX2_join_60 ?_
        obtain ⟨hi6, hf⟩ := nm_chk hf
        refine nm_lald hx hb hK hH (cl_n101 hL) (cl_k101 hL) (cl_l101 hN) hi6 dX2_join_61 ?_
        refine lv_land hx hb dX2_join_62 ?_
        obtain ⟨M7, hc8, hf⟩ := nm_sd1 hf
        refine nm_callv (nm_runV (X := X) (nl := nl) (k_X4_unite hL hN cl_o310 (hf := hc8)) hx hb hml hown hts hs0 hK hZ hH tw_622 tw_800 tw_620 (sw_X4_unite) tw_3 hd_X4_unite (cl_n310 hL) (cl_k310 hL) (by decide) rfl rfl rfl ⟨Nat.le_trans (Nat.le_of_ble_eq_true rfl) hRf, Nat.le_trans (Nat.le_of_ble_eq_true rfl) hRl⟩ rfl hl.1 rfl (Nat.le_of_ble_eq_true rfl) dX2_join_63 ⟨Nat.zero_le _, Nat.zero_le _⟩) hH (fun H locs hH => ?_)
        have hH : nm_H D Y (fun q => s0 ≤ q) s.heap X nl ad (M7.1, M7.2, N, K) H locs := hH
        refine lv_iinc (v := x5 + 1) (lv' := [(5, .int (x5 + 1)), (6, .long v5), (0, .ref (ad 300)), (1, .ref (ad 100)), (2, .int x2), (3, .int x3), (4, .int x4)]) hx hb dX2_join_66 hl (k := 6) rfl rfl (by decide) rfl (fun ls hl => ?_)
        refine lv_goto (tgt := 3) hx hb dX2_join_69 (by decide) ?_
        exact ih3 (x5 + 1) M7 _ _ _ _ hH (lv_sub hl [2, 3, 4, 5, 6, 0] rfl) hf hX3
  obtain ⟨M9, hl10, hf⟩ := nm_sd1 hf
  refine hL3 nm_F (0 : Int32) M _ _ _ _ hH (lv_sub hl [1, 2, 3, 4, 5, 0] rfl) hl10 (fun H locs ls hH hl => ?_)
  have hl : lv_has ls 8 [] := hl
  have hH : nm_H D Y (fun q => s0 ≤ q) s.heap X nl ad (M9.1, M9.2, N, K) H locs := hH
  exact nm_vret hx hb hr hlocks hQ hH (congrArg (fun q => (q.1, q.2, N, K)) (Option.some.inj hf)) dX2_join_72
def f_X2_addEnd_J37 (N : Nat → Nat) (x1 : Int32) (x2 : Int32) (v2 : Int32) (M : cm) : Option (cm) :=
nm_c x1 (N 303) (
nm_l (nm_up M.1 303 x1.toNatClampNeg x2, M.2) fun M8 =>
nm_c x1 (N 304) (
nm_l (nm_up M8.1 304 x1.toNatClampNeg v2, M8.2) fun M10 =>
some M10))
def f_X2_addEnd (N : Nat → Nat) (x1 : Int32) (x2 : Int32) (M : cm) : Option (cm) :=
nm_c x1 (N 303) (
nm_l (M.1 303 x1.toNatClampNeg) fun v2 =>
nm_c x1 (N 304) (
nm_l (M.1 304 x1.toNatClampNeg) fun v4 =>
(if x2 = v2 then
some M
else
(if x2 = v4 then
some M
else
(if v2 = (-1 : Int32) then
f_X2_addEnd_J37 N x1 x2 v2 M
else
(if v2 ≤ x2 then
(if v4 = (-1 : Int32) then
nm_c x1 (N 304) (
nm_l (nm_up M.1 304 x1.toNatClampNeg x2, M.2) fun M15 =>
some M15)
else
(if v4 ≤ x2 then
some M
else
nm_c x1 (N 304) (
nm_l (nm_up M.1 304 x1.toNatClampNeg x2, M.2) fun M18 =>
some M18)))
else
f_X2_addEnd_J37 N x1 x2 v2 M))))))
set_option maxHeartbeats 4000000 in
set_option maxRecDepth 100000 in
theorem k_X2_addEnd {l : Launch} {D : va_G} {Y : nm_Y} {s0 : Nat} {X : va_W} {ad : Nat → Nat} {nl : List Nat} {N K : Nat → Nat} (hL : cl_L nl K) (hN : cl_N N) {x1 : Int32} {x2 : Int32} {M : cm} {M0 : cm} (hf : f_X2_addEnd N x1 x2 M = some M0) :
    nm_Met l yX2_addEnd cX2_addEnd 5 none { frames := 0, cells := 0, slots := 0, locals := 0 } [.ref (ad 300), .int x1, .int x2] D Y s0 (nm_W Y X nl ad (M.1, M.2, N, K)) (nm_Qv D s0 (nm_W Y X nl ad (M0.1, M0.2, N, K))) 0 0 := by
  refine nm_of (by decide) (Nat.le_of_ble_eq_true rfl) ?_
  intro p e R s m args below meth c Q ls hx hb hr hlocks hml hown hts hs0 hK hZ hRf hRl hRc hRs hQ hP hD hl
  have hH : nm_H D Y (fun q => s0 ≤ q) s.heap X nl ad (M.1, M.2, N, K) s.heap [] := ⟨hP, hD, va_S.rf⟩
  have hl : lv_has ls 5 [(0, .ref (ad 300)), (1, .int x1), (2, .int x2)] := hl
  unfold f_X2_addEnd at hf
  refine lv_aload_n hx hb dX2_addEnd_0 rfl (lv_at hl 0 rfl) ?_
  refine gf_2_12 hK hx hb hts hown hH (cl_n300 hL) (cl_k300 hL) (hts _ tw_186) (fun _ h9 => h9) dX2_addEnd_1 ?_
  refine lv_iload_n hx hb dX2_addEnd_4 rfl (lv_at hl 1 rfl) ?_
  obtain ⟨hi1, hf⟩ := nm_chk hf
  refine nm_iald hx hb hK hH (cl_n303 hL) (cl_k303 hL) rfl hi1 dX2_addEnd_5 ?_
  obtain ⟨v2, ev2, hf⟩ := nm_let hf
  refine nm_topi ev2 ?_
  refine lv_istore_n (lv' := [(3, .int v2), (0, .ref (ad 300)), (1, .int x1), (2, .int x2)]) hx hb dX2_addEnd_6 rfl hl (by decide) rfl (fun ls hl => ?_)
  refine lv_aload_n hx hb dX2_addEnd_7 rfl (lv_at hl 1 rfl) ?_
  refine gf_2_13 hK hx hb hts hown hH (cl_n300 hL) (cl_k300 hL) (hts _ tw_187) (fun _ h9 => h9) dX2_addEnd_8 ?_
  refine lv_iload_n hx hb dX2_addEnd_11 rfl (lv_at hl 2 rfl) ?_
  obtain ⟨hi3, hf⟩ := nm_chk hf
  refine nm_iald hx hb hK hH (cl_n304 hL) (cl_k304 hL) rfl hi3 dX2_addEnd_12 ?_
  obtain ⟨v4, ev4, hf⟩ := nm_let hf
  refine nm_topi ev4 ?_
  refine lv_istore (lv' := [(4, .int v4), (3, .int v2), (0, .ref (ad 300)), (1, .int x1), (2, .int x2)]) hx hb dX2_addEnd_13 hl (by decide) rfl (fun ls hl => ?_)
  refine lv_iload_n hx hb dX2_addEnd_15 rfl (lv_at hl 4 rfl) ?_
  refine lv_iload_n hx hb dX2_addEnd_16 rfl (lv_at hl 1 rfl) ?_
  refine lv_icmp_eq (tgt := 26) hx hb dX2_addEnd_17 (by decide) (fun c5 => ?_) (fun c5 => ?_)
  · have hf := nm_it c5 hf
    exact nm_vret hx hb hr hlocks hQ hH (congrArg (fun q => (q.1, q.2, N, K)) (Option.some.inj hf)) dX2_addEnd_26
  · have hf := nm_ie c5 hf
    refine lv_iload_n hx hb dX2_addEnd_20 rfl (lv_at hl 4 rfl) ?_
    refine lv_iload hx hb dX2_addEnd_21 (lv_at hl 0 rfl) ?_
    refine lv_icmp_ne (tgt := 27) hx hb dX2_addEnd_23 (by decide) (fun c6 => ?_) (fun c6 => ?_)
    · have hf := nm_ie c6 hf
      refine lv_iload_n hx hb dX2_addEnd_27 rfl (lv_at hl 1 rfl) ?_
      refine lv_iconst (v := -1) hx hb dX2_addEnd_28 (by decide) ?_
      have hJ37 : ∀  (H : Heap) (locs : List Loc) (ls : Array Slot), nm_H D Y (fun q => s0 ≤ q) s.heap X nl ad (M.1, M.2, N, K) H locs → lv_has ls 5 [(0, .ref (ad 300)), (1, .int x1), (2, .int x2), (3, .int v2)] → f_X2_addEnd_J37 N x1 x2 v2 M = some M0 → W p l e R s m args below meth c H locs 0 0 Q (F0 m 37 ls []) := by
        intro  H locs ls hH hl hf
        unfold f_X2_addEnd_J37 at hf
        refine lv_aload_n hx hb dX2_addEnd_37 rfl (lv_at hl 0 rfl) ?_
        refine gf_2_12 hK hx hb hts hown hH (cl_n300 hL) (cl_k300 hL) (hts _ tw_186) (fun _ h9 => h9) dX2_addEnd_38 ?_
        refine lv_iload_n hx hb dX2_addEnd_41 rfl (lv_at hl 1 rfl) ?_
        refine lv_iload_n hx hb dX2_addEnd_42 rfl (lv_at hl 2 rfl) ?_
        obtain ⟨hi7, hf⟩ := nm_chk hf
        obtain ⟨M8, eM8, hf⟩ := nm_let hf
        refine nm_iast hx hb hK hH (cl_n303 hL) (cl_k303 hL) rfl hi7 dX2_addEnd_43 (fun H locs hH => ?_)
        have hH : nm_H D Y (fun q => s0 ≤ q) s.heap X nl ad (M8.1, M8.2, N, K) H locs := by rw [eM8]; exact hH
        refine lv_aload_n hx hb dX2_addEnd_44 rfl (lv_at hl 0 rfl) ?_
        refine gf_2_13 hK hx hb hts hown hH (cl_n300 hL) (cl_k300 hL) (hts _ tw_187) (fun _ h9 => h9) dX2_addEnd_45 ?_
        refine lv_iload_n hx hb dX2_addEnd_48 rfl (lv_at hl 1 rfl) ?_
        refine lv_iload_n hx hb dX2_addEnd_49 rfl (lv_at hl 3 rfl) ?_
        obtain ⟨hi9, hf⟩ := nm_chk hf
        obtain ⟨M10, eM10, hf⟩ := nm_let hf
        refine nm_iast hx hb hK hH (cl_n304 hL) (cl_k304 hL) rfl hi9 dX2_addEnd_50 (fun H locs hH => ?_)
        have hH : nm_H D Y (fun q => s0 ≤ q) s.heap X nl ad (M10.1, M10.2, N, K) H locs := by rw [eM10]; exact hH
        refine lv_goto (tgt := 73) hx hb dX2_addEnd_51 (by decide) ?_
        exact nm_vret hx hb hr hlocks hQ hH (congrArg (fun q => (q.1, q.2, N, K)) (Option.some.inj hf)) dX2_addEnd_73
      refine lv_icmp_eq (tgt := 37) hx hb dX2_addEnd_29 (by decide) (fun c11 => ?_) (fun c11 => ?_)
      · have hf := nm_it c11 hf
        exact hJ37  _ _ _ hH (lv_sub hl [2, 3, 4, 1] rfl) hf
      · have hf := nm_ie c11 hf
        refine lv_iload_n hx hb dX2_addEnd_32 rfl (lv_at hl 4 rfl) ?_
        refine lv_iload_n hx hb dX2_addEnd_33 rfl (lv_at hl 1 rfl) ?_
        refine lv_icmp_ge (tgt := 54) hx hb dX2_addEnd_34 (by decide) (fun c12 => ?_) (fun c12 => ?_)
        · have hf := nm_it c12 hf
          refine lv_iload hx hb dX2_addEnd_54 (lv_at hl 0 rfl) ?_
          refine lv_iconst (v := -1) hx hb dX2_addEnd_56 (by decide) ?_
          refine lv_icmp_eq (tgt := 66) hx hb dX2_addEnd_57 (by decide) (fun c13 => ?_) (fun c13 => ?_)
          · have hf := nm_it c13 hf
            refine lv_aload_n hx hb dX2_addEnd_66 rfl (lv_at hl 2 rfl) ?_
            refine gf_2_13 hK hx hb hts hown hH (cl_n300 hL) (cl_k300 hL) (hts _ tw_187) (fun _ h9 => h9) dX2_addEnd_67 ?_
            refine lv_iload_n hx hb dX2_addEnd_70 rfl (lv_at hl 3 rfl) ?_
            refine lv_iload_n hx hb dX2_addEnd_71 rfl (lv_at hl 4 rfl) ?_
            obtain ⟨hi14, hf⟩ := nm_chk hf
            obtain ⟨M15, eM15, hf⟩ := nm_let hf
            refine nm_iast hx hb hK hH (cl_n304 hL) (cl_k304 hL) rfl hi14 dX2_addEnd_72 (fun H locs hH => ?_)
            have hH : nm_H D Y (fun q => s0 ≤ q) s.heap X nl ad (M15.1, M15.2, N, K) H locs := by rw [eM15]; exact hH
            exact nm_vret hx hb hr hlocks hQ hH (congrArg (fun q => (q.1, q.2, N, K)) (Option.some.inj hf)) dX2_addEnd_73
          · have hf := nm_ie c13 hf
            refine lv_iload_n hx hb dX2_addEnd_60 rfl (lv_at hl 4 rfl) ?_
            refine lv_iload hx hb dX2_addEnd_61 (lv_at hl 0 rfl) ?_
            refine lv_icmp_ge (tgt := 73) hx hb dX2_addEnd_63 (by decide) (fun c16 => ?_) (fun c16 => ?_)
            · have hf := nm_it c16 hf
              exact nm_vret hx hb hr hlocks hQ hH (congrArg (fun q => (q.1, q.2, N, K)) (Option.some.inj hf)) dX2_addEnd_73
            · have hf := nm_ie c16 hf
              refine lv_aload_n hx hb dX2_addEnd_66 rfl (lv_at hl 2 rfl) ?_
              refine gf_2_13 hK hx hb hts hown hH (cl_n300 hL) (cl_k300 hL) (hts _ tw_187) (fun _ h9 => h9) dX2_addEnd_67 ?_
              refine lv_iload_n hx hb dX2_addEnd_70 rfl (lv_at hl 3 rfl) ?_
              refine lv_iload_n hx hb dX2_addEnd_71 rfl (lv_at hl 4 rfl) ?_
              obtain ⟨hi17, hf⟩ := nm_chk hf
              obtain ⟨M18, eM18, hf⟩ := nm_let hf
              refine nm_iast hx hb hK hH (cl_n304 hL) (cl_k304 hL) rfl hi17 dX2_addEnd_72 (fun H locs hH => ?_)
              have hH : nm_H D Y (fun q => s0 ≤ q) s.heap X nl ad (M18.1, M18.2, N, K) H locs := by rw [eM18]; exact hH
              exact nm_vret hx hb hr hlocks hQ hH (congrArg (fun q => (q.1, q.2, N, K)) (Option.some.inj hf)) dX2_addEnd_73
        · have hf := nm_ie c12 hf
          exact hJ37  _ _ _ hH (lv_sub hl [2, 3, 4, 1] rfl) hf
    · have hf := nm_it c6 hf
      exact nm_vret hx hb hr hlocks hQ hH (congrArg (fun q => (q.1, q.2, N, K)) (Option.some.inj hf)) dX2_addEnd_26
def f_X11_outside_J9  : Int32 :=
(1 : Int32)
def f_X11_outside (x0 : Int32) (x1 : Int32) : Int32 :=
(if x0 < 0 then
f_X11_outside_J9
else
(if x0 < x1 then
(0 : Int32)
else
f_X11_outside_J9))
set_option maxHeartbeats 4000000 in
set_option maxRecDepth 100000 in
theorem k_X11_outside {l : Launch} {D : va_G} {Y : nm_Y} {s0 : Nat} {X : va_W} {ad : Nat → Nat} {nl : List Nat} {N K : Nat → Nat} (hL : cl_L nl K) (hN : cl_N N) {x0 : Int32} {x1 : Int32} {M : cm} {r0 : Int32} (hf : f_X11_outside x0 x1 = r0) :
    nm_Met l yX11_outside cX11_outside 2 (some .boolean) { frames := 0, cells := 0, slots := 0, locals := 0 } [.int x0, .int x1] D Y s0 (nm_W Y X nl ad (M.1, M.2, N, K)) (nm_Qi D s0 r0 (nm_W Y X nl ad (M.1, M.2, N, K))) 0 0 := by
  refine nm_of (by decide) (Nat.le_of_ble_eq_true rfl) ?_
  intro p e R s m args below meth c Q ls hx hb hr hlocks hml hown hts hs0 hK hZ hRf hRl hRc hRs hQ hP hD hl
  have hH : nm_H D Y (fun q => s0 ≤ q) s.heap X nl ad (M.1, M.2, N, K) s.heap [] := ⟨hP, hD, va_S.rf⟩
  have hl : lv_has ls 2 [(0, .int x0), (1, .int x1)] := hl
  unfold f_X11_outside at hf
  refine lv_iload_n hx hb dX11_outside_0 rfl (lv_at hl 0 rfl) ?_
  have hJ9 : ∀  (H : Heap) (locs : List Loc) (ls : Array Slot), nm_H D Y (fun q => s0 ≤ q) s.heap X nl ad (M.1, M.2, N, K) H locs → lv_has ls 2 [] → f_X11_outside_J9 = r0 → W p l e R s m args below meth c H locs 0 0 Q (F0 m 9 ls []) := by
    intro  H locs ls hH hl hf
    unfold f_X11_outside_J9 at hf
    refine lv_iconst (v := 1) hx hb dX11_outside_9 (by decide) ?_
    refine lv_goto (tgt := 14) hx hb dX11_outside_10 (by decide) ?_
    exact nm_zret hx hb hr hlocks hQ hH rfl hf rfl dX11_outside_14
  refine lv_if_lt (tgt := 9) hx hb dX11_outside_1 (by decide) (fun c1 => ?_) (fun c1 => ?_)
  · have hf := nm_it c1 hf
    exact hJ9  _ _ _ hH (lv_sub hl [] rfl) hf
  · have hf := nm_ie c1 hf
    refine lv_iload_n hx hb dX11_outside_4 rfl (lv_at hl 0 rfl) ?_
    refine lv_iload_n hx hb dX11_outside_5 rfl (lv_at hl 1 rfl) ?_
    refine lv_icmp_lt (tgt := 13) hx hb dX11_outside_6 (by decide) (fun c2 => ?_) (fun c2 => ?_)
    · have hf := nm_it c2 hf
      refine lv_iconst (v := 0) hx hb dX11_outside_13 (by decide) ?_
      exact nm_zret hx hb hr hlocks hQ hH rfl hf rfl dX11_outside_14
    · have hf := nm_ie c2 hf
      exact hJ9  _ _ _ hH (lv_sub hl [] rfl) hf
def f_X2_meet_L48 (N : Nat → Nat) (x1 : Int32) (v2 : Int32) (v5 : Int32) : Nat → Int64 → Int32 → cm → Option (cm)
  | 0, _, _, _ => none
  | n48 + 1, x6, x9, M6 =>
    (if v5 ≤ x9 then
    some M6
    else
    nm_s1 (f_X4_groupAt 310 N v2 (f_X0_lowest x6) M6) fun r8 =>
    nm_s1 (f_X2_addEnd N x1 r8 M6) fun M10 =>
    nm_l (x6 &&& (x6 - (1 : Int64))) fun v12 =>
    f_X2_meet_L48 N x1 v2 v5 n48 v12 (x9 + 1) M10)
def f_X2_meet (N : Nat → Nat) (x1 : Int32) (x2 : Int32) (x3 : Int64) (M : cm) : Option (cm) :=
(if (f_X11_outside x2 (64 : Int32)) = 0 then
nm_l (((64 : Int32) * (M.1 300 8)) + x2) fun v2 =>
nm_c v2 1024 (
nm_l (f_X0_heads ((M.2 311 v2.toNatClampNeg) &&& x3)) fun v4 =>
nm_l (f_J13_bitCount_95d88 v4) fun v5 =>
nm_s1 (f_X2_meet_L48 N x1 v2 v5 nm_F v4 (0 : Int32) M) fun M13 =>
some M13)
else
some M)
set_option maxHeartbeats 4000000 in
set_option maxRecDepth 100000 in
theorem k_X2_meet {l : Launch} {D : va_G} {Y : nm_Y} {s0 : Nat} {X : va_W} {ad : Nat → Nat} {nl : List Nat} {N K : Nat → Nat} (hL : cl_L nl K) (hN : cl_N N) {x1 : Int32} {x2 : Int32} {x3 : Int64} {M : cm} {M0 : cm} (hf : f_X2_meet N x1 x2 x3 M = some M0) :
    nm_Met l yX2_meet cX2_meet 10 none { frames := 3, cells := 0, slots := 0, locals := 67 } [.ref (ad 300), .int x1, .int x2, .long x3] D Y s0 (nm_W Y X nl ad (M.1, M.2, N, K)) (nm_Qv D s0 (nm_W Y X nl ad (M0.1, M0.2, N, K))) 0 0 := by
  refine nm_of (by decide) (Nat.le_of_ble_eq_true rfl) ?_
  intro p e R s m args below meth c Q ls hx hb hr hlocks hml hown hts hs0 hK hZ hRf hRl hRc hRs hQ hP hD hl
  have hH : nm_H D Y (fun q => s0 ≤ q) s.heap X nl ad (M.1, M.2, N, K) s.heap [] := ⟨hP, hD, va_S.rf⟩
  have hl : lv_has ls 10 [(0, .ref (ad 300)), (1, .int x1), (2, .int x2), (3, .long x3)] := hl
  unfold f_X2_meet at hf
  refine lv_iload_n hx hb dX2_meet_0 rfl (lv_at hl 2 rfl) ?_
  refine lv_bipush (v := 64) hx hb dX2_meet_1 (by decide) ?_
  refine nm_calli (nm_runSN (X := X) (nl := nl) (k_X11_outside hL hN (hf := (rfl : f_X11_outside x2 (64 : Int32) = _))) hx hb hml hown hts hs0 hK hZ hH tw_321 (hZ.1.2.1) tw_320 tw_1 hd_X11_outside rfl rfl ⟨Nat.le_trans (Nat.le_of_ble_eq_true rfl) hRf, Nat.le_trans (Nat.le_of_ble_eq_true rfl) hRl⟩ rfl hl.1 rfl (Nat.le_of_ble_eq_true rfl) dX2_meet_3 ⟨Nat.zero_le _, Nat.zero_le _⟩) hH (fun H locs hH => ?_)
  have hH : nm_H D Y (fun q => s0 ≤ q) s.heap X nl ad (M.1, M.2, N, K) H locs := hH
  refine lv_if_eq (tgt := 10) hx hb dX2_meet_6 (by decide) (fun c1 => ?_) (fun c1 => ?_)
  · have hf := nm_it c1 hf
    refine lv_bipush (v := 64) hx hb dX2_meet_10 (by decide) ?_
    refine lv_aload_n hx hb dX2_meet_12 rfl (lv_at hl 0 rfl) ?_
    refine gf_2_8 hK hx hb hts hown hH (cl_n300 hL) (cl_k300 hL) (hts _ tw_182) (fun _ h9 => h9) dX2_meet_13 ?_
    refine lv_imul hx hb dX2_meet_16 ?_
    refine lv_iload_n hx hb dX2_meet_17 rfl (lv_at hl 2 rfl) ?_
    refine lv_iadd hx hb dX2_meet_18 ?_
    obtain ⟨v2, ev2, hf⟩ := nm_let hf
    refine nm_topi ev2 ?_
    refine lv_istore (lv' := [(5, .int v2), (0, .ref (ad 300)), (1, .int x1), (2, .int x2), (3, .long x3)]) hx hb dX2_meet_19 hl (by decide) rfl (fun ls hl => ?_)
    refine lv_aload_n hx hb dX2_meet_21 rfl (lv_at hl 1 rfl) ?_
    refine gf_2_4 hK hx hb hts hown hH (cl_n300 hL) (cl_k300 hL) (hts _ tw_177) (fun _ h9 => h9) dX2_meet_22 ?_
    refine gf_4_0 hK hx hb hts hown hH (cl_n310 hL) (cl_k310 hL) (hts _ tw_41) (fun _ h9 => h9) dX2_meet_25 ?_
    refine lv_iload hx hb dX2_meet_28 (lv_at hl 0 rfl) ?_
    obtain ⟨hi3, hf⟩ := nm_chk hf
    refine nm_lald hx hb hK hH (cl_n311 hL) (cl_k311 hL) (cl_l311 hN) hi3 dX2_meet_30 ?_
    refine lv_lload_n hx hb dX2_meet_31 rfl (lv_at hl 4 rfl) ?_
    refine lv_land hx hb dX2_meet_32 ?_
    refine nm_calll (nm_runS (X := X) (nl := nl) (k_X0_heads hL hN (hf := (rfl : f_X0_heads ((M.2 311 v2.toNatClampNeg) &&& x3) = _))) hx hb hml hown hts hs0 hK hZ hH tw_608 tw_823 tw_607 tw_13 hd_X0_heads rfl rfl ⟨Nat.le_trans (Nat.le_of_ble_eq_true rfl) hRf, Nat.le_trans (Nat.le_of_ble_eq_true rfl) hRl⟩ rfl hl.1 rfl (Nat.le_of_ble_eq_true rfl) dX2_meet_33 ⟨Nat.zero_le _, Nat.zero_le _⟩) hH (fun H locs hH => ?_)
    have hH : nm_H D Y (fun q => s0 ≤ q) s.heap X nl ad (M.1, M.2, N, K) H locs := hH
    obtain ⟨v4, ev4, hf⟩ := nm_let hf
    refine nm_topl ev4 ?_
    refine lv_lstore (lv' := [(6, .long v4), (5, .int v2), (0, .ref (ad 300)), (1, .int x1), (2, .int x2), (3, .long x3)]) hx hb dX2_meet_36 hl (by decide) rfl (fun ls hl => ?_)
    refine lv_lload hx hb dX2_meet_38 (lv_at hl 0 rfl) ?_
    refine nm_calli (nm_runS (X := X) (nl := nl) (k_J13_bitCount_95d88 hL hN (hf := (rfl : f_J13_bitCount_95d88 v4 = _))) hx hb hml hown hts hs0 hK hZ hH tw_611 tw_824 tw_610 tw_17 hd_J13_bitCount_95d88 rfl rfl ⟨Nat.le_trans (Nat.le_of_ble_eq_true rfl) hRf, Nat.le_trans (Nat.le_of_ble_eq_true rfl) hRl⟩ rfl hl.1 rfl (Nat.le_of_ble_eq_true rfl) dX2_meet_40 ⟨Nat.zero_le _, Nat.zero_le _⟩) hH (fun H locs hH => ?_)
    have hH : nm_H D Y (fun q => s0 ≤ q) s.heap X nl ad (M.1, M.2, N, K) H locs := hH
    obtain ⟨v5, ev5, hf⟩ := nm_let hf
    refine nm_topi ev5 ?_
    refine lv_istore (lv' := [(8, .int v5), (6, .long v4), (5, .int v2), (0, .ref (ad 300)), (1, .int x1), (2, .int x2), (3, .long x3)]) hx hb dX2_meet_43 hl (by decide) rfl (fun ls hl => ?_)
    refine lv_iconst (v := 0) hx hb dX2_meet_45 (by decide) ?_
    refine lv_istore (lv' := [(9, .int (0 : Int32)), (8, .int v5), (6, .long v4), (5, .int v2), (0, .ref (ad 300)), (1, .int x1), (2, .int x2), (3, .long x3)]) hx hb dX2_meet_46 hl (by decide) rfl (fun ls hl => ?_)
    have hL48 : ∀ (n48 : Nat) (x6 : Int64) (x9 : Int32) (M6 : cm) (H : Heap) (locs : List Loc) (ls : Array Slot) (o48 : cm), nm_H D Y (fun q => s0 ≤ q) s.heap X nl ad (M6.1, M6.2, N, K) H locs → lv_has ls 10 [(0, .ref (ad 300)), (1, .int x1), (5, .int v2), (6, .long x6), (8, .int v5), (9, .int x9)] → f_X2_meet_L48 N x1 v2 v5 n48 x6 x9 M6 = some o48 → (∀ (H : Heap) (locs : List Loc) (ls : Array Slot), nm_H D Y (fun q => s0 ≤ q) s.heap X nl ad (o48.1, o48.2, N, K) H locs → lv_has ls 10 [] → W p l e R s m args below meth c H locs 0 0 Q (F0 m 89 ls [])) → W p l e R s m args below meth c H locs 0 0 Q (F0 m 48 ls []) := by
      intro n48
      induction n48 with
      | zero =>
        intro x6 x9 M6 H locs ls o48 hH hl hf hX48
        cases hf
      | succ n48 ih48 =>
        intro x6 x9 M6 H locs ls o48 hH hl hf hX48
        rw [f_X2_meet_L48] at hf
        refine lv_iload hx hb dX2_meet_48 (lv_at hl 5 rfl) ?_
        refine lv_iload hx hb dX2_meet_50 (lv_at hl 4 rfl) ?_
        refine lv_icmp_ge (tgt := 89) hx hb dX2_meet_52 (by decide) (fun c7 => ?_) (fun c7 => ?_)
        · have hf := nm_it c7 hf
          cases hf
          exact hX48 _ _ _ hH (lv_sub hl [] rfl)
        · have hf := nm_ie c7 hf
          refine lv_aload_n hx hb dX2_meet_55 rfl (lv_at hl 0 rfl) ?_
          refine lv_iload_n hx hb dX2_meet_56 rfl (lv_at hl 1 rfl) ?_
          refine lv_aload_n hx hb dX2_meet_57 rfl (lv_at hl 0 rfl) ?_
          refine gf_2_4 hK hx hb hts hown hH (cl_n300 hL) (cl_k300 hL) (hts _ tw_177) (fun _ h9 => h9) dX2_meet_58 ?_
          refine lv_iload hx hb dX2_meet_61 (lv_at hl 2 rfl) ?_
          refine lv_lload hx hb dX2_meet_63 (lv_at hl 3 rfl) ?_
          refine nm_calli (nm_runS (X := X) (nl := nl) (k_X0_lowest hL hN (hf := (rfl : f_X0_lowest x6 = _))) hx hb hml hown hts hs0 hK hZ hH tw_625 tw_825 tw_624 tw_13 hd_X0_lowest rfl rfl ⟨Nat.le_trans (Nat.le_of_ble_eq_true rfl) hRf, Nat.le_trans (Nat.le_of_ble_eq_true rfl) hRl⟩ rfl hl.1 rfl (Nat.le_of_ble_eq_true rfl) dX2_meet_65 ⟨Nat.zero_le _, Nat.zero_le _⟩) hH (fun H locs hH => ?_)
          have hH : nm_H D Y (fun q => s0 ≤ q) s.heap X nl ad (M6.1, M6.2, N, K) H locs := hH
          obtain ⟨r8, hc9, hf⟩ := nm_sd1 hf
          refine nm_calli (nm_runV (X := X) (nl := nl) (k_X4_groupAt hL hN cl_o310 (hf := hc9)) hx hb hml hown hts hs0 hK hZ hH tw_818 tw_815 tw_816 (sw_X4_groupAt) tw_3 hd_X4_groupAt (cl_n310 hL) (cl_k310 hL) (by decide) rfl rfl rfl ⟨Nat.le_trans (Nat.le_of_ble_eq_true rfl) hRf, Nat.le_trans (Nat.le_of_ble_eq_true rfl) hRl⟩ rfl hl.1 rfl (Nat.le_of_ble_eq_true rfl) dX2_meet_68 ⟨Nat.zero_le _, Nat.zero_le _⟩) hH (fun H locs hH => ?_)
          have hH : nm_H D Y (fun q => s0 ≤ q) s.heap X nl ad (M6.1, M6.2, N, K) H locs := hH
          obtain ⟨M10, hc11, hf⟩ := nm_sd1 hf
          refine nm_callv (nm_runV (X := X) (nl := nl) (k_X2_addEnd hL hN (hf := hc11)) hx hb hml hown hts hs0 hK hZ hH tw_836 tw_833 tw_835 (sw_X2_addEnd) tw_6 hd_X2_addEnd (cl_n300 hL) (cl_k300 hL) (by decide) rfl rfl rfl ⟨Nat.le_trans (Nat.le_of_ble_eq_true rfl) hRf, Nat.le_trans (Nat.le_of_ble_eq_true rfl) hRl⟩ rfl hl.1 rfl (Nat.le_of_ble_eq_true rfl) dX2_meet_71 ⟨Nat.zero_le _, Nat.zero_le _⟩) hH (fun H locs hH => ?_)
          have hH : nm_H D Y (fun q => s0 ≤ q) s.heap X nl ad (M10.1, M10.2, N, K) H locs := hH
          refine lv_lload hx hb dX2_meet_74 (lv_at hl 3 rfl) ?_
          refine lv_lload hx hb dX2_meet_76 (lv_at hl 3 rfl) ?_
          refine lv_lconst (v := 1) hx hb dX2_meet_78 (by decide) ?_
          refine lv_lsub hx hb dX2_meet_79 ?_
          refine lv_land hx hb dX2_meet_80 ?_
          obtain ⟨v12, ev12, hf⟩ := nm_let hf
          refine nm_topl ev12 ?_
          refine lv_lstore (lv' := [(6, .long v12), (0, .ref (ad 300)), (1, .int x1), (5, .int v2), (8, .int v5), (9, .int x9)]) hx hb dX2_meet_81 hl (by decide) rfl (fun ls hl => ?_)
          refine lv_iinc (v := x9 + 1) (lv' := [(9, .int (x9 + 1)), (6, .long v12), (0, .ref (ad 300)), (1, .int x1), (5, .int v2), (8, .int v5)]) hx hb dX2_meet_83 hl (k := 5) rfl rfl (by decide) rfl (fun ls hl => ?_)
          refine lv_goto (tgt := 48) hx hb dX2_meet_86 (by decide) ?_
          exact ih48 v12 (x9 + 1) M10 _ _ _ _ hH (lv_sub hl [2, 3, 4, 1, 5, 0] rfl) hf hX48
    obtain ⟨M13, hl14, hf⟩ := nm_sd1 hf
    refine hL48 nm_F v4 (0 : Int32) M _ _ _ _ hH (lv_sub hl [4, 5, 3, 2, 1, 0] rfl) hl14 (fun H locs ls hH hl => ?_)
    have hl : lv_has ls 10 [] := hl
    have hH : nm_H D Y (fun q => s0 ≤ q) s.heap X nl ad (M13.1, M13.2, N, K) H locs := hH
    exact nm_vret hx hb hr hlocks hQ hH (congrArg (fun q => (q.1, q.2, N, K)) (Option.some.inj hf)) dX2_meet_89
  · have hf := nm_ie c1 hf
    exact nm_vret hx hb hr hlocks hQ hH (congrArg (fun q => (q.1, q.2, N, K)) (Option.some.inj hf)) dX2_meet_9
def f_X2_findEnds_L26 (N : Nat → Nat) (x1 : Int32) (v2 : Int64) (v4 : Int32) : Nat → Int64 → Int32 → cm → Option (cm)
  | 0, _, _, _ => none
  | n26 + 1, x4, x7, M5 =>
    (if v4 ≤ x7 then
    some M5
    else
    nm_l (f_X0_lowest x4) fun v7 =>
    nm_s1 (f_X4_groupAt 320 N x1 v7 M5) fun r8 =>
    nm_l (f_X0_span v7 (f_X0_stretch v2 v7)) fun v10 =>
    nm_s1 (f_X2_meet N r8 (x1 - (1 : Int32)) v10 M5) fun M11 =>
    nm_s1 (f_X2_meet N r8 x1 ((v10 ||| (nm_shl v10 (1 : Int32))) ||| (nm_shr v10 (1 : Int32))) M11) fun M13 =>
    nm_s1 (f_X2_meet N r8 (x1 + (1 : Int32)) v10 M13) fun M15 =>
    nm_l (x4 &&& (x4 - (1 : Int64))) fun v17 =>
    f_X2_findEnds_L26 N x1 v2 v4 n26 v17 (x7 + 1) M15)
def f_X2_findEnds (N : Nat → Nat) (x1 : Int32) (M : cm) : Option (cm) :=
nm_c x1 64 (
nm_l (M.2 321 x1.toNatClampNeg) fun v2 =>
nm_l (f_X0_heads v2) fun v3 =>
nm_l (f_J13_bitCount_95d88 v3) fun v4 =>
nm_s1 (f_X2_findEnds_L26 N x1 v2 v4 nm_F v3 (0 : Int32) M) fun M18 =>
some M18)
set_option maxHeartbeats 4000000 in
set_option maxRecDepth 100000 in
theorem k_X2_findEnds {l : Launch} {D : va_G} {Y : nm_Y} {s0 : Nat} {X : va_W} {ad : Nat → Nat} {nl : List Nat} {N K : Nat → Nat} (hL : cl_L nl K) (hN : cl_N N) {x1 : Int32} {M : cm} {M0 : cm} (hf : f_X2_findEnds N x1 M = some M0) :
    nm_Met l yX2_findEnds cX2_findEnds 12 none { frames := 4, cells := 0, slots := 0, locals := 96 } [.ref (ad 300), .int x1] D Y s0 (nm_W Y X nl ad (M.1, M.2, N, K)) (nm_Qv D s0 (nm_W Y X nl ad (M0.1, M0.2, N, K))) 0 0 := by
  refine nm_of (by decide) (Nat.le_of_ble_eq_true rfl) ?_
  intro p e R s m args below meth c Q ls hx hb hr hlocks hml hown hts hs0 hK hZ hRf hRl hRc hRs hQ hP hD hl
  have hH : nm_H D Y (fun q => s0 ≤ q) s.heap X nl ad (M.1, M.2, N, K) s.heap [] := ⟨hP, hD, va_S.rf⟩
  have hl : lv_has ls 12 [(0, .ref (ad 300)), (1, .int x1)] := hl
  unfold f_X2_findEnds at hf
  refine lv_aload_n hx hb dX2_findEnds_0 rfl (lv_at hl 0 rfl) ?_
  refine gf_2_10 hK hx hb hts hown hH (cl_n300 hL) (cl_k300 hL) (hts _ tw_184) (fun _ h9 => h9) dX2_findEnds_1 ?_
  refine gf_4_0 hK hx hb hts hown hH (cl_n320 hL) (cl_k320 hL) (hts _ tw_41) (fun _ h9 => h9) dX2_findEnds_4 ?_
  refine lv_iload_n hx hb dX2_findEnds_7 rfl (lv_at hl 1 rfl) ?_
  obtain ⟨hi1, hf⟩ := nm_chk hf
  refine nm_lald hx hb hK hH (cl_n321 hL) (cl_k321 hL) (cl_l321 hN) hi1 dX2_findEnds_8 ?_
  obtain ⟨v2, ev2, hf⟩ := nm_let hf
  refine nm_topl ev2 ?_
  refine lv_lstore_n (lv' := [(2, .long v2), (0, .ref (ad 300)), (1, .int x1)]) hx hb dX2_findEnds_9 rfl hl (by decide) rfl (fun ls hl => ?_)
  refine lv_lload_n hx hb dX2_findEnds_10 rfl (lv_at hl 0 rfl) ?_
  refine nm_calll (nm_runS (X := X) (nl := nl) (k_X0_heads hL hN (hf := (rfl : f_X0_heads v2 = _))) hx hb hml hown hts hs0 hK hZ hH tw_608 tw_823 tw_607 tw_13 hd_X0_heads rfl rfl ⟨Nat.le_trans (Nat.le_of_ble_eq_true rfl) hRf, Nat.le_trans (Nat.le_of_ble_eq_true rfl) hRl⟩ rfl hl.1 rfl (Nat.le_of_ble_eq_true rfl) dX2_findEnds_11 ⟨Nat.zero_le _, Nat.zero_le _⟩) hH (fun H locs hH => ?_)
  have hH : nm_H D Y (fun q => s0 ≤ q) s.heap X nl ad (M.1, M.2, N, K) H locs := hH
  obtain ⟨v3, ev3, hf⟩ := nm_let hf
  refine nm_topl ev3 ?_
  refine lv_lstore (lv' := [(4, .long v3), (2, .long v2), (0, .ref (ad 300)), (1, .int x1)]) hx hb dX2_findEnds_14 hl (by decide) rfl (fun ls hl => ?_)
  refine lv_lload hx hb dX2_findEnds_16 (lv_at hl 0 rfl) ?_
  refine nm_calli (nm_runS (X := X) (nl := nl) (k_J13_bitCount_95d88 hL hN (hf := (rfl : f_J13_bitCount_95d88 v3 = _))) hx hb hml hown hts hs0 hK hZ hH tw_611 tw_824 tw_610 tw_17 hd_J13_bitCount_95d88 rfl rfl ⟨Nat.le_trans (Nat.le_of_ble_eq_true rfl) hRf, Nat.le_trans (Nat.le_of_ble_eq_true rfl) hRl⟩ rfl hl.1 rfl (Nat.le_of_ble_eq_true rfl) dX2_findEnds_18 ⟨Nat.zero_le _, Nat.zero_le _⟩) hH (fun H locs hH => ?_)
  have hH : nm_H D Y (fun q => s0 ≤ q) s.heap X nl ad (M.1, M.2, N, K) H locs := hH
  obtain ⟨v4, ev4, hf⟩ := nm_let hf
  refine nm_topi ev4 ?_
  refine lv_istore (lv' := [(6, .int v4), (4, .long v3), (2, .long v2), (0, .ref (ad 300)), (1, .int x1)]) hx hb dX2_findEnds_21 hl (by decide) rfl (fun ls hl => ?_)
  refine lv_iconst (v := 0) hx hb dX2_findEnds_23 (by decide) ?_
  refine lv_istore (lv' := [(7, .int (0 : Int32)), (6, .int v4), (4, .long v3), (2, .long v2), (0, .ref (ad 300)), (1, .int x1)]) hx hb dX2_findEnds_24 hl (by decide) rfl (fun ls hl => ?_)
  have hL26 : ∀ (n26 : Nat) (x4 : Int64) (x7 : Int32) (M5 : cm) (H : Heap) (locs : List Loc) (ls : Array Slot) (o26 : cm), nm_H D Y (fun q => s0 ≤ q) s.heap X nl ad (M5.1, M5.2, N, K) H locs → lv_has ls 12 [(0, .ref (ad 300)), (1, .int x1), (2, .long v2), (4, .long x4), (6, .int v4), (7, .int x7)] → f_X2_findEnds_L26 N x1 v2 v4 n26 x4 x7 M5 = some o26 → (∀ (H : Heap) (locs : List Loc) (ls : Array Slot), nm_H D Y (fun q => s0 ≤ q) s.heap X nl ad (o26.1, o26.2, N, K) H locs → lv_has ls 12 [] → W p l e R s m args below meth c H locs 0 0 Q (F0 m 121 ls [])) → W p l e R s m args below meth c H locs 0 0 Q (F0 m 26 ls []) := by
    intro n26
    induction n26 with
    | zero =>
      intro x4 x7 M5 H locs ls o26 hH hl hf hX26
      cases hf
    | succ n26 ih26 =>
      intro x4 x7 M5 H locs ls o26 hH hl hf hX26
      rw [f_X2_findEnds_L26] at hf
      refine lv_iload hx hb dX2_findEnds_26 (lv_at hl 5 rfl) ?_
      refine lv_iload hx hb dX2_findEnds_28 (lv_at hl 4 rfl) ?_
      refine lv_icmp_ge (tgt := 121) hx hb dX2_findEnds_30 (by decide) (fun c6 => ?_) (fun c6 => ?_)
      · have hf := nm_it c6 hf
        cases hf
        exact hX26 _ _ _ hH (lv_sub hl [] rfl)
      · have hf := nm_ie c6 hf
        refine lv_lload hx hb dX2_findEnds_33 (lv_at hl 3 rfl) ?_
        refine nm_calli (nm_runS (X := X) (nl := nl) (k_X0_lowest hL hN (hf := (rfl : f_X0_lowest x4 = _))) hx hb hml hown hts hs0 hK hZ hH tw_625 tw_825 tw_624 tw_13 hd_X0_lowest rfl rfl ⟨Nat.le_trans (Nat.le_of_ble_eq_true rfl) hRf, Nat.le_trans (Nat.le_of_ble_eq_true rfl) hRl⟩ rfl hl.1 rfl (Nat.le_of_ble_eq_true rfl) dX2_findEnds_35 ⟨Nat.zero_le _, Nat.zero_le _⟩) hH (fun H locs hH => ?_)
        have hH : nm_H D Y (fun q => s0 ≤ q) s.heap X nl ad (M5.1, M5.2, N, K) H locs := hH
        obtain ⟨v7, ev7, hf⟩ := nm_let hf
        refine nm_topi ev7 ?_
        refine lv_istore (lv' := [(8, .int v7), (0, .ref (ad 300)), (1, .int x1), (2, .long v2), (4, .long x4), (6, .int v4), (7, .int x7)]) hx hb dX2_findEnds_38 hl (by decide) rfl (fun ls hl => ?_)
        refine lv_aload_n hx hb dX2_findEnds_40 rfl (lv_at hl 1 rfl) ?_
        refine gf_2_10 hK hx hb hts hown hH (cl_n300 hL) (cl_k300 hL) (hts _ tw_184) (fun _ h9 => h9) dX2_findEnds_41 ?_
        refine lv_iload_n hx hb dX2_findEnds_44 rfl (lv_at hl 2 rfl) ?_
        refine lv_iload hx hb dX2_findEnds_45 (lv_at hl 0 rfl) ?_
        obtain ⟨r8, hc9, hf⟩ := nm_sd1 hf
        refine nm_calli (nm_runV (X := X) (nl := nl) (k_X4_groupAt hL hN cl_o320 (hf := hc9)) hx hb hml hown hts hs0 hK hZ hH tw_818 tw_815 tw_816 (sw_X4_groupAt) tw_3 hd_X4_groupAt (cl_n320 hL) (cl_k320 hL) (by decide) rfl rfl rfl ⟨Nat.le_trans (Nat.le_of_ble_eq_true rfl) hRf, Nat.le_trans (Nat.le_of_ble_eq_true rfl) hRl⟩ rfl hl.1 rfl (Nat.le_of_ble_eq_true rfl) dX2_findEnds_47 ⟨Nat.zero_le _, Nat.zero_le _⟩) hH (fun H locs hH => ?_)
        have hH : nm_H D Y (fun q => s0 ≤ q) s.heap X nl ad (M5.1, M5.2, N, K) H locs := hH
        refine lv_istore (lv' := [(9, .int r8), (8, .int v7), (0, .ref (ad 300)), (1, .int x1), (2, .long v2), (4, .long x4), (6, .int v4), (7, .int x7)]) hx hb dX2_findEnds_50 hl (by decide) rfl (fun ls hl => ?_)
        refine lv_iload hx hb dX2_findEnds_52 (lv_at hl 1 rfl) ?_
        refine lv_lload_n hx hb dX2_findEnds_54 rfl (lv_at hl 4 rfl) ?_
        refine lv_iload hx hb dX2_findEnds_55 (lv_at hl 1 rfl) ?_
        refine nm_calli (nm_runS (X := X) (nl := nl) (k_X0_stretch hL hN (hf := (rfl : f_X0_stretch v2 v7 = _))) hx hb hml hown hts hs0 hK hZ hH tw_649 tw_826 tw_648 tw_13 hd_X0_stretch rfl rfl ⟨Nat.le_trans (Nat.le_of_ble_eq_true rfl) hRf, Nat.le_trans (Nat.le_of_ble_eq_true rfl) hRl⟩ rfl hl.1 rfl (Nat.le_of_ble_eq_true rfl) dX2_findEnds_57 ⟨Nat.zero_le _, Nat.zero_le _⟩) hH (fun H locs hH => ?_)
        have hH : nm_H D Y (fun q => s0 ≤ q) s.heap X nl ad (M5.1, M5.2, N, K) H locs := hH
        refine nm_calll (nm_runS (X := X) (nl := nl) (k_X0_span hL hN (hf := (rfl : f_X0_span v7 (f_X0_stretch v2 v7) = _))) hx hb hml hown hts hs0 hK hZ hH tw_378 tw_827 tw_377 tw_13 hd_X0_span rfl rfl ⟨Nat.le_trans (Nat.le_of_ble_eq_true rfl) hRf, Nat.le_trans (Nat.le_of_ble_eq_true rfl) hRl⟩ rfl hl.1 rfl (Nat.le_of_ble_eq_true rfl) dX2_findEnds_60 ⟨Nat.zero_le _, Nat.zero_le _⟩) hH (fun H locs hH => ?_)
        have hH : nm_H D Y (fun q => s0 ≤ q) s.heap X nl ad (M5.1, M5.2, N, K) H locs := hH
        obtain ⟨v10, ev10, hf⟩ := nm_let hf
        refine nm_topl ev10 ?_
        refine lv_lstore (lv' := [(10, .long v10), (9, .int r8), (8, .int v7), (0, .ref (ad 300)), (1, .int x1), (2, .long v2), (4, .long x4), (6, .int v4), (7, .int x7)]) hx hb dX2_findEnds_63 hl (by decide) rfl (fun ls hl => ?_)
        refine lv_aload_n hx hb dX2_findEnds_65 rfl (lv_at hl 3 rfl) ?_
        refine lv_iload hx hb dX2_findEnds_66 (lv_at hl 1 rfl) ?_
        refine lv_iload_n hx hb dX2_findEnds_68 rfl (lv_at hl 4 rfl) ?_
        refine lv_iconst (v := 1) hx hb dX2_findEnds_69 (by decide) ?_
        refine lv_isub hx hb dX2_findEnds_70 ?_
        refine lv_lload hx hb dX2_findEnds_71 (lv_at hl 0 rfl) ?_
        obtain ⟨M11, hc12, hf⟩ := nm_sd1 hf
        refine nm_callv (nm_runV (X := X) (nl := nl) (k_X2_meet hL hN (hf := hc12)) hx hb hml hown hts hs0 hK hZ hH tw_831 tw_828 tw_830 (sw_X2_meet) tw_6 hd_X2_meet (cl_n300 hL) (cl_k300 hL) (by decide) rfl rfl rfl ⟨Nat.le_trans (Nat.le_of_ble_eq_true rfl) hRf, Nat.le_trans (Nat.le_of_ble_eq_true rfl) hRl⟩ rfl hl.1 rfl (Nat.le_of_ble_eq_true rfl) dX2_findEnds_73 ⟨Nat.zero_le _, Nat.zero_le _⟩) hH (fun H locs hH => ?_)
        have hH : nm_H D Y (fun q => s0 ≤ q) s.heap X nl ad (M11.1, M11.2, N, K) H locs := hH
        refine lv_aload_n hx hb dX2_findEnds_76 rfl (lv_at hl 3 rfl) ?_
        refine lv_iload hx hb dX2_findEnds_77 (lv_at hl 1 rfl) ?_
        refine lv_iload_n hx hb dX2_findEnds_79 rfl (lv_at hl 4 rfl) ?_
        refine lv_lload hx hb dX2_findEnds_80 (lv_at hl 0 rfl) ?_
        refine lv_lload hx hb dX2_findEnds_82 (lv_at hl 0 rfl) ?_
        refine lv_iconst (v := 1) hx hb dX2_findEnds_84 (by decide) ?_
        refine lv_lshl (v := nm_shl v10 (1 : Int32)) hx hb dX2_findEnds_85 rfl ?_
        refine lv_lor hx hb dX2_findEnds_86 ?_
        refine lv_lload hx hb dX2_findEnds_87 (lv_at hl 0 rfl) ?_
        refine lv_iconst (v := 1) hx hb dX2_findEnds_89 (by decide) ?_
        refine lv_lushr (v := nm_shr v10 (1 : Int32)) hx hb dX2_findEnds_90 rfl ?_
        refine lv_lor hx hb dX2_findEnds_91 ?_
        obtain ⟨M13, hc14, hf⟩ := nm_sd1 hf
        refine nm_callv (nm_runV (X := X) (nl := nl) (k_X2_meet hL hN (hf := hc14)) hx hb hml hown hts hs0 hK hZ hH tw_831 tw_828 tw_830 (sw_X2_meet) tw_6 hd_X2_meet (cl_n300 hL) (cl_k300 hL) (by decide) rfl rfl rfl ⟨Nat.le_trans (Nat.le_of_ble_eq_true rfl) hRf, Nat.le_trans (Nat.le_of_ble_eq_true rfl) hRl⟩ rfl hl.1 rfl (Nat.le_of_ble_eq_true rfl) dX2_findEnds_92 ⟨Nat.zero_le _, Nat.zero_le _⟩) hH (fun H locs hH => ?_)
        have hH : nm_H D Y (fun q => s0 ≤ q) s.heap X nl ad (M13.1, M13.2, N, K) H locs := hH
        refine lv_aload_n hx hb dX2_findEnds_95 rfl (lv_at hl 3 rfl) ?_
        refine lv_iload hx hb dX2_findEnds_96 (lv_at hl 1 rfl) ?_
        refine lv_iload_n hx hb dX2_findEnds_98 rfl (lv_at hl 4 rfl) ?_
        refine lv_iconst (v := 1) hx hb dX2_findEnds_99 (by decide) ?_
        refine lv_iadd hx hb dX2_findEnds_100 ?_
        refine lv_lload hx hb dX2_findEnds_101 (lv_at hl 0 rfl) ?_
        obtain ⟨M15, hc16, hf⟩ := nm_sd1 hf
        refine nm_callv (nm_runV (X := X) (nl := nl) (k_X2_meet hL hN (hf := hc16)) hx hb hml hown hts hs0 hK hZ hH tw_831 tw_828 tw_830 (sw_X2_meet) tw_6 hd_X2_meet (cl_n300 hL) (cl_k300 hL) (by decide) rfl rfl rfl ⟨Nat.le_trans (Nat.le_of_ble_eq_true rfl) hRf, Nat.le_trans (Nat.le_of_ble_eq_true rfl) hRl⟩ rfl hl.1 rfl (Nat.le_of_ble_eq_true rfl) dX2_findEnds_103 ⟨Nat.zero_le _, Nat.zero_le _⟩) hH (fun H locs hH => ?_)
        have hH : nm_H D Y (fun q => s0 ≤ q) s.heap X nl ad (M15.1, M15.2, N, K) H locs := hH
        refine lv_lload hx hb dX2_findEnds_106 (lv_at hl 6 rfl) ?_
        refine lv_lload hx hb dX2_findEnds_108 (lv_at hl 6 rfl) ?_
        refine lv_lconst (v := 1) hx hb dX2_findEnds_110 (by decide) ?_
        refine lv_lsub hx hb dX2_findEnds_111 ?_
        refine lv_land hx hb dX2_findEnds_112 ?_
        obtain ⟨v17, ev17, hf⟩ := nm_let hf
        refine nm_topl ev17 ?_
        refine lv_lstore (lv' := [(4, .long v17), (10, .long v10), (9, .int r8), (8, .int v7), (0, .ref (ad 300)), (1, .int x1), (2, .long v2), (6, .int v4), (7, .int x7)]) hx hb dX2_findEnds_113 hl (by decide) rfl (fun ls hl => ?_)
        refine lv_iinc (v := x7 + 1) (lv' := [(7, .int (x7 + 1)), (4, .long v17), (10, .long v10), (9, .int r8), (8, .int v7), (0, .ref (ad 300)), (1, .int x1), (2, .long v2), (6, .int v4)]) hx hb dX2_findEnds_115 hl (k := 8) rfl rfl (by decide) rfl (fun ls hl => ?_)
        refine lv_goto (tgt := 26) hx hb dX2_findEnds_118 (by decide) ?_
        exact ih26 v17 (x7 + 1) M15 _ _ _ _ hH (lv_sub hl [5, 6, 7, 1, 8, 0] rfl) hf hX26
  obtain ⟨M18, hl19, hf⟩ := nm_sd1 hf
  refine hL26 nm_F v3 (0 : Int32) M _ _ _ _ hH (lv_sub hl [4, 5, 3, 2, 1, 0] rfl) hl19 (fun H locs ls hH hl => ?_)
  have hl : lv_has ls 12 [] := hl
  have hH : nm_H D Y (fun q => s0 ≤ q) s.heap X nl ad (M18.1, M18.2, N, K) H locs := hH
  exact nm_vret hx hb hr hlocks hQ hH (congrArg (fun q => (q.1, q.2, N, K)) (Option.some.inj hf)) dX2_findEnds_121
def f_X2_conducted (x1 : Int32) (M : cm) : Int32 :=
(if ((M.1 300 9) &&& ((1 : Int32) <<< (x1 &&& 31))) = 0 then
(0 : Int32)
else
(1 : Int32))
set_option maxHeartbeats 4000000 in
set_option maxRecDepth 100000 in
theorem k_X2_conducted {l : Launch} {D : va_G} {Y : nm_Y} {s0 : Nat} {X : va_W} {ad : Nat → Nat} {nl : List Nat} {N K : Nat → Nat} (hL : cl_L nl K) (hN : cl_N N) {x1 : Int32} {M : cm} {r0 : Int32} (hf : f_X2_conducted x1 M = r0) :
    nm_Met l yX2_conducted cX2_conducted 2 (some .boolean) { frames := 0, cells := 0, slots := 0, locals := 0 } [.ref (ad 300), .int x1] D Y s0 (nm_W Y X nl ad (M.1, M.2, N, K)) (nm_Qi D s0 r0 (nm_W Y X nl ad (M.1, M.2, N, K))) 0 0 := by
  refine nm_of (by decide) (Nat.le_of_ble_eq_true rfl) ?_
  intro p e R s m args below meth c Q ls hx hb hr hlocks hml hown hts hs0 hK hZ hRf hRl hRc hRs hQ hP hD hl
  have hH : nm_H D Y (fun q => s0 ≤ q) s.heap X nl ad (M.1, M.2, N, K) s.heap [] := ⟨hP, hD, va_S.rf⟩
  have hl : lv_has ls 2 [(0, .ref (ad 300)), (1, .int x1)] := hl
  unfold f_X2_conducted at hf
  refine lv_aload_n hx hb dX2_conducted_0 rfl (lv_at hl 0 rfl) ?_
  refine gf_2_9 hK hx hb hts hown hH (cl_n300 hL) (cl_k300 hL) (hts _ tw_183) (fun _ h9 => h9) dX2_conducted_1 ?_
  refine lv_iconst (v := 1) hx hb dX2_conducted_4 (by decide) ?_
  refine lv_iload_n hx hb dX2_conducted_5 rfl (lv_at hl 1 rfl) ?_
  refine lv_ishl hx hb dX2_conducted_6 ?_
  refine lv_iand hx hb dX2_conducted_7 ?_
  refine lv_if_eq (tgt := 15) hx hb dX2_conducted_8 (by decide) (fun c1 => ?_) (fun c1 => ?_)
  · have hf := nm_it c1 hf
    refine lv_iconst (v := 0) hx hb dX2_conducted_15 (by decide) ?_
    exact nm_zret hx hb hr hlocks hQ hH rfl hf rfl dX2_conducted_16
  · have hf := nm_ie c1 hf
    refine lv_iconst (v := 1) hx hb dX2_conducted_11 (by decide) ?_
    refine lv_goto (tgt := 16) hx hb dX2_conducted_12 (by decide) ?_
    exact nm_zret hx hb hr hlocks hQ hH rfl hf rfl dX2_conducted_16
def f_X2_netAt (N : Nat → Nat) (x1 : Int32) (x2 : Int32) (M : cm) : Option Int32 :=
nm_s1 (f_X4_groupAt 310 N (((64 : Int32) * x1) + (x2 / (64 : Int32))) (x2 - x2 / (64 : Int32) * (64 : Int32)) M) fun r1 =>
some r1
set_option maxHeartbeats 4000000 in
set_option maxRecDepth 100000 in
theorem k_X2_netAt {l : Launch} {D : va_G} {Y : nm_Y} {s0 : Nat} {X : va_W} {ad : Nat → Nat} {nl : List Nat} {N K : Nat → Nat} (hL : cl_L nl K) (hN : cl_N N) {x1 : Int32} {x2 : Int32} {M : cm} {r0 : Int32} (hf : f_X2_netAt N x1 x2 M = some r0) :
    nm_Met l yX2_netAt cX2_netAt 3 (some .int) { frames := 3, cells := 0, slots := 0, locals := 67 } [.ref (ad 300), .int x1, .int x2] D Y s0 (nm_W Y X nl ad (M.1, M.2, N, K)) (nm_Qi D s0 r0 (nm_W Y X nl ad (M.1, M.2, N, K))) 0 0 := by
  refine nm_of (by decide) (Nat.le_of_ble_eq_true rfl) ?_
  intro p e R s m args below meth c Q ls hx hb hr hlocks hml hown hts hs0 hK hZ hRf hRl hRc hRs hQ hP hD hl
  have hH : nm_H D Y (fun q => s0 ≤ q) s.heap X nl ad (M.1, M.2, N, K) s.heap [] := ⟨hP, hD, va_S.rf⟩
  have hl : lv_has ls 3 [(0, .ref (ad 300)), (1, .int x1), (2, .int x2)] := hl
  unfold f_X2_netAt at hf
  refine lv_aload_n hx hb dX2_netAt_0 rfl (lv_at hl 0 rfl) ?_
  refine gf_2_4 hK hx hb hts hown hH (cl_n300 hL) (cl_k300 hL) (hts _ tw_177) (fun _ h9 => h9) dX2_netAt_1 ?_
  refine lv_bipush (v := 64) hx hb dX2_netAt_4 (by decide) ?_
  refine lv_iload_n hx hb dX2_netAt_6 rfl (lv_at hl 1 rfl) ?_
  refine lv_imul hx hb dX2_netAt_7 ?_
  refine lv_iload_n hx hb dX2_netAt_8 rfl (lv_at hl 2 rfl) ?_
  refine lv_bipush (v := 64) hx hb dX2_netAt_9 (by decide) ?_
  refine lv_idiv hx hb dX2_netAt_11 (by decide) ?_
  refine lv_iadd hx hb dX2_netAt_12 ?_
  refine lv_iload_n hx hb dX2_netAt_13 rfl (lv_at hl 2 rfl) ?_
  refine lv_bipush (v := 64) hx hb dX2_netAt_14 (by decide) ?_
  refine lv_irem hx hb dX2_netAt_16 (by decide) ?_
  obtain ⟨r1, hc2, hf⟩ := nm_sd1 hf
  refine nm_calli (nm_runV (X := X) (nl := nl) (k_X4_groupAt hL hN cl_o310 (hf := hc2)) hx hb hml hown hts hs0 hK hZ hH tw_818 tw_815 tw_816 (sw_X4_groupAt) tw_3 hd_X4_groupAt (cl_n310 hL) (cl_k310 hL) (by decide) rfl rfl rfl ⟨Nat.le_trans (Nat.le_of_ble_eq_true rfl) hRf, Nat.le_trans (Nat.le_of_ble_eq_true rfl) hRl⟩ rfl hl.1 rfl (Nat.le_of_ble_eq_true rfl) dX2_netAt_17 ⟨Nat.zero_le _, Nat.zero_le _⟩) hH (fun H locs hH => ?_)
  have hH : nm_H D Y (fun q => s0 ≤ q) s.heap X nl ad (M.1, M.2, N, K) H locs := hH
  exact nm_iret hx hb hr hlocks hQ hH (Option.some.inj hf) rfl dX2_netAt_20
def f_X2_nameOf_J56 (N : Nat → Nat) (x4 : Int32) (x5 : Int32) (M : cm) (k : Int32 → Int32 → Option Int32) (kx6 : Unit → Option Int32) : Option Int32 :=
k x4 (x5 + 1)
def f_X2_nameOf_L6 (N : Nat → Nat) (x2 : Int32) (M : cm) (kx6 : Unit → Option Int32) : Nat → Int32 → Int32 → Option Int32
  | 0, _, _ => none
  | n6 + 1, x4, x5 =>
    (if (M.1 100 3) ≤ x5 then
    kx6 ()
    else
    nm_c x5 200 (
    nm_l (M.1 102 x5.toNatClampNeg) fun v3 =>
    nm_s1 (f_X2_netAt N (f_X5_layerOf v3) (f_X5_squareOf v3) M) fun r4 =>
    (if r4 = x2 then
    (if x4 = 0 then
    some (f_X5_nameOf v3)
    else
    f_X2_nameOf_J56 N (x4 + (-1)) x5 M (f_X2_nameOf_L6 N x2 M kx6 n6) kx6)
    else
    f_X2_nameOf_J56 N x4 x5 M (f_X2_nameOf_L6 N x2 M kx6 n6) kx6)))
def f_X2_nameOf (N : Nat → Nat) (x2 : Int32) (x3 : Int32) (M : cm) : Option Int32 :=
nm_l (fun (_ : Unit) =>
some (-1 : Int32)) fun kx6 =>
f_X2_nameOf_L6 N x2 M kx6 nm_F x3 (0 : Int32)
set_option maxHeartbeats 4000000 in
set_option maxRecDepth 100000 in
theorem k_X2_nameOf {l : Launch} {D : va_G} {Y : nm_Y} {s0 : Nat} {X : va_W} {ad : Nat → Nat} {nl : List Nat} {N K : Nat → Nat} (hL : cl_L nl K) (hN : cl_N N) {x2 : Int32} {x3 : Int32} {M : cm} {r0 : Int32} (hf : f_X2_nameOf N x2 x3 M = some r0) :
    nm_Met l yX2_nameOf cX2_nameOf 7 (some .int) { frames := 4, cells := 0, slots := 0, locals := 89 } [.ref (ad 300), .ref (ad 100), .int x2, .int x3] D Y s0 (nm_W Y X nl ad (M.1, M.2, N, K)) (nm_Qi D s0 r0 (nm_W Y X nl ad (M.1, M.2, N, K))) 0 0 := by
  refine nm_of (by decide) (Nat.le_of_ble_eq_true rfl) ?_
  intro p e R s m args below meth c Q ls hx hb hr hlocks hml hown hts hs0 hK hZ hRf hRl hRc hRs hQ hP hD hl
  have hH : nm_H D Y (fun q => s0 ≤ q) s.heap X nl ad (M.1, M.2, N, K) s.heap [] := ⟨hP, hD, va_S.rf⟩
  have hl : lv_has ls 7 [(0, .ref (ad 300)), (1, .ref (ad 100)), (2, .int x2), (3, .int x3)] := hl
  unfold f_X2_nameOf at hf
  refine lv_iload_n hx hb dX2_nameOf_0 rfl (lv_at hl 3 rfl) ?_
  refine lv_istore (lv' := [(4, .int x3), (0, .ref (ad 300)), (1, .ref (ad 100)), (2, .int x2), (3, .int x3)]) hx hb dX2_nameOf_1 hl (by decide) rfl (fun ls hl => ?_)
  refine lv_iconst (v := 0) hx hb dX2_nameOf_3 (by decide) ?_
  refine lv_istore (lv' := [(5, .int (0 : Int32)), (4, .int x3), (0, .ref (ad 300)), (1, .ref (ad 100)), (2, .int x2), (3, .int x3)]) hx hb dX2_nameOf_4 hl (by decide) rfl (fun ls hl => ?_)
  obtain ⟨kx6, hkx6, hf⟩ := nm_let hf
  have hX6 : ∀  (H : Heap) (locs : List Loc) (ls : Array Slot), nm_H D Y (fun q => s0 ≤ q) s.heap X nl ad (M.1, M.2, N, K) H locs → lv_has ls 7 [] → kx6 () = some r0 → W p l e R s m args below meth c H locs 0 0 Q (F0 m 62 ls []) := by
    intro  H locs ls hH hl hf
    rw [hkx6] at hf
    refine lv_iconst (v := -1) hx hb dX2_nameOf_62 (by decide) ?_
    exact nm_iret hx hb hr hlocks hQ hH (Option.some.inj hf) rfl dX2_nameOf_63
  have hL6 : ∀ (n6 : Nat) (x4 : Int32) (x5 : Int32) (H : Heap) (locs : List Loc) (ls : Array Slot), nm_H D Y (fun q => s0 ≤ q) s.heap X nl ad (M.1, M.2, N, K) H locs → lv_has ls 7 [(0, .ref (ad 300)), (1, .ref (ad 100)), (2, .int x2), (4, .int x4), (5, .int x5)] → f_X2_nameOf_L6 N x2 M kx6 n6 x4 x5 = some r0 → W p l e R s m args below meth c H locs 0 0 Q (F0 m 6 ls []) := by
    intro n6
    induction n6 with
    | zero =>
      intro x4 x5 H locs ls hH hl hf
      cases hf
    | succ n6 ih6 =>
      intro x4 x5 H locs ls hH hl hf
      rw [f_X2_nameOf_L6] at hf
      refine lv_iload hx hb dX2_nameOf_6 (lv_at hl 4 rfl) ?_
      refine lv_aload_n hx hb dX2_nameOf_8 rfl (lv_at hl 1 rfl) ?_
      refine gf_3_3 hK hx hb hts hown hH (cl_n100 hL) (cl_k100 hL) (hts _ tw_92) (fun _ h9 => h9) dX2_nameOf_9 ?_
      refine lv_icmp_ge (tgt := 62) hx hb dX2_nameOf_12 (by decide) (fun c1 => ?_) (fun c1 => ?_)
      · have hf := nm_it c1 hf
        exact hX6  _ _ _ hH (lv_sub hl [] rfl) hf
      · have hf := nm_ie c1 hf
        refine lv_aload_n hx hb dX2_nameOf_15 rfl (lv_at hl 1 rfl) ?_
        refine gf_3_2 hK hx hb hts hown hH (cl_n100 hL) (cl_k100 hL) (hts _ tw_90) (fun _ h9 => h9) dX2_nameOf_16 ?_
        refine lv_iload hx hb dX2_nameOf_19 (lv_at hl 4 rfl) ?_
        obtain ⟨hi2, hf⟩ := nm_chk hf
        refine nm_iald hx hb hK hH (cl_n102 hL) (cl_k102 hL) (cl_l102 hN) hi2 dX2_nameOf_21 ?_
        obtain ⟨v3, ev3, hf⟩ := nm_let hf
        refine nm_topi ev3 ?_
        refine lv_istore (lv' := [(6, .int v3), (0, .ref (ad 300)), (1, .ref (ad 100)), (2, .int x2), (4, .int x4), (5, .int x5)]) hx hb dX2_nameOf_22 hl (by decide) rfl (fun ls hl => ?_)
        refine lv_aload_n hx hb dX2_nameOf_24 rfl (lv_at hl 1 rfl) ?_
        refine lv_iload hx hb dX2_nameOf_25 (lv_at hl 0 rfl) ?_
        refine nm_calli (nm_runS (X := X) (nl := nl) (k_X5_layerOf hL hN (hf := (rfl : f_X5_layerOf v3 = _))) hx hb hml hown hts hs0 hK hZ hH tw_580 tw_854 tw_579 tw_14 hd_X5_layerOf rfl rfl ⟨Nat.le_trans (Nat.le_of_ble_eq_true rfl) hRf, Nat.le_trans (Nat.le_of_ble_eq_true rfl) hRl⟩ rfl hl.1 rfl (Nat.le_of_ble_eq_true rfl) dX2_nameOf_27 ⟨Nat.zero_le _, Nat.zero_le _⟩) hH (fun H locs hH => ?_)
        have hH : nm_H D Y (fun q => s0 ≤ q) s.heap X nl ad (M.1, M.2, N, K) H locs := hH
        refine lv_iload hx hb dX2_nameOf_30 (lv_at hl 0 rfl) ?_
        refine nm_calli (nm_runS (X := X) (nl := nl) (k_X5_squareOf hL hN (hf := (rfl : f_X5_squareOf v3 = _))) hx hb hml hown hts hs0 hK hZ hH tw_576 tw_855 tw_575 tw_14 hd_X5_squareOf rfl rfl ⟨Nat.le_trans (Nat.le_of_ble_eq_true rfl) hRf, Nat.le_trans (Nat.le_of_ble_eq_true rfl) hRl⟩ rfl hl.1 rfl (Nat.le_of_ble_eq_true rfl) dX2_nameOf_32 ⟨Nat.zero_le _, Nat.zero_le _⟩) hH (fun H locs hH => ?_)
        have hH : nm_H D Y (fun q => s0 ≤ q) s.heap X nl ad (M.1, M.2, N, K) H locs := hH
        obtain ⟨r4, hc5, hf⟩ := nm_sd1 hf
        refine nm_calli (nm_runV (X := X) (nl := nl) (k_X2_netAt hL hN (hf := hc5)) hx hb hml hown hts hs0 hK hZ hH tw_814 tw_811 tw_812 (sw_X2_netAt) tw_6 hd_X2_netAt (cl_n300 hL) (cl_k300 hL) (by decide) rfl rfl rfl ⟨Nat.le_trans (Nat.le_of_ble_eq_true rfl) hRf, Nat.le_trans (Nat.le_of_ble_eq_true rfl) hRl⟩ rfl hl.1 rfl (Nat.le_of_ble_eq_true rfl) dX2_nameOf_35 ⟨Nat.zero_le _, Nat.zero_le _⟩) hH (fun H locs hH => ?_)
        have hH : nm_H D Y (fun q => s0 ≤ q) s.heap X nl ad (M.1, M.2, N, K) H locs := hH
        refine lv_iload_n hx hb dX2_nameOf_38 rfl (lv_at hl 3 rfl) ?_
        have hJ56 : ∀ (x4 : Int32) (H : Heap) (locs : List Loc) (ls : Array Slot), nm_H D Y (fun q => s0 ≤ q) s.heap X nl ad (M.1, M.2, N, K) H locs → lv_has ls 7 [(0, .ref (ad 300)), (1, .ref (ad 100)), (2, .int x2), (4, .int x4), (5, .int x5)] → f_X2_nameOf_J56 N x4 x5 M (f_X2_nameOf_L6 N x2 M kx6 n6) kx6 = some r0 → W p l e R s m args below meth c H locs 0 0 Q (F0 m 56 ls []) := by
          intro x4 H locs ls hH hl hf
          unfold f_X2_nameOf_J56 at hf
          refine lv_iinc (v := x5 + 1) (lv' := [(5, .int (x5 + 1)), (0, .ref (ad 300)), (1, .ref (ad 100)), (2, .int x2), (4, .int x4)]) hx hb dX2_nameOf_56 hl (k := 4) rfl rfl (by decide) rfl (fun ls hl => ?_)
          refine lv_goto (tgt := 6) hx hb dX2_nameOf_59 (by decide) ?_
          exact ih6 x4 (x5 + 1) _ _ _ hH (lv_sub hl [1, 2, 3, 4, 0] rfl) hf
        refine lv_icmp_ne (tgt := 56) hx hb dX2_nameOf_39 (by decide) (fun c6 => ?_) (fun c6 => ?_)
        · have hf := nm_ie c6 hf
          exact hJ56 x4 _ _ _ hH (lv_sub hl [1, 2, 3, 4, 5] rfl) hf
        · have hf := nm_it c6 hf
          refine lv_iload hx hb dX2_nameOf_42 (lv_at hl 4 rfl) ?_
          refine lv_if_ne (tgt := 53) hx hb dX2_nameOf_44 (by decide) (fun c7 => ?_) (fun c7 => ?_)
          · have hf := nm_ie c7 hf
            refine lv_iinc (v := x4 + (-1)) (lv' := [(4, .int (x4 + (-1))), (6, .int v3), (0, .ref (ad 300)), (1, .ref (ad 100)), (2, .int x2), (5, .int x5)]) hx hb dX2_nameOf_53 hl (k := 4) rfl rfl (by decide) rfl (fun ls hl => ?_)
            exact hJ56 (x4 + (-1)) _ _ _ hH (lv_sub hl [2, 3, 4, 0, 5] rfl) hf
          · have hf := nm_it c7 hf
            refine lv_iload hx hb dX2_nameOf_47 (lv_at hl 0 rfl) ?_
            refine nm_calli (nm_runS (X := X) (nl := nl) (k_X5_nameOf hL hN (hf := (rfl : f_X5_nameOf v3 = _))) hx hb hml hown hts hs0 hK hZ hH tw_583 tw_856 tw_582 tw_14 hd_X5_nameOf rfl rfl ⟨Nat.le_trans (Nat.le_of_ble_eq_true rfl) hRf, Nat.le_trans (Nat.le_of_ble_eq_true rfl) hRl⟩ rfl hl.1 rfl (Nat.le_of_ble_eq_true rfl) dX2_nameOf_49 ⟨Nat.zero_le _, Nat.zero_le _⟩) hH (fun H locs hH => ?_)
            have hH : nm_H D Y (fun q => s0 ≤ q) s.heap X nl ad (M.1, M.2, N, K) H locs := hH
            exact nm_iret hx hb hr hlocks hQ hH (Option.some.inj hf) rfl dX2_nameOf_52
  exact hL6 nm_F x3 (0 : Int32) _ _ _ hH (lv_sub hl [2, 3, 4, 1, 0] rfl) hf
def f_X2_ofDevice (N : Nat → Nat) (x1 : Int32) (x2 : Int32) (M : cm) : Option Int32 :=
(if x2 = (0 : Int32) then
nm_c x1 (N 322) (
some (M.1 322 x1.toNatClampNeg))
else
if x2 = (1 : Int32) then
nm_c x1 (N 302) (
some (M.1 302 x1.toNatClampNeg))
else
if x2 = (2 : Int32) then
nm_c x1 (N 303) (
some (M.1 303 x1.toNatClampNeg))
else
nm_c x1 (N 304) (
some (M.1 304 x1.toNatClampNeg)))
set_option maxHeartbeats 4000000 in
set_option maxRecDepth 100000 in
theorem k_X2_ofDevice {l : Launch} {D : va_G} {Y : nm_Y} {s0 : Nat} {X : va_W} {ad : Nat → Nat} {nl : List Nat} {N K : Nat → Nat} (hL : cl_L nl K) (hN : cl_N N) {x1 : Int32} {x2 : Int32} {M : cm} {r0 : Int32} (hf : f_X2_ofDevice N x1 x2 M = some r0) :
    nm_Met l yX2_ofDevice cX2_ofDevice 3 (some .int) { frames := 0, cells := 0, slots := 0, locals := 0 } [.ref (ad 300), .int x1, .int x2] D Y s0 (nm_W Y X nl ad (M.1, M.2, N, K)) (nm_Qi D s0 r0 (nm_W Y X nl ad (M.1, M.2, N, K))) 0 0 := by
  refine nm_of (by decide) (Nat.le_of_ble_eq_true rfl) ?_
  intro p e R s m args below meth c Q ls hx hb hr hlocks hml hown hts hs0 hK hZ hRf hRl hRc hRs hQ hP hD hl
  have hH : nm_H D Y (fun q => s0 ≤ q) s.heap X nl ad (M.1, M.2, N, K) s.heap [] := ⟨hP, hD, va_S.rf⟩
  have hl : lv_has ls 3 [(0, .ref (ad 300)), (1, .int x1), (2, .int x2)] := hl
  unfold f_X2_ofDevice at hf
  refine lv_iload_n hx hb dX2_ofDevice_0 rfl (lv_at hl 2 rfl) ?_
  by_cases c1 : x2 = (0 : Int32)
  · have hf := nm_it c1 hf
    refine nm_tab (off := 27) (tgt := 28) hx hb c1 dX2_ofDevice_1 (by decide) (by decide) (by decide) (by decide) ?_
    refine lv_aload_n hx hb dX2_ofDevice_28 rfl (lv_at hl 0 rfl) ?_
    refine gf_2_10 hK hx hb hts hown hH (cl_n300 hL) (cl_k300 hL) (hts _ tw_184) (fun _ h9 => h9) dX2_ofDevice_29 ?_
    refine gf_4_2 hK hx hb hts hown hH (cl_n320 hL) (cl_k320 hL) (hts _ tw_49) (fun _ h9 => h9) dX2_ofDevice_32 ?_
    refine lv_iload_n hx hb dX2_ofDevice_35 rfl (lv_at hl 1 rfl) ?_
    obtain ⟨hi2, hf⟩ := nm_chk hf
    refine nm_iald hx hb hK hH (cl_n322 hL) (cl_k322 hL) rfl hi2 dX2_ofDevice_36 ?_
    exact nm_iret hx hb hr hlocks hQ hH (Option.some.inj hf) rfl dX2_ofDevice_37
  have hf := nm_ie c1 hf
  by_cases c3 : x2 = (1 : Int32)
  · have hf := nm_it c3 hf
    refine nm_tab (off := 37) (tgt := 38) hx hb c3 dX2_ofDevice_1 (by decide) (by decide) (by decide) (by decide) ?_
    refine lv_aload_n hx hb dX2_ofDevice_38 rfl (lv_at hl 0 rfl) ?_
    refine gf_2_11 hK hx hb hts hown hH (cl_n300 hL) (cl_k300 hL) (hts _ tw_185) (fun _ h9 => h9) dX2_ofDevice_39 ?_
    refine lv_iload_n hx hb dX2_ofDevice_42 rfl (lv_at hl 1 rfl) ?_
    obtain ⟨hi4, hf⟩ := nm_chk hf
    refine nm_iald hx hb hK hH (cl_n302 hL) (cl_k302 hL) rfl hi4 dX2_ofDevice_43 ?_
    exact nm_iret hx hb hr hlocks hQ hH (Option.some.inj hf) rfl dX2_ofDevice_44
  have hf := nm_ie c3 hf
  by_cases c5 : x2 = (2 : Int32)
  · have hf := nm_it c5 hf
    refine nm_tab (off := 44) (tgt := 45) hx hb c5 dX2_ofDevice_1 (by decide) (by decide) (by decide) (by decide) ?_
    refine lv_aload_n hx hb dX2_ofDevice_45 rfl (lv_at hl 0 rfl) ?_
    refine gf_2_12 hK hx hb hts hown hH (cl_n300 hL) (cl_k300 hL) (hts _ tw_186) (fun _ h9 => h9) dX2_ofDevice_46 ?_
    refine lv_iload_n hx hb dX2_ofDevice_49 rfl (lv_at hl 1 rfl) ?_
    obtain ⟨hi6, hf⟩ := nm_chk hf
    refine nm_iald hx hb hK hH (cl_n303 hL) (cl_k303 hL) rfl hi6 dX2_ofDevice_50 ?_
    exact nm_iret hx hb hr hlocks hQ hH (Option.some.inj hf) rfl dX2_ofDevice_51
  have hf := nm_ie c5 hf
  refine lv_tableOut (tgt := 52) hx hb dX2_ofDevice_1 (nm_sw x2 (fun k h1 h2 hk => by
    rcases (show k = 0 ∨ k = 1 ∨ k = 2 by omega) with rfl | rfl | rfl <;> first | exact c1 hk | exact c3 hk | exact c5 hk)) (by decide) ?_
  refine lv_aload_n hx hb dX2_ofDevice_52 rfl (lv_at hl 0 rfl) ?_
  refine gf_2_13 hK hx hb hts hown hH (cl_n300 hL) (cl_k300 hL) (hts _ tw_187) (fun _ h9 => h9) dX2_ofDevice_53 ?_
  refine lv_iload_n hx hb dX2_ofDevice_56 rfl (lv_at hl 1 rfl) ?_
  obtain ⟨hi7, hf⟩ := nm_chk hf
  refine nm_iald hx hb hK hH (cl_n304 hL) (cl_k304 hL) rfl hi7 dX2_ofDevice_57 ?_
  exact nm_iret hx hb hr hlocks hQ hH (Option.some.inj hf) rfl dX2_ofDevice_58
def f_X2_isWhole (N : Nat → Nat) (x1 : Int32) (M : cm) : Option Int32 :=
nm_c x1 (N 302) (
(if (M.1 302 x1.toNatClampNeg) = (-1 : Int32) then
some (0 : Int32)
else
nm_c x1 (N 304) (
(if (M.1 304 x1.toNatClampNeg) = (-1 : Int32) then
some (0 : Int32)
else
some (1 : Int32)))))
set_option maxHeartbeats 4000000 in
set_option maxRecDepth 100000 in
theorem k_X2_isWhole {l : Launch} {D : va_G} {Y : nm_Y} {s0 : Nat} {X : va_W} {ad : Nat → Nat} {nl : List Nat} {N K : Nat → Nat} (hL : cl_L nl K) (hN : cl_N N) {x1 : Int32} {M : cm} {r0 : Int32} (hf : f_X2_isWhole N x1 M = some r0) :
    nm_Met l yX2_isWhole cX2_isWhole 2 (some .boolean) { frames := 0, cells := 0, slots := 0, locals := 0 } [.ref (ad 300), .int x1] D Y s0 (nm_W Y X nl ad (M.1, M.2, N, K)) (nm_Qi D s0 r0 (nm_W Y X nl ad (M.1, M.2, N, K))) 0 0 := by
  refine nm_of (by decide) (Nat.le_of_ble_eq_true rfl) ?_
  intro p e R s m args below meth c Q ls hx hb hr hlocks hml hown hts hs0 hK hZ hRf hRl hRc hRs hQ hP hD hl
  have hH : nm_H D Y (fun q => s0 ≤ q) s.heap X nl ad (M.1, M.2, N, K) s.heap [] := ⟨hP, hD, va_S.rf⟩
  have hl : lv_has ls 2 [(0, .ref (ad 300)), (1, .int x1)] := hl
  unfold f_X2_isWhole at hf
  refine lv_aload_n hx hb dX2_isWhole_0 rfl (lv_at hl 0 rfl) ?_
  refine gf_2_11 hK hx hb hts hown hH (cl_n300 hL) (cl_k300 hL) (hts _ tw_185) (fun _ h9 => h9) dX2_isWhole_1 ?_
  refine lv_iload_n hx hb dX2_isWhole_4 rfl (lv_at hl 1 rfl) ?_
  obtain ⟨hi1, hf⟩ := nm_chk hf
  refine nm_iald hx hb hK hH (cl_n302 hL) (cl_k302 hL) rfl hi1 dX2_isWhole_5 ?_
  refine lv_iconst (v := -1) hx hb dX2_isWhole_6 (by decide) ?_
  refine lv_icmp_eq (tgt := 24) hx hb dX2_isWhole_7 (by decide) (fun c2 => ?_) (fun c2 => ?_)
  · have hf := nm_it c2 hf
    refine lv_iconst (v := 0) hx hb dX2_isWhole_24 (by decide) ?_
    exact nm_zret hx hb hr hlocks hQ hH rfl (Option.some.inj hf) rfl dX2_isWhole_25
  · have hf := nm_ie c2 hf
    refine lv_aload_n hx hb dX2_isWhole_10 rfl (lv_at hl 0 rfl) ?_
    refine gf_2_13 hK hx hb hts hown hH (cl_n300 hL) (cl_k300 hL) (hts _ tw_187) (fun _ h9 => h9) dX2_isWhole_11 ?_
    refine lv_iload_n hx hb dX2_isWhole_14 rfl (lv_at hl 1 rfl) ?_
    obtain ⟨hi3, hf⟩ := nm_chk hf
    refine nm_iald hx hb hK hH (cl_n304 hL) (cl_k304 hL) rfl hi3 dX2_isWhole_15 ?_
    refine lv_iconst (v := -1) hx hb dX2_isWhole_16 (by decide) ?_
    refine lv_icmp_eq (tgt := 24) hx hb dX2_isWhole_17 (by decide) (fun c4 => ?_) (fun c4 => ?_)
    · have hf := nm_it c4 hf
      refine lv_iconst (v := 0) hx hb dX2_isWhole_24 (by decide) ?_
      exact nm_zret hx hb hr hlocks hQ hH rfl (Option.some.inj hf) rfl dX2_isWhole_25
    · have hf := nm_ie c4 hf
      refine lv_iconst (v := 1) hx hb dX2_isWhole_20 (by decide) ?_
      refine lv_goto (tgt := 25) hx hb dX2_isWhole_21 (by decide) ?_
      exact nm_zret hx hb hr hlocks hQ hH rfl (Option.some.inj hf) rfl dX2_isWhole_25
def f_X3_tell (x1 : Int32) (x2 : Int32) (x3 : Int32) (x4 : Int32) (M : cm) : Option (cm) :=
nm_c (x1 - (8 : Int32)) 8 (
nm_l ((nm_up M.1 103 ((x1 - (8 : Int32)).toNatClampNeg) x2, M.2)) fun M2 =>
nm_c (x1 - (8 : Int32)) 8 (
nm_l ((nm_up M2.1 104 ((x1 - (8 : Int32)).toNatClampNeg) x3, M2.2)) fun M4 =>
nm_c (x1 - (8 : Int32)) 8 (
nm_l ((nm_up M4.1 105 ((x1 - (8 : Int32)).toNatClampNeg) x4, M4.2)) fun M6 =>
some M6)))
set_option maxHeartbeats 4000000 in
set_option maxRecDepth 100000 in
theorem k_X3_tell {l : Launch} {D : va_G} {Y : nm_Y} {s0 : Nat} {X : va_W} {ad : Nat → Nat} {nl : List Nat} {N K : Nat → Nat} (hL : cl_L nl K) (hN : cl_N N) {x1 : Int32} {x2 : Int32} {x3 : Int32} {x4 : Int32} {M : cm} {M0 : cm} (hf : f_X3_tell x1 x2 x3 x4 M = some M0) :
    nm_Met l yX3_tell cX3_tell 5 none { frames := 0, cells := 0, slots := 0, locals := 0 } [.ref (ad 100), .int x1, .int x2, .int x3, .int x4] D Y s0 (nm_W Y X nl ad (M.1, M.2, N, K)) (nm_Qv D s0 (nm_W Y X nl ad (M0.1, M0.2, N, K))) 0 0 := by
  refine nm_of (by decide) (Nat.le_of_ble_eq_true rfl) ?_
  intro p e R s m args below meth c Q ls hx hb hr hlocks hml hown hts hs0 hK hZ hRf hRl hRc hRs hQ hP hD hl
  have hH : nm_H D Y (fun q => s0 ≤ q) s.heap X nl ad (M.1, M.2, N, K) s.heap [] := ⟨hP, hD, va_S.rf⟩
  have hl : lv_has ls 5 [(0, .ref (ad 100)), (1, .int x1), (2, .int x2), (3, .int x3), (4, .int x4)] := hl
  unfold f_X3_tell at hf
  refine lv_aload_n hx hb dX3_tell_0 rfl (lv_at hl 0 rfl) ?_
  refine gf_3_4 hK hx hb hts hown hH (cl_n100 hL) (cl_k100 hL) (hts _ tw_93) (fun _ h9 => h9) dX3_tell_1 ?_
  refine lv_iload_n hx hb dX3_tell_4 rfl (lv_at hl 1 rfl) ?_
  refine lv_bipush (v := 8) hx hb dX3_tell_5 (by decide) ?_
  refine lv_isub hx hb dX3_tell_7 ?_
  refine lv_iload_n hx hb dX3_tell_8 rfl (lv_at hl 2 rfl) ?_
  obtain ⟨hi1, hf⟩ := nm_chk hf
  obtain ⟨M2, eM2, hf⟩ := nm_let hf
  refine nm_iast hx hb hK hH (cl_n103 hL) (cl_k103 hL) (cl_l103 hN) hi1 dX3_tell_9 (fun H locs hH => ?_)
  have hH : nm_H D Y (fun q => s0 ≤ q) s.heap X nl ad (M2.1, M2.2, N, K) H locs := by rw [eM2]; exact hH
  refine lv_aload_n hx hb dX3_tell_10 rfl (lv_at hl 0 rfl) ?_
  refine gf_3_5 hK hx hb hts hown hH (cl_n100 hL) (cl_k100 hL) (hts _ tw_94) (fun _ h9 => h9) dX3_tell_11 ?_
  refine lv_iload_n hx hb dX3_tell_14 rfl (lv_at hl 1 rfl) ?_
  refine lv_bipush (v := 8) hx hb dX3_tell_15 (by decide) ?_
  refine lv_isub hx hb dX3_tell_17 ?_
  refine lv_iload_n hx hb dX3_tell_18 rfl (lv_at hl 3 rfl) ?_
  obtain ⟨hi3, hf⟩ := nm_chk hf
  obtain ⟨M4, eM4, hf⟩ := nm_let hf
  refine nm_iast hx hb hK hH (cl_n104 hL) (cl_k104 hL) (cl_l104 hN) hi3 dX3_tell_19 (fun H locs hH => ?_)
  have hH : nm_H D Y (fun q => s0 ≤ q) s.heap X nl ad (M4.1, M4.2, N, K) H locs := by rw [eM4]; exact hH
  refine lv_aload_n hx hb dX3_tell_20 rfl (lv_at hl 0 rfl) ?_
  refine gf_3_6 hK hx hb hts hown hH (cl_n100 hL) (cl_k100 hL) (hts _ tw_95) (fun _ h9 => h9) dX3_tell_21 ?_
  refine lv_iload_n hx hb dX3_tell_24 rfl (lv_at hl 1 rfl) ?_
  refine lv_bipush (v := 8) hx hb dX3_tell_25 (by decide) ?_
  refine lv_isub hx hb dX3_tell_27 ?_
  refine lv_iload hx hb dX3_tell_28 (lv_at hl 4 rfl) ?_
  obtain ⟨hi5, hf⟩ := nm_chk hf
  obtain ⟨M6, eM6, hf⟩ := nm_let hf
  refine nm_iast hx hb hK hH (cl_n105 hL) (cl_k105 hL) (cl_l105 hN) hi5 dX3_tell_30 (fun H locs hH => ?_)
  have hH : nm_H D Y (fun q => s0 ≤ q) s.heap X nl ad (M6.1, M6.2, N, K) H locs := by rw [eM6]; exact hH
  exact nm_vret hx hb hr hlocks hQ hH (congrArg (fun q => (q.1, q.2, N, K)) (Option.some.inj hf)) dX3_tell_31
def f_X3_mixed (x0 : Int32) (x1 : Int64) (x3 : Int64) : Int64 :=
(if x0 = 0 then
x1 &&& x3
else
(if x0 = (1 : Int32) then
x1 ||| x3
else
x1 &&& (x3 ^^^ (-1 : Int64))))
set_option maxHeartbeats 4000000 in
set_option maxRecDepth 100000 in
theorem k_X3_mixed {l : Launch} {D : va_G} {Y : nm_Y} {s0 : Nat} {X : va_W} {ad : Nat → Nat} {nl : List Nat} {N K : Nat → Nat} (hL : cl_L nl K) (hN : cl_N N) {x0 : Int32} {x1 : Int64} {x3 : Int64} {M : cm} {r0 : Int64} (hf : f_X3_mixed x0 x1 x3 = r0) :
    nm_Met l yX3_mixed cX3_mixed 5 (some .long) { frames := 0, cells := 0, slots := 0, locals := 0 } [.int x0, .long x1, .long x3] D Y s0 (nm_W Y X nl ad (M.1, M.2, N, K)) (nm_Ql D s0 r0 (nm_W Y X nl ad (M.1, M.2, N, K))) 0 0 := by
  refine nm_of (by decide) (Nat.le_of_ble_eq_true rfl) ?_
  intro p e R s m args below meth c Q ls hx hb hr hlocks hml hown hts hs0 hK hZ hRf hRl hRc hRs hQ hP hD hl
  have hH : nm_H D Y (fun q => s0 ≤ q) s.heap X nl ad (M.1, M.2, N, K) s.heap [] := ⟨hP, hD, va_S.rf⟩
  have hl : lv_has ls 5 [(0, .int x0), (1, .long x1), (3, .long x3)] := hl
  unfold f_X3_mixed at hf
  refine lv_iload_n hx hb dX3_mixed_0 rfl (lv_at hl 0 rfl) ?_
  refine lv_if_ne (tgt := 10) hx hb dX3_mixed_1 (by decide) (fun c1 => ?_) (fun c1 => ?_)
  · have hf := nm_ie c1 hf
    refine lv_iload_n hx hb dX3_mixed_10 rfl (lv_at hl 0 rfl) ?_
    refine lv_iconst (v := 1) hx hb dX3_mixed_11 (by decide) ?_
    refine lv_icmp_ne (tgt := 21) hx hb dX3_mixed_12 (by decide) (fun c2 => ?_) (fun c2 => ?_)
    · have hf := nm_ie c2 hf
      refine lv_lload_n hx hb dX3_mixed_21 rfl (lv_at hl 1 rfl) ?_
      refine lv_lload_n hx hb dX3_mixed_22 rfl (lv_at hl 2 rfl) ?_
      refine lv_ldc2 hx hb hown (hts _ tw_667) dX3_mixed_23 ?_
      refine lv_lxor hx hb dX3_mixed_26 ?_
      refine lv_land hx hb dX3_mixed_27 ?_
      exact nm_lret hx hb hr hlocks hQ hH hf rfl dX3_mixed_28
    · have hf := nm_it c2 hf
      refine lv_lload_n hx hb dX3_mixed_15 rfl (lv_at hl 1 rfl) ?_
      refine lv_lload_n hx hb dX3_mixed_16 rfl (lv_at hl 2 rfl) ?_
      refine lv_lor hx hb dX3_mixed_17 ?_
      refine lv_goto (tgt := 28) hx hb dX3_mixed_18 (by decide) ?_
      exact nm_lret hx hb hr hlocks hQ hH hf rfl dX3_mixed_28
  · have hf := nm_it c1 hf
    refine lv_lload_n hx hb dX3_mixed_4 rfl (lv_at hl 1 rfl) ?_
    refine lv_lload_n hx hb dX3_mixed_5 rfl (lv_at hl 2 rfl) ?_
    refine lv_land hx hb dX3_mixed_6 ?_
    refine lv_goto (tgt := 28) hx hb dX3_mixed_7 (by decide) ?_
    exact nm_lret hx hb hr hlocks hQ hH hf rfl dX3_mixed_28
def f_X3_squaresOf_L4 (x1 : Int32) (M : cm) : Nat → Int32 → Int32 → Option (Int32)
  | 0, _, _ => none
  | n4 + 1, x2, x3 =>
    (if (64 : Int32) ≤ x3 then
    some x2
    else
    nm_c (((64 : Int32) * x1) + x3) 1024 (
    nm_l (x2 + (f_J13_bitCount_95d88 (M.2 101 (((64 : Int32) * x1) + x3).toNatClampNeg))) fun v3 =>
    f_X3_squaresOf_L4 x1 M n4 v3 (x3 + 1)))
def f_X3_squaresOf (x1 : Int32) (M : cm) : Option Int32 :=
nm_s1 (f_X3_squaresOf_L4 x1 M nm_F (0 : Int32) (0 : Int32)) fun y4 =>
some y4
set_option maxHeartbeats 4000000 in
set_option maxRecDepth 100000 in
theorem k_X3_squaresOf {l : Launch} {D : va_G} {Y : nm_Y} {s0 : Nat} {X : va_W} {ad : Nat → Nat} {nl : List Nat} {N K : Nat → Nat} (hL : cl_L nl K) (hN : cl_N N) {x1 : Int32} {M : cm} {r0 : Int32} (hf : f_X3_squaresOf x1 M = some r0) :
    nm_Met l yX3_squaresOf cX3_squaresOf 4 (some .int) { frames := 1, cells := 0, slots := 0, locals := 21 } [.ref (ad 100), .int x1] D Y s0 (nm_W Y X nl ad (M.1, M.2, N, K)) (nm_Qi D s0 r0 (nm_W Y X nl ad (M.1, M.2, N, K))) 0 0 := by
  refine nm_of (by decide) (Nat.le_of_ble_eq_true rfl) ?_
  intro p e R s m args below meth c Q ls hx hb hr hlocks hml hown hts hs0 hK hZ hRf hRl hRc hRs hQ hP hD hl
  have hH : nm_H D Y (fun q => s0 ≤ q) s.heap X nl ad (M.1, M.2, N, K) s.heap [] := ⟨hP, hD, va_S.rf⟩
  have hl : lv_has ls 4 [(0, .ref (ad 100)), (1, .int x1)] := hl
  unfold f_X3_squaresOf at hf
  refine lv_iconst (v := 0) hx hb dX3_squaresOf_0 (by decide) ?_
  refine lv_istore_n (lv' := [(2, .int (0 : Int32)), (0, .ref (ad 100)), (1, .int x1)]) hx hb dX3_squaresOf_1 rfl hl (by decide) rfl (fun ls hl => ?_)
  refine lv_iconst (v := 0) hx hb dX3_squaresOf_2 (by decide) ?_
  refine lv_istore_n (lv' := [(3, .int (0 : Int32)), (2, .int (0 : Int32)), (0, .ref (ad 100)), (1, .int x1)]) hx hb dX3_squaresOf_3 rfl hl (by decide) rfl (fun ls hl => ?_)
  have hL4 : ∀ (n4 : Nat) (x2 : Int32) (x3 : Int32) (H : Heap) (locs : List Loc) (ls : Array Slot) (o4 : Int32), nm_H D Y (fun q => s0 ≤ q) s.heap X nl ad (M.1, M.2, N, K) H locs → lv_has ls 4 [(0, .ref (ad 100)), (1, .int x1), (2, .int x2), (3, .int x3)] → f_X3_squaresOf_L4 x1 M n4 x2 x3 = some o4 → (∀ (H : Heap) (locs : List Loc) (ls : Array Slot), nm_H D Y (fun q => s0 ≤ q) s.heap X nl ad (M.1, M.2, N, K) H locs → lv_has ls 4 [(2, .int o4)] → W p l e R s m args below meth c H locs 0 0 Q (F0 m 33 ls [])) → W p l e R s m args below meth c H locs 0 0 Q (F0 m 4 ls []) := by
    intro n4
    induction n4 with
    | zero =>
      intro x2 x3 H locs ls o4 hH hl hf hX4
      cases hf
    | succ n4 ih4 =>
      intro x2 x3 H locs ls o4 hH hl hf hX4
      rw [f_X3_squaresOf_L4] at hf
      refine lv_iload_n hx hb dX3_squaresOf_4 rfl (lv_at hl 3 rfl) ?_
      refine lv_bipush (v := 64) hx hb dX3_squaresOf_5 (by decide) ?_
      refine lv_icmp_ge (tgt := 33) hx hb dX3_squaresOf_7 (by decide) (fun c1 => ?_) (fun c1 => ?_)
      · have hf := nm_it c1 hf
        cases hf
        exact hX4 _ _ _ hH (lv_sub hl [2] rfl)
      · have hf := nm_ie c1 hf
        refine lv_iload_n hx hb dX3_squaresOf_10 rfl (lv_at hl 2 rfl) ?_
        refine lv_aload_n hx hb dX3_squaresOf_11 rfl (lv_at hl 0 rfl) ?_
        refine gf_3_1 hK hx hb hts hown hH (cl_n100 hL) (cl_k100 hL) (hts _ tw_85) (fun _ h9 => h9) dX3_squaresOf_12 ?_
        refine lv_bipush (v := 64) hx hb dX3_squaresOf_15 (by decide) ?_
        refine lv_iload_n hx hb dX3_squaresOf_17 rfl (lv_at hl 1 rfl) ?_
        refine lv_imul hx hb dX3_squaresOf_18 ?_
        refine lv_iload_n hx hb dX3_squaresOf_19 rfl (lv_at hl 3 rfl) ?_
        refine lv_iadd hx hb dX3_squaresOf_20 ?_
        obtain ⟨hi2, hf⟩ := nm_chk hf
        refine nm_lald hx hb hK hH (cl_n101 hL) (cl_k101 hL) (cl_l101 hN) hi2 dX3_squaresOf_21 ?_
        refine nm_calli (nm_runS (X := X) (nl := nl) (k_J13_bitCount_95d88 hL hN (hf := (rfl : f_J13_bitCount_95d88 (M.2 101 (((64 : Int32) * x1) + x3).toNatClampNeg) = _))) hx hb hml hown hts hs0 hK hZ hH tw_611 tw_672 tw_610 tw_17 hd_J13_bitCount_95d88 rfl rfl ⟨Nat.le_trans (Nat.le_of_ble_eq_true rfl) hRf, Nat.le_trans (Nat.le_of_ble_eq_true rfl) hRl⟩ rfl hl.1 rfl (Nat.le_of_ble_eq_true rfl) dX3_squaresOf_22 ⟨Nat.zero_le _, Nat.zero_le _⟩) hH (fun H locs hH => ?_)
        have hH : nm_H D Y (fun q => s0 ≤ q) s.heap X nl ad (M.1, M.2, N, K) H locs := hH
        refine lv_iadd hx hb dX3_squaresOf_25 ?_
        obtain ⟨v3, ev3, hf⟩ := nm_let hf
        refine nm_topi ev3 ?_
        refine lv_istore_n (lv' := [(2, .int v3), (0, .ref (ad 100)), (1, .int x1), (3, .int x3)]) hx hb dX3_squaresOf_26 rfl hl (by decide) rfl (fun ls hl => ?_)
        refine lv_iinc (v := x3 + 1) (lv' := [(3, .int (x3 + 1)), (2, .int v3), (0, .ref (ad 100)), (1, .int x1)]) hx hb dX3_squaresOf_27 hl (k := 3) rfl rfl (by decide) rfl (fun ls hl => ?_)
        refine lv_goto (tgt := 4) hx hb dX3_squaresOf_30 (by decide) ?_
        exact ih4 v3 (x3 + 1) _ _ _ _ hH (lv_sub hl [2, 3, 1, 0] rfl) hf hX4
  obtain ⟨y4, hl5, hf⟩ := nm_sd1 hf
  refine hL4 nm_F (0 : Int32) (0 : Int32) _ _ _ _ hH (lv_sub hl [2, 3, 1, 0] rfl) hl5 (fun H locs ls hH hl => ?_)
  have hl : lv_has ls 4 [(2, .int y4)] := hl
  have hH : nm_H D Y (fun q => s0 ≤ q) s.heap X nl ad (M.1, M.2, N, K) H locs := hH
  refine lv_iload_n hx hb dX3_squaresOf_33 rfl (lv_at hl 0 rfl) ?_
  exact nm_iret hx hb hr hlocks hQ hH (Option.some.inj hf) rfl dX3_squaresOf_34
def f_X10_add (x1 : Int32) (x2 : Int32) (M : cm) : Option (Int32 × cm) :=
nm_c (M.1 400 0) 12 (
nm_l ((nm_up M.1 401 ((M.1 400 0).toNatClampNeg) x1, M.2)) fun M2 =>
nm_c (M2.1 400 0) 12 (
nm_l ((nm_up M2.1 402 ((M2.1 400 0).toNatClampNeg) x2, M2.2)) fun M4 =>
nm_l ((nm_up M4.1 400 0 ((M4.1 400 0) + (1 : Int32)), M4.2)) fun M5 =>
nm_l ((nm_up M5.1 400 3 (0 : Int32), M5.2)) fun M6 =>
some ((M6.1 400 0) - (1 : Int32), M6)))
set_option maxHeartbeats 4000000 in
set_option maxRecDepth 100000 in
theorem k_X10_add {l : Launch} {D : va_G} {Y : nm_Y} {s0 : Nat} {X : va_W} {ad : Nat → Nat} {nl : List Nat} {N K : Nat → Nat} (hL : cl_L nl K) (hN : cl_N N) {x1 : Int32} {x2 : Int32} {M : cm} {r0 : Int32} {M0 : cm} (hf : f_X10_add x1 x2 M = some (r0, M0)) :
    nm_Met l yX10_add cX10_add 3 (some .int) { frames := 0, cells := 0, slots := 0, locals := 0 } [.ref (ad 400), .int x1, .int x2] D Y s0 (nm_W Y X nl ad (M.1, M.2, N, K)) (nm_Qi D s0 r0 (nm_W Y X nl ad (M0.1, M0.2, N, K))) 0 0 := by
  refine nm_of (by decide) (Nat.le_of_ble_eq_true rfl) ?_
  intro p e R s m args below meth c Q ls hx hb hr hlocks hml hown hts hs0 hK hZ hRf hRl hRc hRs hQ hP hD hl
  have hH : nm_H D Y (fun q => s0 ≤ q) s.heap X nl ad (M.1, M.2, N, K) s.heap [] := ⟨hP, hD, va_S.rf⟩
  have hl : lv_has ls 3 [(0, .ref (ad 400)), (1, .int x1), (2, .int x2)] := hl
  unfold f_X10_add at hf
  refine lv_aload_n hx hb dX10_add_0 rfl (lv_at hl 0 rfl) ?_
  refine gf_10_4 hK hx hb hts hown hH (cl_n400 hL) (cl_k400 hL) (hts _ tw_231) (fun _ h9 => h9) dX10_add_1 ?_
  refine lv_aload_n hx hb dX10_add_4 rfl (lv_at hl 0 rfl) ?_
  refine gf_10_0 hK hx hb hts hown hH (cl_n400 hL) (cl_k400 hL) (hts _ tw_223) (fun _ h9 => h9) dX10_add_5 ?_
  refine lv_iload_n hx hb dX10_add_8 rfl (lv_at hl 1 rfl) ?_
  obtain ⟨hi1, hf⟩ := nm_chk hf
  obtain ⟨M2, eM2, hf⟩ := nm_let hf
  refine nm_iast hx hb hK hH (cl_n401 hL) (cl_k401 hL) (cl_l401 hN) hi1 dX10_add_9 (fun H locs hH => ?_)
  have hH : nm_H D Y (fun q => s0 ≤ q) s.heap X nl ad (M2.1, M2.2, N, K) H locs := by rw [eM2]; exact hH
  refine lv_aload_n hx hb dX10_add_10 rfl (lv_at hl 0 rfl) ?_
  refine gf_10_5 hK hx hb hts hown hH (cl_n400 hL) (cl_k400 hL) (hts _ tw_232) (fun _ h9 => h9) dX10_add_11 ?_
  refine lv_aload_n hx hb dX10_add_14 rfl (lv_at hl 0 rfl) ?_
  refine gf_10_0 hK hx hb hts hown hH (cl_n400 hL) (cl_k400 hL) (hts _ tw_223) (fun _ h9 => h9) dX10_add_15 ?_
  refine lv_iload_n hx hb dX10_add_18 rfl (lv_at hl 2 rfl) ?_
  obtain ⟨hi3, hf⟩ := nm_chk hf
  obtain ⟨M4, eM4, hf⟩ := nm_let hf
  refine nm_iast hx hb hK hH (cl_n402 hL) (cl_k402 hL) (cl_l402 hN) hi3 dX10_add_19 (fun H locs hH => ?_)
  have hH : nm_H D Y (fun q => s0 ≤ q) s.heap X nl ad (M4.1, M4.2, N, K) H locs := by rw [eM4]; exact hH
  refine lv_aload_n hx hb dX10_add_20 rfl (lv_at hl 0 rfl) ?_
  refine lv_dup hx hb dX10_add_21 rfl ?_
  refine gf_10_0 hK hx hb hts hown hH (cl_n400 hL) (cl_k400 hL) (hts _ tw_223) (fun _ h9 => h9) dX10_add_22 ?_
  refine lv_iconst (v := 1) hx hb dX10_add_25 (by decide) ?_
  refine lv_iadd hx hb dX10_add_26 ?_
  obtain ⟨M5, eM5, hf⟩ := nm_let hf
  refine pf_10_0 hK hx hb hts hown hH (cl_n400 hL) (cl_k400 hL) (hts _ tw_223) (fun _ h9 => h9) dX10_add_27 (fun H locs hH => ?_)
  have hH : nm_H D Y (fun q => s0 ≤ q) s.heap X nl ad (M5.1, M5.2, N, K) H locs := by rw [eM5]; exact hH
  refine lv_aload_n hx hb dX10_add_30 rfl (lv_at hl 0 rfl) ?_
  refine lv_iconst (v := 0) hx hb dX10_add_31 (by decide) ?_
  obtain ⟨M6, eM6, hf⟩ := nm_let hf
  refine pf_10_3 hK hx hb hts hown hH (cl_n400 hL) (cl_k400 hL) (hts _ tw_229) (fun _ h9 => h9) rfl rfl dX10_add_32 (fun H locs hH => ?_)
  have hH : nm_H D Y (fun q => s0 ≤ q) s.heap X nl ad (M6.1, M6.2, N, K) H locs := by rw [eM6]; exact hH
  refine lv_aload_n hx hb dX10_add_35 rfl (lv_at hl 0 rfl) ?_
  refine gf_10_0 hK hx hb hts hown hH (cl_n400 hL) (cl_k400 hL) (hts _ tw_223) (fun _ h9 => h9) dX10_add_36 ?_
  refine lv_iconst (v := 1) hx hb dX10_add_39 (by decide) ?_
  refine lv_isub hx hb dX10_add_40 ?_
  exact nm_iret hx hb hr hlocks hQ hH (congrArg Prod.fst (Option.some.inj hf)) (congrArg (fun q => (q.2.1, q.2.2, N, K)) (Option.some.inj hf)) dX10_add_41
def f_X10_wishedOf_L2 (x1 : Int32) (M : cm) (kx2 : Unit → Option Int32) : Nat → Int32 → Option Int32
  | 0, _ => none
  | n2 + 1, x2 =>
    (if (24 : Int32) ≤ x2 then
    kx2 ()
    else
    nm_c x2 24 (
    (if (M.1 404 x2.toNatClampNeg) = x1 then
    some x2
    else
    f_X10_wishedOf_L2 x1 M kx2 n2 (x2 + 1))))
def f_X10_wishedOf (x1 : Int32) (M : cm) : Option Int32 :=
nm_l (fun (_ : Unit) =>
some (-1 : Int32)) fun kx2 =>
f_X10_wishedOf_L2 x1 M kx2 nm_F (0 : Int32)
set_option maxHeartbeats 4000000 in
set_option maxRecDepth 100000 in
theorem k_X10_wishedOf {l : Launch} {D : va_G} {Y : nm_Y} {s0 : Nat} {X : va_W} {ad : Nat → Nat} {nl : List Nat} {N K : Nat → Nat} (hL : cl_L nl K) (hN : cl_N N) {x1 : Int32} {M : cm} {r0 : Int32} (hf : f_X10_wishedOf x1 M = some r0) :
    nm_Met l yX10_wishedOf cX10_wishedOf 3 (some .int) { frames := 0, cells := 0, slots := 0, locals := 0 } [.ref (ad 400), .int x1] D Y s0 (nm_W Y X nl ad (M.1, M.2, N, K)) (nm_Qi D s0 r0 (nm_W Y X nl ad (M.1, M.2, N, K))) 0 0 := by
  refine nm_of (by decide) (Nat.le_of_ble_eq_true rfl) ?_
  intro p e R s m args below meth c Q ls hx hb hr hlocks hml hown hts hs0 hK hZ hRf hRl hRc hRs hQ hP hD hl
  have hH : nm_H D Y (fun q => s0 ≤ q) s.heap X nl ad (M.1, M.2, N, K) s.heap [] := ⟨hP, hD, va_S.rf⟩
  have hl : lv_has ls 3 [(0, .ref (ad 400)), (1, .int x1)] := hl
  unfold f_X10_wishedOf at hf
  refine lv_iconst (v := 0) hx hb dX10_wishedOf_0 (by decide) ?_
  refine lv_istore_n (lv' := [(2, .int (0 : Int32)), (0, .ref (ad 400)), (1, .int x1)]) hx hb dX10_wishedOf_1 rfl hl (by decide) rfl (fun ls hl => ?_)
  obtain ⟨kx2, hkx2, hf⟩ := nm_let hf
  have hX2 : ∀  (H : Heap) (locs : List Loc) (ls : Array Slot), nm_H D Y (fun q => s0 ≤ q) s.heap X nl ad (M.1, M.2, N, K) H locs → lv_has ls 3 [] → kx2 () = some r0 → W p l e R s m args below meth c H locs 0 0 Q (F0 m 26 ls []) := by
    intro  H locs ls hH hl hf
    rw [hkx2] at hf
    refine lv_iconst (v := -1) hx hb dX10_wishedOf_26 (by decide) ?_
    exact nm_iret hx hb hr hlocks hQ hH (Option.some.inj hf) rfl dX10_wishedOf_27
  have hL2 : ∀ (n2 : Nat) (x2 : Int32) (H : Heap) (locs : List Loc) (ls : Array Slot), nm_H D Y (fun q => s0 ≤ q) s.heap X nl ad (M.1, M.2, N, K) H locs → lv_has ls 3 [(0, .ref (ad 400)), (1, .int x1), (2, .int x2)] → f_X10_wishedOf_L2 x1 M kx2 n2 x2 = some r0 → W p l e R s m args below meth c H locs 0 0 Q (F0 m 2 ls []) := by
    intro n2
    induction n2 with
    | zero =>
      intro x2 H locs ls hH hl hf
      cases hf
    | succ n2 ih2 =>
      intro x2 H locs ls hH hl hf
      rw [f_X10_wishedOf_L2] at hf
      refine lv_iload_n hx hb dX10_wishedOf_2 rfl (lv_at hl 2 rfl) ?_
      refine lv_bipush (v := 24) hx hb dX10_wishedOf_3 (by decide) ?_
      refine lv_icmp_ge (tgt := 26) hx hb dX10_wishedOf_5 (by decide) (fun c1 => ?_) (fun c1 => ?_)
      · have hf := nm_it c1 hf
        exact hX2  _ _ _ hH (lv_sub hl [] rfl) hf
      · have hf := nm_ie c1 hf
        refine lv_aload_n hx hb dX10_wishedOf_8 rfl (lv_at hl 0 rfl) ?_
        refine gf_10_7 hK hx hb hts hown hH (cl_n400 hL) (cl_k400 hL) (hts _ tw_234) (fun _ h9 => h9) dX10_wishedOf_9 ?_
        refine lv_iload_n hx hb dX10_wishedOf_12 rfl (lv_at hl 2 rfl) ?_
        obtain ⟨hi2, hf⟩ := nm_chk hf
        refine nm_iald hx hb hK hH (cl_n404 hL) (cl_k404 hL) (cl_l404 hN) hi2 dX10_wishedOf_13 ?_
        refine lv_iload_n hx hb dX10_wishedOf_14 rfl (lv_at hl 1 rfl) ?_
        refine lv_icmp_ne (tgt := 20) hx hb dX10_wishedOf_15 (by decide) (fun c3 => ?_) (fun c3 => ?_)
        · have hf := nm_ie c3 hf
          refine lv_iinc (v := x2 + 1) (lv' := [(2, .int (x2 + 1)), (0, .ref (ad 400)), (1, .int x1)]) hx hb dX10_wishedOf_20 hl (k := 2) rfl rfl (by decide) rfl (fun ls hl => ?_)
          refine lv_goto (tgt := 2) hx hb dX10_wishedOf_23 (by decide) ?_
          exact ih2 (x2 + 1) _ _ _ hH (lv_sub hl [1, 2, 0] rfl) hf
        · have hf := nm_it c3 hf
          refine lv_iload_n hx hb dX10_wishedOf_18 rfl (lv_at hl 2 rfl) ?_
          exact nm_iret hx hb hr hlocks hQ hH (Option.some.inj hf) rfl dX10_wishedOf_19
  exact hL2 nm_F (0 : Int32) _ _ _ hH (lv_sub hl [1, 2, 0] rfl) hf
def f_X10_part_J23 (x2 : Int32) (M3 : cm) (k : Int32 → cm → Option (cm)) : Option (cm) :=
k (x2 + 1) M3
def f_X10_part_L2 (x1 : Int32) : Nat → Int32 → cm → Option (cm)
  | 0, _, _ => none
  | n2 + 1, x2, M1 =>
    (if (24 : Int32) ≤ x2 then
    some M1
    else
    (if (x1 &&& ((1 : Int32) <<< (x2 &&& 31))) = 0 then
    f_X10_part_J23 x2 M1 (f_X10_part_L2 x1 n2)
    else
    nm_c x2 24 (
    nm_l ((nm_up M1.1 404 x2.toNatClampNeg (-1 : Int32), M1.2)) fun M6 =>
    f_X10_part_J23 x2 M6 (f_X10_part_L2 x1 n2))))
def f_X10_part (x1 : Int32) (M : cm) : Option (cm) :=
nm_s1 (f_X10_part_L2 x1 nm_F (0 : Int32) M) fun M7 =>
some M7
set_option maxHeartbeats 4000000 in
set_option maxRecDepth 100000 in
theorem k_X10_part {l : Launch} {D : va_G} {Y : nm_Y} {s0 : Nat} {X : va_W} {ad : Nat → Nat} {nl : List Nat} {N K : Nat → Nat} (hL : cl_L nl K) (hN : cl_N N) {x1 : Int32} {M : cm} {M0 : cm} (hf : f_X10_part x1 M = some M0) :
    nm_Met l yX10_part cX10_part 3 none { frames := 0, cells := 0, slots := 0, locals := 0 } [.ref (ad 400), .int x1] D Y s0 (nm_W Y X nl ad (M.1, M.2, N, K)) (nm_Qv D s0 (nm_W Y X nl ad (M0.1, M0.2, N, K))) 0 0 := by
  refine nm_of (by decide) (Nat.le_of_ble_eq_true rfl) ?_
  intro p e R s m args below meth c Q ls hx hb hr hlocks hml hown hts hs0 hK hZ hRf hRl hRc hRs hQ hP hD hl
  have hH : nm_H D Y (fun q => s0 ≤ q) s.heap X nl ad (M.1, M.2, N, K) s.heap [] := ⟨hP, hD, va_S.rf⟩
  have hl : lv_has ls 3 [(0, .ref (ad 400)), (1, .int x1)] := hl
  unfold f_X10_part at hf
  refine lv_iconst (v := 0) hx hb dX10_part_0 (by decide) ?_
  refine lv_istore_n (lv' := [(2, .int (0 : Int32)), (0, .ref (ad 400)), (1, .int x1)]) hx hb dX10_part_1 rfl hl (by decide) rfl (fun ls hl => ?_)
  have hL2 : ∀ (n2 : Nat) (x2 : Int32) (M1 : cm) (H : Heap) (locs : List Loc) (ls : Array Slot) (o2 : cm), nm_H D Y (fun q => s0 ≤ q) s.heap X nl ad (M1.1, M1.2, N, K) H locs → lv_has ls 3 [(0, .ref (ad 400)), (1, .int x1), (2, .int x2)] → f_X10_part_L2 x1 n2 x2 M1 = some o2 → (∀ (H : Heap) (locs : List Loc) (ls : Array Slot), nm_H D Y (fun q => s0 ≤ q) s.heap X nl ad (o2.1, o2.2, N, K) H locs → lv_has ls 3 [] → W p l e R s m args below meth c H locs 0 0 Q (F0 m 29 ls [])) → W p l e R s m args below meth c H locs 0 0 Q (F0 m 2 ls []) := by
    intro n2
    induction n2 with
    | zero =>
      intro x2 M1 H locs ls o2 hH hl hf hX2
      cases hf
    | succ n2 ih2 =>
      intro x2 M1 H locs ls o2 hH hl hf hX2
      rw [f_X10_part_L2] at hf
      refine lv_iload_n hx hb dX10_part_2 rfl (lv_at hl 2 rfl) ?_
      refine lv_bipush (v := 24) hx hb dX10_part_3 (by decide) ?_
      refine lv_icmp_ge (tgt := 29) hx hb dX10_part_5 (by decide) (fun c2 => ?_) (fun c2 => ?_)
      · have hf := nm_it c2 hf
        cases hf
        exact hX2 _ _ _ hH (lv_sub hl [] rfl)
      · have hf := nm_ie c2 hf
        refine lv_iload_n hx hb dX10_part_8 rfl (lv_at hl 1 rfl) ?_
        refine lv_iconst (v := 1) hx hb dX10_part_9 (by decide) ?_
        refine lv_iload_n hx hb dX10_part_10 rfl (lv_at hl 2 rfl) ?_
        refine lv_ishl hx hb dX10_part_11 ?_
        refine lv_iand hx hb dX10_part_12 ?_
        have hJ23 : ∀ (M3 : cm) (H : Heap) (locs : List Loc) (ls : Array Slot), nm_H D Y (fun q => s0 ≤ q) s.heap X nl ad (M3.1, M3.2, N, K) H locs → lv_has ls 3 [(0, .ref (ad 400)), (1, .int x1), (2, .int x2)] → f_X10_part_J23 x2 M3 (f_X10_part_L2 x1 n2) = some o2 → W p l e R s m args below meth c H locs 0 0 Q (F0 m 23 ls []) := by
          intro M3 H locs ls hH hl hf
          unfold f_X10_part_J23 at hf
          refine lv_iinc (v := x2 + 1) (lv' := [(2, .int (x2 + 1)), (0, .ref (ad 400)), (1, .int x1)]) hx hb dX10_part_23 hl (k := 2) rfl rfl (by decide) rfl (fun ls hl => ?_)
          refine lv_goto (tgt := 2) hx hb dX10_part_26 (by decide) ?_
          exact ih2 (x2 + 1) M3 _ _ _ _ hH (lv_sub hl [1, 2, 0] rfl) hf hX2
        refine lv_if_eq (tgt := 23) hx hb dX10_part_13 (by decide) (fun c4 => ?_) (fun c4 => ?_)
        · have hf := nm_it c4 hf
          exact hJ23  M1 _ _ _ hH (lv_sub hl [0, 1, 2] rfl) hf
        · have hf := nm_ie c4 hf
          refine lv_aload_n hx hb dX10_part_16 rfl (lv_at hl 0 rfl) ?_
          refine gf_10_7 hK hx hb hts hown hH (cl_n400 hL) (cl_k400 hL) (hts _ tw_234) (fun _ h9 => h9) dX10_part_17 ?_
          refine lv_iload_n hx hb dX10_part_20 rfl (lv_at hl 2 rfl) ?_
          refine lv_iconst (v := -1) hx hb dX10_part_21 (by decide) ?_
          obtain ⟨hi5, hf⟩ := nm_chk hf
          obtain ⟨M6, eM6, hf⟩ := nm_let hf
          refine nm_iast hx hb hK hH (cl_n404 hL) (cl_k404 hL) (cl_l404 hN) hi5 dX10_part_22 (fun H locs hH => ?_)
          have hH : nm_H D Y (fun q => s0 ≤ q) s.heap X nl ad (M6.1, M6.2, N, K) H locs := by rw [eM6]; exact hH
          exact hJ23  M6 _ _ _ hH (lv_sub hl [0, 1, 2] rfl) hf
  obtain ⟨M7, hl8, hf⟩ := nm_sd1 hf
  refine hL2 nm_F (0 : Int32) M _ _ _ _ hH (lv_sub hl [1, 2, 0] rfl) hl8 (fun H locs ls hH hl => ?_)
  have hl : lv_has ls 3 [] := hl
  have hH : nm_H D Y (fun q => s0 ≤ q) s.heap X nl ad (M7.1, M7.2, N, K) H locs := hH
  exact nm_vret hx hb hr hlocks hQ hH (congrArg (fun q => (q.1, q.2, N, K)) (Option.some.inj hf)) dX10_part_29
def f_X10_bind (x1 : Int32) (x2 : Int32) (x3 : Int32) (M : cm) : Option (Int32 × cm) :=
(if x3 = (-1 : Int32) then
some (x3, M)
else
nm_c x1 24 (
(if (M.1 404 x1.toNatClampNeg) = x2 then
some (x3, M)
else
nm_c x1 24 (
(if (M.1 404 x1.toNatClampNeg) = (-1 : Int32) then
nm_s1 (f_X10_wishedOf x2 M) fun r8 =>
(if r8 = (-1 : Int32) then
nm_c x1 24 (
nm_l (nm_up M.1 404 x1.toNatClampNeg x2, M.2) fun M12 =>
some (x3 ||| ((1 : Int32) <<< (x1 &&& 31)), M12))
else
nm_s1 (f_X10_part x3 M) fun M13 =>
some ((-1 : Int32), M13))
else
nm_s1 (f_X10_part x3 M) fun M6 =>
some ((-1 : Int32), M6))))))
set_option maxHeartbeats 4000000 in
set_option maxRecDepth 100000 in
theorem k_X10_bind {l : Launch} {D : va_G} {Y : nm_Y} {s0 : Nat} {X : va_W} {ad : Nat → Nat} {nl : List Nat} {N K : Nat → Nat} (hL : cl_L nl K) (hN : cl_N N) {x1 : Int32} {x2 : Int32} {x3 : Int32} {M : cm} {r0 : Int32} {M0 : cm} (hf : f_X10_bind x1 x2 x3 M = some (r0, M0)) :
    nm_Met l yX10_bind cX10_bind 4 (some .int) { frames := 1, cells := 0, slots := 0, locals := 22 } [.ref (ad 400), .int x1, .int x2, .int x3] D Y s0 (nm_W Y X nl ad (M.1, M.2, N, K)) (nm_Qi D s0 r0 (nm_W Y X nl ad (M0.1, M0.2, N, K))) 0 0 := by
  refine nm_of (by decide) (Nat.le_of_ble_eq_true rfl) ?_
  intro p e R s m args below meth c Q ls hx hb hr hlocks hml hown hts hs0 hK hZ hRf hRl hRc hRs hQ hP hD hl
  have hH : nm_H D Y (fun q => s0 ≤ q) s.heap X nl ad (M.1, M.2, N, K) s.heap [] := ⟨hP, hD, va_S.rf⟩
  have hl : lv_has ls 4 [(0, .ref (ad 400)), (1, .int x1), (2, .int x2), (3, .int x3)] := hl
  unfold f_X10_bind at hf
  refine lv_iload_n hx hb dX10_bind_0 rfl (lv_at hl 3 rfl) ?_
  refine lv_iconst (v := -1) hx hb dX10_bind_1 (by decide) ?_
  refine lv_icmp_eq (tgt := 15) hx hb dX10_bind_2 (by decide) (fun c1 => ?_) (fun c1 => ?_)
  · have hf := nm_it c1 hf
    refine lv_iload_n hx hb dX10_bind_15 rfl (lv_at hl 3 rfl) ?_
    exact nm_iret hx hb hr hlocks hQ hH (congrArg Prod.fst (Option.some.inj hf)) (congrArg (fun q => (q.2.1, q.2.2, N, K)) (Option.some.inj hf)) dX10_bind_16
  · have hf := nm_ie c1 hf
    refine lv_aload_n hx hb dX10_bind_5 rfl (lv_at hl 0 rfl) ?_
    refine gf_10_7 hK hx hb hts hown hH (cl_n400 hL) (cl_k400 hL) (hts _ tw_234) (fun _ h9 => h9) dX10_bind_6 ?_
    refine lv_iload_n hx hb dX10_bind_9 rfl (lv_at hl 1 rfl) ?_
    obtain ⟨hi2, hf⟩ := nm_chk hf
    refine nm_iald hx hb hK hH (cl_n404 hL) (cl_k404 hL) (cl_l404 hN) hi2 dX10_bind_10 ?_
    refine lv_iload_n hx hb dX10_bind_11 rfl (lv_at hl 2 rfl) ?_
    refine lv_icmp_ne (tgt := 17) hx hb dX10_bind_12 (by decide) (fun c3 => ?_) (fun c3 => ?_)
    · have hf := nm_ie c3 hf
      refine lv_aload_n hx hb dX10_bind_17 rfl (lv_at hl 0 rfl) ?_
      refine gf_10_7 hK hx hb hts hown hH (cl_n400 hL) (cl_k400 hL) (hts _ tw_234) (fun _ h9 => h9) dX10_bind_18 ?_
      refine lv_iload_n hx hb dX10_bind_21 rfl (lv_at hl 1 rfl) ?_
      obtain ⟨hi4, hf⟩ := nm_chk hf
      refine nm_iald hx hb hK hH (cl_n404 hL) (cl_k404 hL) (cl_l404 hN) hi4 dX10_bind_22 ?_
      refine lv_iconst (v := -1) hx hb dX10_bind_23 (by decide) ?_
      refine lv_icmp_ne (tgt := 36) hx hb dX10_bind_24 (by decide) (fun c5 => ?_) (fun c5 => ?_)
      · have hf := nm_ie c5 hf
        refine lv_aload_n hx hb dX10_bind_36 rfl (lv_at hl 0 rfl) ?_
        refine lv_iload_n hx hb dX10_bind_37 rfl (lv_at hl 3 rfl) ?_
        obtain ⟨M6, hc7, hf⟩ := nm_sd1 hf
        refine nm_callv (nm_runV (X := X) (nl := nl) (k_X10_part hL hN (hf := hc7)) hx hb hml hown hts hs0 hK hZ hH tw_910 tw_907 tw_909 (sw_X10_part) tw_7 hd_X10_part (cl_n400 hL) (cl_k400 hL) (by decide) rfl rfl rfl ⟨Nat.le_trans (Nat.le_of_ble_eq_true rfl) hRf, Nat.le_trans (Nat.le_of_ble_eq_true rfl) hRl⟩ rfl hl.1 rfl (Nat.le_of_ble_eq_true rfl) dX10_bind_38 ⟨Nat.zero_le _, Nat.zero_le _⟩) hH (fun H locs hH => ?_)
        have hH : nm_H D Y (fun q => s0 ≤ q) s.heap X nl ad (M6.1, M6.2, N, K) H locs := hH
        refine lv_iconst (v := -1) hx hb dX10_bind_41 (by decide) ?_
        exact nm_iret hx hb hr hlocks hQ hH (congrArg Prod.fst (Option.some.inj hf)) (congrArg (fun q => (q.2.1, q.2.2, N, K)) (Option.some.inj hf)) dX10_bind_42
      · have hf := nm_it c5 hf
        refine lv_aload_n hx hb dX10_bind_27 rfl (lv_at hl 0 rfl) ?_
        refine lv_iload_n hx hb dX10_bind_28 rfl (lv_at hl 2 rfl) ?_
        obtain ⟨r8, hc9, hf⟩ := nm_sd1 hf
        refine nm_calli (nm_runV (X := X) (nl := nl) (k_X10_wishedOf hL hN (hf := hc9)) hx hb hml hown hts hs0 hK hZ hH tw_906 tw_903 tw_904 (sw_X10_wishedOf) tw_7 hd_X10_wishedOf (cl_n400 hL) (cl_k400 hL) (by decide) rfl rfl rfl ⟨Nat.le_trans (Nat.le_of_ble_eq_true rfl) hRf, Nat.le_trans (Nat.le_of_ble_eq_true rfl) hRl⟩ rfl hl.1 rfl (Nat.le_of_ble_eq_true rfl) dX10_bind_29 ⟨Nat.zero_le _, Nat.zero_le _⟩) hH (fun H locs hH => ?_)
        have hH : nm_H D Y (fun q => s0 ≤ q) s.heap X nl ad (M.1, M.2, N, K) H locs := hH
        refine lv_iconst (v := -1) hx hb dX10_bind_32 (by decide) ?_
        refine lv_icmp_eq (tgt := 43) hx hb dX10_bind_33 (by decide) (fun c10 => ?_) (fun c10 => ?_)
        · have hf := nm_it c10 hf
          refine lv_aload_n hx hb dX10_bind_43 rfl (lv_at hl 0 rfl) ?_
          refine gf_10_7 hK hx hb hts hown hH (cl_n400 hL) (cl_k400 hL) (hts _ tw_234) (fun _ h9 => h9) dX10_bind_44 ?_
          refine lv_iload_n hx hb dX10_bind_47 rfl (lv_at hl 1 rfl) ?_
          refine lv_iload_n hx hb dX10_bind_48 rfl (lv_at hl 2 rfl) ?_
          obtain ⟨hi11, hf⟩ := nm_chk hf
          obtain ⟨M12, eM12, hf⟩ := nm_let hf
          refine nm_iast hx hb hK hH (cl_n404 hL) (cl_k404 hL) (cl_l404 hN) hi11 dX10_bind_49 (fun H locs hH => ?_)
          have hH : nm_H D Y (fun q => s0 ≤ q) s.heap X nl ad (M12.1, M12.2, N, K) H locs := by rw [eM12]; exact hH
          refine lv_iload_n hx hb dX10_bind_50 rfl (lv_at hl 3 rfl) ?_
          refine lv_iconst (v := 1) hx hb dX10_bind_51 (by decide) ?_
          refine lv_iload_n hx hb dX10_bind_52 rfl (lv_at hl 1 rfl) ?_
          refine lv_ishl hx hb dX10_bind_53 ?_
          refine lv_ior hx hb dX10_bind_54 ?_
          exact nm_iret hx hb hr hlocks hQ hH (congrArg Prod.fst (Option.some.inj hf)) (congrArg (fun q => (q.2.1, q.2.2, N, K)) (Option.some.inj hf)) dX10_bind_55
        · have hf := nm_ie c10 hf
          refine lv_aload_n hx hb dX10_bind_36 rfl (lv_at hl 0 rfl) ?_
          refine lv_iload_n hx hb dX10_bind_37 rfl (lv_at hl 3 rfl) ?_
          obtain ⟨M13, hc14, hf⟩ := nm_sd1 hf
          refine nm_callv (nm_runV (X := X) (nl := nl) (k_X10_part hL hN (hf := hc14)) hx hb hml hown hts hs0 hK hZ hH tw_910 tw_907 tw_909 (sw_X10_part) tw_7 hd_X10_part (cl_n400 hL) (cl_k400 hL) (by decide) rfl rfl rfl ⟨Nat.le_trans (Nat.le_of_ble_eq_true rfl) hRf, Nat.le_trans (Nat.le_of_ble_eq_true rfl) hRl⟩ rfl hl.1 rfl (Nat.le_of_ble_eq_true rfl) dX10_bind_38 ⟨Nat.zero_le _, Nat.zero_le _⟩) hH (fun H locs hH => ?_)
          have hH : nm_H D Y (fun q => s0 ≤ q) s.heap X nl ad (M13.1, M13.2, N, K) H locs := hH
          refine lv_iconst (v := -1) hx hb dX10_bind_41 (by decide) ?_
          exact nm_iret hx hb hr hlocks hQ hH (congrArg Prod.fst (Option.some.inj hf)) (congrArg (fun q => (q.2.1, q.2.2, N, K)) (Option.some.inj hf)) dX10_bind_42
    · have hf := nm_it c3 hf
      refine lv_iload_n hx hb dX10_bind_15 rfl (lv_at hl 3 rfl) ?_
      exact nm_iret hx hb hr hlocks hQ hH (congrArg Prod.fst (Option.some.inj hf)) (congrArg (fun q => (q.2.1, q.2.2, N, K)) (Option.some.inj hf)) dX10_bind_16
def f_X10_fit_J87 (N : Nat → Nat) (x2 : Int32) (x4 : Int32) (v3 : Int32) (v5 : Int32) (r11 : Int32) (t87_1 : Int32) (M9 : cm) : Option (Int32 × cm) :=
nm_s1 (f_X2_ofDevice N x2 (2 : Int32) M9) fun r12 =>
nm_s2 (f_X10_bind t87_1 r12 r11 M9) fun r16 M14 =>
(if x4 = 0 then
nm_s1 (f_X2_ofDevice N x2 (3 : Int32) M14) fun r18 =>
nm_s2 (f_X10_bind v5 r18 r16 M14) fun r22 M20 =>
some (r22, M20)
else
nm_s1 (f_X2_ofDevice N x2 (3 : Int32) M14) fun r23 =>
nm_s2 (f_X10_bind v3 r23 r16 M14) fun r27 M25 =>
some (r27, M25))
def f_X10_fit_J26 (N : Nat → Nat) (x2 : Int32) (x3 : Int32) (x4 : Int32) (M : cm) : Option (Int32 × cm) :=
nm_c x3 12 (
nm_l (((M.1 401 x3.toNatClampNeg) / (24 : Int32)) - ((M.1 401 x3.toNatClampNeg) / (24 : Int32)) / (24 : Int32) * (24 : Int32)) fun v3 =>
nm_c x3 12 (
nm_l ((M.1 401 x3.toNatClampNeg) - (M.1 401 x3.toNatClampNeg) / (24 : Int32) * (24 : Int32)) fun v5 =>
nm_c x3 12 (
nm_s1 (f_X2_ofDevice N x2 (1 : Int32) M) fun r7 =>
nm_s2 (f_X10_bind ((M.1 401 x3.toNatClampNeg) / (576 : Int32)) r7 (0 : Int32) M) fun r11 M9 =>
(if x4 = 0 then
f_X10_fit_J87 N x2 x4 v3 v5 r11 v3 M9
else
f_X10_fit_J87 N x2 x4 v3 v5 r11 v5 M9))))
def f_X10_fit (N : Nat → Nat) (x2 : Int32) (x3 : Int32) (x4 : Int32) (M : cm) : Option (Int32 × cm) :=
nm_c x3 12 (
(if (M.1 402 x3.toNatClampNeg) = 0 then
f_X10_fit_J26 N x2 x3 x4 M
else
nm_c x3 12 (
nm_s1 (f_X2_ofDevice N x2 (0 : Int32) M) fun r31 =>
(if (M.1 402 x3.toNatClampNeg) = r31 then
f_X10_fit_J26 N x2 x3 x4 M
else
some ((-1 : Int32), M)))))
set_option maxHeartbeats 4000000 in
set_option maxRecDepth 100000 in
theorem k_X10_fit {l : Launch} {D : va_G} {Y : nm_Y} {s0 : Nat} {X : va_W} {ad : Nat → Nat} {nl : List Nat} {N K : Nat → Nat} (hL : cl_L nl K) (hN : cl_N N) {x2 : Int32} {x3 : Int32} {x4 : Int32} {M : cm} {r0 : Int32} {M0 : cm} (hf : f_X10_fit N x2 x3 x4 M = some (r0, M0)) :
    nm_Met l yX10_fit cX10_fit 8 (some .int) { frames := 2, cells := 0, slots := 0, locals := 45 } [.ref (ad 400), .ref (ad 300), .int x2, .int x3, .int x4] D Y s0 (nm_W Y X nl ad (M.1, M.2, N, K)) (nm_Qi D s0 r0 (nm_W Y X nl ad (M0.1, M0.2, N, K))) 0 0 := by
  refine nm_of (by decide) (Nat.le_of_ble_eq_true rfl) ?_
  intro p e R s m args below meth c Q ls hx hb hr hlocks hml hown hts hs0 hK hZ hRf hRl hRc hRs hQ hP hD hl
  have hH : nm_H D Y (fun q => s0 ≤ q) s.heap X nl ad (M.1, M.2, N, K) s.heap [] := ⟨hP, hD, va_S.rf⟩
  have hl : lv_has ls 8 [(0, .ref (ad 400)), (1, .ref (ad 300)), (2, .int x2), (3, .int x3), (4, .int x4)] := hl
  unfold f_X10_fit at hf
  refine lv_aload_n hx hb dX10_fit_0 rfl (lv_at hl 0 rfl) ?_
  refine gf_10_5 hK hx hb hts hown hH (cl_n400 hL) (cl_k400 hL) (hts _ tw_232) (fun _ h9 => h9) dX10_fit_1 ?_
  refine lv_iload_n hx hb dX10_fit_4 rfl (lv_at hl 3 rfl) ?_
  obtain ⟨hi1, hf⟩ := nm_chk hf
  refine nm_iald hx hb hK hH (cl_n402 hL) (cl_k402 hL) (cl_l402 hN) hi1 dX10_fit_5 ?_
  have hJ26 : ∀  (H : Heap) (locs : List Loc) (ls : Array Slot), nm_H D Y (fun q => s0 ≤ q) s.heap X nl ad (M.1, M.2, N, K) H locs → lv_has ls 8 [(0, .ref (ad 400)), (1, .ref (ad 300)), (2, .int x2), (3, .int x3), (4, .int x4)] → f_X10_fit_J26 N x2 x3 x4 M = some (r0, M0) → W p l e R s m args below meth c H locs 0 0 Q (F0 m 26 ls []) := by
    intro  H locs ls hH hl hf
    unfold f_X10_fit_J26 at hf
    refine lv_aload_n hx hb dX10_fit_26 rfl (lv_at hl 0 rfl) ?_
    refine gf_10_4 hK hx hb hts hown hH (cl_n400 hL) (cl_k400 hL) (hts _ tw_231) (fun _ h9 => h9) dX10_fit_27 ?_
    refine lv_iload_n hx hb dX10_fit_30 rfl (lv_at hl 3 rfl) ?_
    obtain ⟨hi2, hf⟩ := nm_chk hf
    refine nm_iald hx hb hK hH (cl_n401 hL) (cl_k401 hL) (cl_l401 hN) hi2 dX10_fit_31 ?_
    refine lv_bipush (v := 24) hx hb dX10_fit_32 (by decide) ?_
    refine lv_idiv hx hb dX10_fit_34 (by decide) ?_
    refine lv_bipush (v := 24) hx hb dX10_fit_35 (by decide) ?_
    refine lv_irem hx hb dX10_fit_37 (by decide) ?_
    obtain ⟨v3, ev3, hf⟩ := nm_let hf
    refine nm_topi ev3 ?_
    refine lv_istore (lv' := [(5, .int v3), (0, .ref (ad 400)), (1, .ref (ad 300)), (2, .int x2), (3, .int x3), (4, .int x4)]) hx hb dX10_fit_38 hl (by decide) rfl (fun ls hl => ?_)
    refine lv_aload_n hx hb dX10_fit_40 rfl (lv_at hl 1 rfl) ?_
    refine gf_10_4 hK hx hb hts hown hH (cl_n400 hL) (cl_k400 hL) (hts _ tw_231) (fun _ h9 => h9) dX10_fit_41 ?_
    refine lv_iload_n hx hb dX10_fit_44 rfl (lv_at hl 4 rfl) ?_
    obtain ⟨hi4, hf⟩ := nm_chk hf
    refine nm_iald hx hb hK hH (cl_n401 hL) (cl_k401 hL) (cl_l401 hN) hi4 dX10_fit_45 ?_
    refine lv_bipush (v := 24) hx hb dX10_fit_46 (by decide) ?_
    refine lv_irem hx hb dX10_fit_48 (by decide) ?_
    obtain ⟨v5, ev5, hf⟩ := nm_let hf
    refine nm_topi ev5 ?_
    refine lv_istore (lv' := [(6, .int v5), (5, .int v3), (0, .ref (ad 400)), (1, .ref (ad 300)), (2, .int x2), (3, .int x3), (4, .int x4)]) hx hb dX10_fit_49 hl (by decide) rfl (fun ls hl => ?_)
    refine lv_aload_n hx hb dX10_fit_51 rfl (lv_at hl 2 rfl) ?_
    refine lv_aload_n hx hb dX10_fit_52 rfl (lv_at hl 2 rfl) ?_
    refine gf_10_4 hK hx hb hts hown hH (cl_n400 hL) (cl_k400 hL) (hts _ tw_231) (fun _ h9 => h9) dX10_fit_53 ?_
    refine lv_iload_n hx hb dX10_fit_56 rfl (lv_at hl 5 rfl) ?_
    obtain ⟨hi6, hf⟩ := nm_chk hf
    refine nm_iald hx hb hK hH (cl_n401 hL) (cl_k401 hL) (cl_l401 hN) hi6 dX10_fit_57 ?_
    refine lv_sipush (v := 576) hx hb dX10_fit_58 (by decide) ?_
    refine lv_idiv hx hb dX10_fit_61 (by decide) ?_
    refine lv_aload_n hx hb dX10_fit_62 rfl (lv_at hl 3 rfl) ?_
    refine lv_iload_n hx hb dX10_fit_63 rfl (lv_at hl 4 rfl) ?_
    refine lv_iconst (v := 1) hx hb dX10_fit_64 (by decide) ?_
    obtain ⟨r7, hc8, hf⟩ := nm_sd1 hf
    refine nm_calli (nm_runV (X := X) (nl := nl) (k_X2_ofDevice hL hN (hf := hc8)) hx hb hml hown hts hs0 hK hZ hH tw_864 tw_898 tw_862 (sw_X2_ofDevice) tw_6 hd_X2_ofDevice (cl_n300 hL) (cl_k300 hL) (by decide) rfl rfl rfl ⟨Nat.le_trans (Nat.le_of_ble_eq_true rfl) hRf, Nat.le_trans (Nat.le_of_ble_eq_true rfl) hRl⟩ rfl hl.1 rfl (Nat.le_of_ble_eq_true rfl) dX10_fit_65 ⟨Nat.zero_le _, Nat.zero_le _⟩) hH (fun H locs hH => ?_)
    have hH : nm_H D Y (fun q => s0 ≤ q) s.heap X nl ad (M.1, M.2, N, K) H locs := hH
    refine lv_iconst (v := 0) hx hb dX10_fit_68 (by decide) ?_
    obtain ⟨r11, M9, hc10, hf⟩ := nm_sd2 hf
    refine nm_calli (nm_runV (X := X) (nl := nl) (k_X10_bind hL hN (hf := hc10)) hx hb hml hown hts hs0 hK hZ hH tw_902 tw_899 tw_901 (sw_X10_bind) tw_7 hd_X10_bind (cl_n400 hL) (cl_k400 hL) (by decide) rfl rfl rfl ⟨Nat.le_trans (Nat.le_of_ble_eq_true rfl) hRf, Nat.le_trans (Nat.le_of_ble_eq_true rfl) hRl⟩ rfl hl.1 rfl (Nat.le_of_ble_eq_true rfl) dX10_fit_69 ⟨Nat.zero_le _, Nat.zero_le _⟩) hH (fun H locs hH => ?_)
    have hH : nm_H D Y (fun q => s0 ≤ q) s.heap X nl ad (M9.1, M9.2, N, K) H locs := hH
    refine lv_istore (lv' := [(7, .int r11), (6, .int v5), (5, .int v3), (0, .ref (ad 400)), (1, .ref (ad 300)), (2, .int x2), (3, .int x3), (4, .int x4)]) hx hb dX10_fit_72 hl (by decide) rfl (fun ls hl => ?_)
    refine lv_aload_n hx hb dX10_fit_74 rfl (lv_at hl 3 rfl) ?_
    refine lv_iload hx hb dX10_fit_75 (lv_at hl 7 rfl) ?_
    have hJ87 : ∀ (t87_1 : Int32) (H : Heap) (locs : List Loc) (ls : Array Slot), nm_H D Y (fun q => s0 ≤ q) s.heap X nl ad (M9.1, M9.2, N, K) H locs → lv_has ls 8 [(0, .ref (ad 400)), (1, .ref (ad 300)), (2, .int x2), (4, .int x4), (5, .int v3), (6, .int v5), (7, .int r11)] → f_X10_fit_J87 N x2 x4 v3 v5 r11 t87_1 M9 = some (r0, M0) → W p l e R s m args below meth c H locs 0 0 Q (F0 m 87 ls [.int t87_1, .ref (ad 400)]) := by
      intro t87_1 H locs ls hH hl hf
      unfold f_X10_fit_J87 at hf
      refine lv_aload_n hx hb dX10_fit_87 rfl (lv_at hl 1 rfl) ?_
      refine lv_iload_n hx hb dX10_fit_88 rfl (lv_at hl 2 rfl) ?_
      refine lv_iconst (v := 2) hx hb dX10_fit_89 (by decide) ?_
      obtain ⟨r12, hc13, hf⟩ := nm_sd1 hf
      refine nm_calli (nm_runV (X := X) (nl := nl) (k_X2_ofDevice hL hN (hf := hc13)) hx hb hml hown hts hs0 hK hZ hH tw_864 tw_898 tw_862 (sw_X2_ofDevice) tw_6 hd_X2_ofDevice (cl_n300 hL) (cl_k300 hL) (by decide) rfl rfl rfl ⟨Nat.le_trans (Nat.le_of_ble_eq_true rfl) hRf, Nat.le_trans (Nat.le_of_ble_eq_true rfl) hRl⟩ rfl hl.1 rfl (Nat.le_of_ble_eq_true rfl) dX10_fit_90 ⟨Nat.zero_le _, Nat.zero_le _⟩) hH (fun H locs hH => ?_)
      have hH : nm_H D Y (fun q => s0 ≤ q) s.heap X nl ad (M9.1, M9.2, N, K) H locs := hH
      refine lv_iload hx hb dX10_fit_93 (lv_at hl 6 rfl) ?_
      obtain ⟨r16, M14, hc15, hf⟩ := nm_sd2 hf
      refine nm_calli (nm_runV (X := X) (nl := nl) (k_X10_bind hL hN (hf := hc15)) hx hb hml hown hts hs0 hK hZ hH tw_902 tw_899 tw_901 (sw_X10_bind) tw_7 hd_X10_bind (cl_n400 hL) (cl_k400 hL) (by decide) rfl rfl rfl ⟨Nat.le_trans (Nat.le_of_ble_eq_true rfl) hRf, Nat.le_trans (Nat.le_of_ble_eq_true rfl) hRl⟩ rfl hl.1 rfl (Nat.le_of_ble_eq_true rfl) dX10_fit_95 ⟨Nat.zero_le _, Nat.zero_le _⟩) hH (fun H locs hH => ?_)
      have hH : nm_H D Y (fun q => s0 ≤ q) s.heap X nl ad (M14.1, M14.2, N, K) H locs := hH
      refine lv_istore (lv' := [(7, .int r16), (0, .ref (ad 400)), (1, .ref (ad 300)), (2, .int x2), (4, .int x4), (5, .int v3), (6, .int v5)]) hx hb dX10_fit_98 hl (by decide) rfl (fun ls hl => ?_)
      refine lv_aload_n hx hb dX10_fit_100 rfl (lv_at hl 1 rfl) ?_
      refine lv_iload hx hb dX10_fit_101 (lv_at hl 4 rfl) ?_
      refine lv_if_eq (tgt := 111) hx hb dX10_fit_103 (by decide) (fun c17 => ?_) (fun c17 => ?_)
      · have hf := nm_it c17 hf
        refine lv_iload hx hb dX10_fit_111 (lv_at hl 6 rfl) ?_
        refine lv_aload_n hx hb dX10_fit_113 rfl (lv_at hl 2 rfl) ?_
        refine lv_iload_n hx hb dX10_fit_114 rfl (lv_at hl 3 rfl) ?_
        refine lv_iconst (v := 3) hx hb dX10_fit_115 (by decide) ?_
        obtain ⟨r18, hc19, hf⟩ := nm_sd1 hf
        refine nm_calli (nm_runV (X := X) (nl := nl) (k_X2_ofDevice hL hN (hf := hc19)) hx hb hml hown hts hs0 hK hZ hH tw_864 tw_898 tw_862 (sw_X2_ofDevice) tw_6 hd_X2_ofDevice (cl_n300 hL) (cl_k300 hL) (by decide) rfl rfl rfl ⟨Nat.le_trans (Nat.le_of_ble_eq_true rfl) hRf, Nat.le_trans (Nat.le_of_ble_eq_true rfl) hRl⟩ rfl hl.1 rfl (Nat.le_of_ble_eq_true rfl) dX10_fit_116 ⟨Nat.zero_le _, Nat.zero_le _⟩) hH (fun H locs hH => ?_)
        have hH : nm_H D Y (fun q => s0 ≤ q) s.heap X nl ad (M14.1, M14.2, N, K) H locs := hH
        refine lv_iload hx hb dX10_fit_119 (lv_at hl 0 rfl) ?_
        obtain ⟨r22, M20, hc21, hf⟩ := nm_sd2 hf
        refine nm_calli (nm_runV (X := X) (nl := nl) (k_X10_bind hL hN (hf := hc21)) hx hb hml hown hts hs0 hK hZ hH tw_902 tw_899 tw_901 (sw_X10_bind) tw_7 hd_X10_bind (cl_n400 hL) (cl_k400 hL) (by decide) rfl rfl rfl ⟨Nat.le_trans (Nat.le_of_ble_eq_true rfl) hRf, Nat.le_trans (Nat.le_of_ble_eq_true rfl) hRl⟩ rfl hl.1 rfl (Nat.le_of_ble_eq_true rfl) dX10_fit_121 ⟨Nat.zero_le _, Nat.zero_le _⟩) hH (fun H locs hH => ?_)
        have hH : nm_H D Y (fun q => s0 ≤ q) s.heap X nl ad (M20.1, M20.2, N, K) H locs := hH
        exact nm_iret hx hb hr hlocks hQ hH (congrArg Prod.fst (Option.some.inj hf)) (congrArg (fun q => (q.2.1, q.2.2, N, K)) (Option.some.inj hf)) dX10_fit_124
      · have hf := nm_ie c17 hf
        refine lv_iload hx hb dX10_fit_106 (lv_at hl 5 rfl) ?_
        refine lv_goto (tgt := 113) hx hb dX10_fit_108 (by decide) ?_
        refine lv_aload_n hx hb dX10_fit_113 rfl (lv_at hl 2 rfl) ?_
        refine lv_iload_n hx hb dX10_fit_114 rfl (lv_at hl 3 rfl) ?_
        refine lv_iconst (v := 3) hx hb dX10_fit_115 (by decide) ?_
        obtain ⟨r23, hc24, hf⟩ := nm_sd1 hf
        refine nm_calli (nm_runV (X := X) (nl := nl) (k_X2_ofDevice hL hN (hf := hc24)) hx hb hml hown hts hs0 hK hZ hH tw_864 tw_898 tw_862 (sw_X2_ofDevice) tw_6 hd_X2_ofDevice (cl_n300 hL) (cl_k300 hL) (by decide) rfl rfl rfl ⟨Nat.le_trans (Nat.le_of_ble_eq_true rfl) hRf, Nat.le_trans (Nat.le_of_ble_eq_true rfl) hRl⟩ rfl hl.1 rfl (Nat.le_of_ble_eq_true rfl) dX10_fit_116 ⟨Nat.zero_le _, Nat.zero_le _⟩) hH (fun H locs hH => ?_)
        have hH : nm_H D Y (fun q => s0 ≤ q) s.heap X nl ad (M14.1, M14.2, N, K) H locs := hH
        refine lv_iload hx hb dX10_fit_119 (lv_at hl 0 rfl) ?_
        obtain ⟨r27, M25, hc26, hf⟩ := nm_sd2 hf
        refine nm_calli (nm_runV (X := X) (nl := nl) (k_X10_bind hL hN (hf := hc26)) hx hb hml hown hts hs0 hK hZ hH tw_902 tw_899 tw_901 (sw_X10_bind) tw_7 hd_X10_bind (cl_n400 hL) (cl_k400 hL) (by decide) rfl rfl rfl ⟨Nat.le_trans (Nat.le_of_ble_eq_true rfl) hRf, Nat.le_trans (Nat.le_of_ble_eq_true rfl) hRl⟩ rfl hl.1 rfl (Nat.le_of_ble_eq_true rfl) dX10_fit_121 ⟨Nat.zero_le _, Nat.zero_le _⟩) hH (fun H locs hH => ?_)
        have hH : nm_H D Y (fun q => s0 ≤ q) s.heap X nl ad (M25.1, M25.2, N, K) H locs := hH
        exact nm_iret hx hb hr hlocks hQ hH (congrArg Prod.fst (Option.some.inj hf)) (congrArg (fun q => (q.2.1, q.2.2, N, K)) (Option.some.inj hf)) dX10_fit_124
    refine lv_if_eq (tgt := 85) hx hb dX10_fit_77 (by decide) (fun c28 => ?_) (fun c28 => ?_)
    · have hf := nm_it c28 hf
      refine lv_iload hx hb dX10_fit_85 (lv_at hl 2 rfl) ?_
      exact hJ87 v3 _ _ _ hH (lv_sub hl [3, 4, 5, 7, 2, 1, 0] rfl) hf
    · have hf := nm_ie c28 hf
      refine lv_iload hx hb dX10_fit_80 (lv_at hl 1 rfl) ?_
      refine lv_goto (tgt := 87) hx hb dX10_fit_82 (by decide) ?_
      exact hJ87 v5 _ _ _ hH (lv_sub hl [3, 4, 5, 7, 2, 1, 0] rfl) hf
  refine lv_if_eq (tgt := 26) hx hb dX10_fit_6 (by decide) (fun c29 => ?_) (fun c29 => ?_)
  · have hf := nm_it c29 hf
    exact hJ26  _ _ _ hH (lv_sub hl [0, 1, 2, 3, 4] rfl) hf
  · have hf := nm_ie c29 hf
    refine lv_aload_n hx hb dX10_fit_9 rfl (lv_at hl 0 rfl) ?_
    refine gf_10_5 hK hx hb hts hown hH (cl_n400 hL) (cl_k400 hL) (hts _ tw_232) (fun _ h9 => h9) dX10_fit_10 ?_
    refine lv_iload_n hx hb dX10_fit_13 rfl (lv_at hl 3 rfl) ?_
    obtain ⟨hi30, hf⟩ := nm_chk hf
    refine nm_iald hx hb hK hH (cl_n402 hL) (cl_k402 hL) (cl_l402 hN) hi30 dX10_fit_14 ?_
    refine lv_aload_n hx hb dX10_fit_15 rfl (lv_at hl 1 rfl) ?_
    refine lv_iload_n hx hb dX10_fit_16 rfl (lv_at hl 2 rfl) ?_
    refine lv_iconst (v := 0) hx hb dX10_fit_17 (by decide) ?_
    obtain ⟨r31, hc32, hf⟩ := nm_sd1 hf
    refine nm_calli (nm_runV (X := X) (nl := nl) (k_X2_ofDevice hL hN (hf := hc32)) hx hb hml hown hts hs0 hK hZ hH tw_864 tw_898 tw_862 (sw_X2_ofDevice) tw_6 hd_X2_ofDevice (cl_n300 hL) (cl_k300 hL) (by decide) rfl rfl rfl ⟨Nat.le_trans (Nat.le_of_ble_eq_true rfl) hRf, Nat.le_trans (Nat.le_of_ble_eq_true rfl) hRl⟩ rfl hl.1 rfl (Nat.le_of_ble_eq_true rfl) dX10_fit_18 ⟨Nat.zero_le _, Nat.zero_le _⟩) hH (fun H locs hH => ?_)
    have hH : nm_H D Y (fun q => s0 ≤ q) s.heap X nl ad (M.1, M.2, N, K) H locs := hH
    refine lv_icmp_eq (tgt := 26) hx hb dX10_fit_21 (by decide) (fun c33 => ?_) (fun c33 => ?_)
    · have hf := nm_it c33 hf
      exact hJ26  _ _ _ hH (lv_sub hl [0, 1, 2, 3, 4] rfl) hf
    · have hf := nm_ie c33 hf
      refine lv_iconst (v := -1) hx hb dX10_fit_24 (by decide) ?_
      exact nm_iret hx hb hr hlocks hQ hH (congrArg Prod.fst (Option.some.inj hf)) (congrArg (fun q => (q.2.1, q.2.2, N, K)) (Option.some.inj hf)) dX10_fit_25
def f_X10_thingOf (x1 : Int32) (M : cm) : Option Int32 :=
(if (f_X11_outside x1 (12 : Int32)) = 0 then
nm_c x1 12 (
some (M.1 403 x1.toNatClampNeg))
else
some (-1 : Int32))
set_option maxHeartbeats 4000000 in
set_option maxRecDepth 100000 in
theorem k_X10_thingOf {l : Launch} {D : va_G} {Y : nm_Y} {s0 : Nat} {X : va_W} {ad : Nat → Nat} {nl : List Nat} {N K : Nat → Nat} (hL : cl_L nl K) (hN : cl_N N) {x1 : Int32} {M : cm} {r0 : Int32} (hf : f_X10_thingOf x1 M = some r0) :
    nm_Met l yX10_thingOf cX10_thingOf 2 (some .int) { frames := 1, cells := 0, slots := 0, locals := 21 } [.ref (ad 400), .int x1] D Y s0 (nm_W Y X nl ad (M.1, M.2, N, K)) (nm_Qi D s0 r0 (nm_W Y X nl ad (M.1, M.2, N, K))) 0 0 := by
  refine nm_of (by decide) (Nat.le_of_ble_eq_true rfl) ?_
  intro p e R s m args below meth c Q ls hx hb hr hlocks hml hown hts hs0 hK hZ hRf hRl hRc hRs hQ hP hD hl
  have hH : nm_H D Y (fun q => s0 ≤ q) s.heap X nl ad (M.1, M.2, N, K) s.heap [] := ⟨hP, hD, va_S.rf⟩
  have hl : lv_has ls 2 [(0, .ref (ad 400)), (1, .int x1)] := hl
  unfold f_X10_thingOf at hf
  refine lv_iload_n hx hb dX10_thingOf_0 rfl (lv_at hl 1 rfl) ?_
  refine lv_bipush (v := 12) hx hb dX10_thingOf_1 (by decide) ?_
  refine nm_calli (nm_runSN (X := X) (nl := nl) (k_X11_outside hL hN (hf := (rfl : f_X11_outside x1 (12 : Int32) = _))) hx hb hml hown hts hs0 hK hZ hH tw_321 (hZ.1.2.2) tw_320 tw_1 hd_X11_outside rfl rfl ⟨Nat.le_trans (Nat.le_of_ble_eq_true rfl) hRf, Nat.le_trans (Nat.le_of_ble_eq_true rfl) hRl⟩ rfl hl.1 rfl (Nat.le_of_ble_eq_true rfl) dX10_thingOf_3 ⟨Nat.zero_le _, Nat.zero_le _⟩) hH (fun H locs hH => ?_)
  have hH : nm_H D Y (fun q => s0 ≤ q) s.heap X nl ad (M.1, M.2, N, K) H locs := hH
  refine lv_if_eq (tgt := 13) hx hb dX10_thingOf_6 (by decide) (fun c1 => ?_) (fun c1 => ?_)
  · have hf := nm_it c1 hf
    refine lv_aload_n hx hb dX10_thingOf_13 rfl (lv_at hl 0 rfl) ?_
    refine gf_10_6 hK hx hb hts hown hH (cl_n400 hL) (cl_k400 hL) (hts _ tw_233) (fun _ h9 => h9) dX10_thingOf_14 ?_
    refine lv_iload_n hx hb dX10_thingOf_17 rfl (lv_at hl 1 rfl) ?_
    obtain ⟨hi2, hf⟩ := nm_chk hf
    refine nm_iald hx hb hK hH (cl_n403 hL) (cl_k403 hL) (cl_l403 hN) hi2 dX10_thingOf_18 ?_
    exact nm_iret hx hb hr hlocks hQ hH (Option.some.inj hf) rfl dX10_thingOf_19
  · have hf := nm_ie c1 hf
    refine lv_iconst (v := -1) hx hb dX10_thingOf_9 (by decide) ?_
    refine lv_goto (tgt := 19) hx hb dX10_thingOf_10 (by decide) ?_
    exact nm_iret hx hb hr hlocks hQ hH (Option.some.inj hf) rfl dX10_thingOf_19
def f_X1_addText (w : Nat) (N : Nat → Nat) (x1 : Int32) (M : cm) : Option (cm) :=
(if (200 : Int32) ≤ (M.1 w 5) then
some M
else
nm_c (M.1 w 5) (N (w + 3)) (
nm_l ((nm_up M.1 (w + 3) ((M.1 w 5).toNatClampNeg) x1, M.2)) fun M3 =>
nm_l ((nm_up M3.1 w 5 ((M3.1 w 5) + (1 : Int32)), M3.2)) fun M4 =>
some M4))
set_option maxHeartbeats 4000000 in
set_option maxRecDepth 100000 in
theorem k_X1_addText {l : Launch} {D : va_G} {Y : nm_Y} {s0 : Nat} {X : va_W} {ad : Nat → Nat} {nl : List Nat} {N K : Nat → Nat} (hL : cl_L nl K) (hN : cl_N N) {w : Nat} (hw : cl_w w) {x1 : Int32} {M : cm} {M0 : cm} (hf : f_X1_addText w N x1 M = some M0) :
    nm_Met l yX1_addText cX1_addText 2 none { frames := 0, cells := 0, slots := 0, locals := 0 } [.ref (ad w), .int x1] D Y s0 (nm_W Y X nl ad (M.1, M.2, N, K)) (nm_Qv D s0 (nm_W Y X nl ad (M0.1, M0.2, N, K))) 0 0 := by
  refine nm_of (by decide) (Nat.le_of_ble_eq_true rfl) ?_
  intro p e R s m args below meth c Q ls hx hb hr hlocks hml hown hts hs0 hK hZ hRf hRl hRc hRs hQ hP hD hl
  have hH : nm_H D Y (fun q => s0 ≤ q) s.heap X nl ad (M.1, M.2, N, K) s.heap [] := ⟨hP, hD, va_S.rf⟩
  have hl : lv_has ls 2 [(0, .ref (ad w)), (1, .int x1)] := hl
  unfold f_X1_addText at hf
  refine lv_aload_n hx hb dX1_addText_0 rfl (lv_at hl 0 rfl) ?_
  refine gf_1_5 hK hx hb hts hown hH (cl_nw0 hL hw) (cl_kw0 hL hw) (hts _ tw_272) (fun _ h9 => h9) dX1_addText_1 ?_
  refine lv_sipush (v := 200) hx hb dX1_addText_4 (by decide) ?_
  refine lv_icmp_ge (tgt := 30) hx hb dX1_addText_7 (by decide) (fun c1 => ?_) (fun c1 => ?_)
  · have hf := nm_it c1 hf
    exact nm_vret hx hb hr hlocks hQ hH (congrArg (fun q => (q.1, q.2, N, K)) (Option.some.inj hf)) dX1_addText_30
  · have hf := nm_ie c1 hf
    refine lv_aload_n hx hb dX1_addText_10 rfl (lv_at hl 0 rfl) ?_
    refine gf_1_4 hK hx hb hts hown hH (cl_nw0 hL hw) (cl_kw0 hL hw) (hts _ tw_270) (fun _ h9 => h9) dX1_addText_11 ?_
    refine lv_aload_n hx hb dX1_addText_14 rfl (lv_at hl 0 rfl) ?_
    refine gf_1_5 hK hx hb hts hown hH (cl_nw0 hL hw) (cl_kw0 hL hw) (hts _ tw_272) (fun _ h9 => h9) dX1_addText_15 ?_
    refine lv_iload_n hx hb dX1_addText_18 rfl (lv_at hl 1 rfl) ?_
    obtain ⟨hi2, hf⟩ := nm_chk hf
    obtain ⟨M3, eM3, hf⟩ := nm_let hf
    refine nm_iast hx hb hK hH (cl_nw3 hL hw) (cl_kw3 hL hw) rfl hi2 dX1_addText_19 (fun H locs hH => ?_)
    have hH : nm_H D Y (fun q => s0 ≤ q) s.heap X nl ad (M3.1, M3.2, N, K) H locs := by rw [eM3]; exact hH
    refine lv_aload_n hx hb dX1_addText_20 rfl (lv_at hl 0 rfl) ?_
    refine lv_dup hx hb dX1_addText_21 rfl ?_
    refine gf_1_5 hK hx hb hts hown hH (cl_nw0 hL hw) (cl_kw0 hL hw) (hts _ tw_272) (fun _ h9 => h9) dX1_addText_22 ?_
    refine lv_iconst (v := 1) hx hb dX1_addText_25 (by decide) ?_
    refine lv_iadd hx hb dX1_addText_26 ?_
    obtain ⟨M4, eM4, hf⟩ := nm_let hf
    refine pf_1_5 hK hx hb hts hown hH (cl_nw0 hL hw) (cl_kw0 hL hw) (hts _ tw_272) (fun _ h9 => h9) dX1_addText_27 (fun H locs hH => ?_)
    have hH : nm_H D Y (fun q => s0 ≤ q) s.heap X nl ad (M4.1, M4.2, N, K) H locs := by rw [eM4]; exact hH
    exact nm_vret hx hb hr hlocks hQ hH (congrArg (fun q => (q.1, q.2, N, K)) (Option.some.inj hf)) dX1_addText_30
def f_X1_hasLayer_L2 (w : Nat) (N : Nat → Nat) (x1 : Int32) (M : cm) (kx2 : Unit → Option Int32) : Nat → Int32 → Option Int32
  | 0, _ => none
  | n2 + 1, x2 =>
    (if (64 : Int32) ≤ x2 then
    kx2 ()
    else
    nm_c (((64 : Int32) * x1) + x2) (N (w + 2)) (
    (if (lg_cmp (M.2 (w + 2) (((64 : Int32) * x1) + x2).toNatClampNeg) (0 : Int64)) = 0 then
    f_X1_hasLayer_L2 w N x1 M kx2 n2 (x2 + 1)
    else
    some (1 : Int32))))
def f_X1_hasLayer (w : Nat) (N : Nat → Nat) (x1 : Int32) (M : cm) : Option Int32 :=
nm_l (fun (_ : Unit) =>
some (0 : Int32)) fun kx2 =>
f_X1_hasLayer_L2 w N x1 M kx2 nm_F (0 : Int32)
set_option maxHeartbeats 4000000 in
set_option maxRecDepth 100000 in
theorem k_X1_hasLayer {l : Launch} {D : va_G} {Y : nm_Y} {s0 : Nat} {X : va_W} {ad : Nat → Nat} {nl : List Nat} {N K : Nat → Nat} (hL : cl_L nl K) (hN : cl_N N) {w : Nat} (hw : cl_w w) {x1 : Int32} {M : cm} {r0 : Int32} (hf : f_X1_hasLayer w N x1 M = some r0) :
    nm_Met l yX1_hasLayer cX1_hasLayer 3 (some .boolean) { frames := 0, cells := 0, slots := 0, locals := 0 } [.ref (ad w), .int x1] D Y s0 (nm_W Y X nl ad (M.1, M.2, N, K)) (nm_Qi D s0 r0 (nm_W Y X nl ad (M.1, M.2, N, K))) 0 0 := by
  refine nm_of (by decide) (Nat.le_of_ble_eq_true rfl) ?_
  intro p e R s m args below meth c Q ls hx hb hr hlocks hml hown hts hs0 hK hZ hRf hRl hRc hRs hQ hP hD hl
  have hH : nm_H D Y (fun q => s0 ≤ q) s.heap X nl ad (M.1, M.2, N, K) s.heap [] := ⟨hP, hD, va_S.rf⟩
  have hl : lv_has ls 3 [(0, .ref (ad w)), (1, .int x1)] := hl
  unfold f_X1_hasLayer at hf
  refine lv_iconst (v := 0) hx hb dX1_hasLayer_0 (by decide) ?_
  refine lv_istore_n (lv' := [(2, .int (0 : Int32)), (0, .ref (ad w)), (1, .int x1)]) hx hb dX1_hasLayer_1 rfl hl (by decide) rfl (fun ls hl => ?_)
  obtain ⟨kx2, hkx2, hf⟩ := nm_let hf
  have hX2 : ∀  (H : Heap) (locs : List Loc) (ls : Array Slot), nm_H D Y (fun q => s0 ≤ q) s.heap X nl ad (M.1, M.2, N, K) H locs → lv_has ls 3 [] → kx2 () = some r0 → W p l e R s m args below meth c H locs 0 0 Q (F0 m 32 ls []) := by
    intro  H locs ls hH hl hf
    rw [hkx2] at hf
    refine lv_iconst (v := 0) hx hb dX1_hasLayer_32 (by decide) ?_
    exact nm_zret hx hb hr hlocks hQ hH rfl (Option.some.inj hf) rfl dX1_hasLayer_33
  have hL2 : ∀ (n2 : Nat) (x2 : Int32) (H : Heap) (locs : List Loc) (ls : Array Slot), nm_H D Y (fun q => s0 ≤ q) s.heap X nl ad (M.1, M.2, N, K) H locs → lv_has ls 3 [(0, .ref (ad w)), (1, .int x1), (2, .int x2)] → f_X1_hasLayer_L2 w N x1 M kx2 n2 x2 = some r0 → W p l e R s m args below meth c H locs 0 0 Q (F0 m 2 ls []) := by
    intro n2
    induction n2 with
    | zero =>
      intro x2 H locs ls hH hl hf
      cases hf
    | succ n2 ih2 =>
      intro x2 H locs ls hH hl hf
      rw [f_X1_hasLayer_L2] at hf
      refine lv_iload_n hx hb dX1_hasLayer_2 rfl (lv_at hl 2 rfl) ?_
      refine lv_bipush (v := 64) hx hb dX1_hasLayer_3 (by decide) ?_
      refine lv_icmp_ge (tgt := 32) hx hb dX1_hasLayer_5 (by decide) (fun c1 => ?_) (fun c1 => ?_)
      · have hf := nm_it c1 hf
        exact hX2  _ _ _ hH (lv_sub hl [] rfl) hf
      · have hf := nm_ie c1 hf
        refine lv_aload_n hx hb dX1_hasLayer_8 rfl (lv_at hl 0 rfl) ?_
        refine gf_1_3 hK hx hb hts hown hH (cl_nw0 hL hw) (cl_kw0 hL hw) (hts _ tw_268) (fun _ h9 => h9) dX1_hasLayer_9 ?_
        refine lv_bipush (v := 64) hx hb dX1_hasLayer_12 (by decide) ?_
        refine lv_iload_n hx hb dX1_hasLayer_14 rfl (lv_at hl 1 rfl) ?_
        refine lv_imul hx hb dX1_hasLayer_15 ?_
        refine lv_iload_n hx hb dX1_hasLayer_16 rfl (lv_at hl 2 rfl) ?_
        refine lv_iadd hx hb dX1_hasLayer_17 ?_
        obtain ⟨hi2, hf⟩ := nm_chk hf
        refine nm_lald hx hb hK hH (cl_nw2 hL hw) (cl_kw2 hL hw) rfl hi2 dX1_hasLayer_18 ?_
        refine lv_lconst (v := 0) hx hb dX1_hasLayer_19 (by decide) ?_
        refine W.lcmp hx hb dX1_hasLayer_20 ?_
        refine lv_if_eq (tgt := 26) hx hb dX1_hasLayer_21 (by decide) (fun c3 => ?_) (fun c3 => ?_)
        · have hf := nm_it c3 hf
          refine lv_iinc (v := x2 + 1) (lv' := [(2, .int (x2 + 1)), (0, .ref (ad w)), (1, .int x1)]) hx hb dX1_hasLayer_26 hl (k := 2) rfl rfl (by decide) rfl (fun ls hl => ?_)
          refine lv_goto (tgt := 2) hx hb dX1_hasLayer_29 (by decide) ?_
          exact ih2 (x2 + 1) _ _ _ hH (lv_sub hl [1, 2, 0] rfl) hf
        · have hf := nm_ie c3 hf
          refine lv_iconst (v := 1) hx hb dX1_hasLayer_24 (by decide) ?_
          exact nm_zret hx hb hr hlocks hQ hH rfl (Option.some.inj hf) rfl dX1_hasLayer_25
  exact hL2 nm_F (0 : Int32) _ _ _ hH (lv_sub hl [1, 2, 0] rfl) hf
def f_X1_addMap_L9 (w : Nat) (N : Nat → Nat) (x2 : Int32) (x3 : Int32) (x4 : Int32) : Nat → Int32 → cm → Option (cm)
  | 0, _, _ => none
  | n9 + 1, x5, M2 =>
    (if (nm_min (64 : Int32) ((64 : Int32) - x4)) ≤ x5 then
    some M2
    else
    nm_c ((((64 : Int32) * x2) + x4) + x5) (N (w + 2)) (
    nm_c x5 64 (
    nm_c ((((64 : Int32) * x2) + x4) + x5) (N (w + 2)) (
    nm_l ((M2.1, nm_upJ M2.2 (w + 2) (((((64 : Int32) * x2) + x4) + x5).toNatClampNeg) ((M2.2 (w + 2) ((((64 : Int32) * x2) + x4) + x5).toNatClampNeg) ||| (f_X0_moved (M2.2 3 x5.toNatClampNeg) x3)))) fun M7 =>
    f_X1_addMap_L9 w N x2 x3 x4 n9 (x5 + 1) M7))))
def f_X1_addMap (w : Nat) (N : Nat → Nat) (x2 : Int32) (x3 : Int32) (x4 : Int32) (M : cm) : Option (cm) :=
nm_l (nm_max (0 : Int32) (-x4)) fun v1 =>
nm_s1 (f_X1_addMap_L9 w N x2 x3 x4 nm_F v1 M) fun M8 =>
some M8
set_option maxHeartbeats 4000000 in
set_option maxRecDepth 100000 in
theorem k_X1_addMap {l : Launch} {D : va_G} {Y : nm_Y} {s0 : Nat} {X : va_W} {ad : Nat → Nat} {nl : List Nat} {N K : Nat → Nat} (hL : cl_L nl K) (hN : cl_N N) {w : Nat} (hw : cl_w w) {x2 : Int32} {x3 : Int32} {x4 : Int32} {M : cm} {M0 : cm} (hf : f_X1_addMap w N x2 x3 x4 M = some M0) :
    nm_Met l yX1_addMap cX1_addMap 6 none { frames := 1, cells := 0, slots := 0, locals := 22 } [.ref (ad w), .ref (ad 3), .int x2, .int x3, .int x4] D Y s0 (nm_W Y X nl ad (M.1, M.2, N, K)) (nm_Qv D s0 (nm_W Y X nl ad (M0.1, M0.2, N, K))) 0 0 := by
  refine nm_of (by decide) (Nat.le_of_ble_eq_true rfl) ?_
  intro p e R s m args below meth c Q ls hx hb hr hlocks hml hown hts hs0 hK hZ hRf hRl hRc hRs hQ hP hD hl
  have hH : nm_H D Y (fun q => s0 ≤ q) s.heap X nl ad (M.1, M.2, N, K) s.heap [] := ⟨hP, hD, va_S.rf⟩
  have hl : lv_has ls 6 [(0, .ref (ad w)), (1, .ref (ad 3)), (2, .int x2), (3, .int x3), (4, .int x4)] := hl
  unfold f_X1_addMap at hf
  refine lv_iconst (v := 0) hx hb dX1_addMap_0 (by decide) ?_
  refine lv_iload hx hb dX1_addMap_1 (lv_at hl 4 rfl) ?_
  refine lv_ineg hx hb dX1_addMap_3 ?_
  refine nm_mmax hx hb (hml.trans hl.1.symm) hown hts tw_566 (Nat.le_trans (Nat.le_of_ble_eq_true rfl) hRf) (Nat.le_trans (Nat.le_of_ble_eq_true rfl) hRl) (Nat.zero_le _) (Nat.zero_le _) dX1_addMap_4 ?_
  obtain ⟨v1, ev1, hf⟩ := nm_let hf
  refine nm_topi ev1 ?_
  refine lv_istore (lv' := [(5, .int v1), (0, .ref (ad w)), (1, .ref (ad 3)), (2, .int x2), (3, .int x3), (4, .int x4)]) hx hb dX1_addMap_7 hl (by decide) rfl (fun ls hl => ?_)
  have hL9 : ∀ (n9 : Nat) (x5 : Int32) (M2 : cm) (H : Heap) (locs : List Loc) (ls : Array Slot) (o9 : cm), nm_H D Y (fun q => s0 ≤ q) s.heap X nl ad (M2.1, M2.2, N, K) H locs → lv_has ls 6 [(0, .ref (ad w)), (1, .ref (ad 3)), (2, .int x2), (3, .int x3), (4, .int x4), (5, .int x5)] → f_X1_addMap_L9 w N x2 x3 x4 n9 x5 M2 = some o9 → (∀ (H : Heap) (locs : List Loc) (ls : Array Slot), nm_H D Y (fun q => s0 ≤ q) s.heap X nl ad (o9.1, o9.2, N, K) H locs → lv_has ls 6 [] → W p l e R s m args below meth c H locs 0 0 Q (F0 m 56 ls [])) → W p l e R s m args below meth c H locs 0 0 Q (F0 m 9 ls []) := by
    intro n9
    induction n9 with
    | zero =>
      intro x5 M2 H locs ls o9 hH hl hf hX9
      cases hf
    | succ n9 ih9 =>
      intro x5 M2 H locs ls o9 hH hl hf hX9
      rw [f_X1_addMap_L9] at hf
      refine lv_iload hx hb dX1_addMap_9 (lv_at hl 5 rfl) ?_
      refine lv_bipush (v := 64) hx hb dX1_addMap_11 (by decide) ?_
      refine lv_bipush (v := 64) hx hb dX1_addMap_13 (by decide) ?_
      refine lv_iload hx hb dX1_addMap_15 (lv_at hl 4 rfl) ?_
      refine lv_isub hx hb dX1_addMap_17 ?_
      refine nm_mmin hx hb (hml.trans hl.1.symm) hown hts tw_549 (Nat.le_trans (Nat.le_of_ble_eq_true rfl) hRf) (Nat.le_trans (Nat.le_of_ble_eq_true rfl) hRl) (Nat.zero_le _) (Nat.zero_le _) dX1_addMap_18 ?_
      refine lv_icmp_ge (tgt := 56) hx hb dX1_addMap_21 (by decide) (fun c3 => ?_) (fun c3 => ?_)
      · have hf := nm_it c3 hf
        cases hf
        exact hX9 _ _ _ hH (lv_sub hl [] rfl)
      · have hf := nm_ie c3 hf
        refine lv_aload_n hx hb dX1_addMap_24 rfl (lv_at hl 0 rfl) ?_
        refine gf_1_3 hK hx hb hts hown hH (cl_nw0 hL hw) (cl_kw0 hL hw) (hts _ tw_268) (fun _ h9 => h9) dX1_addMap_25 ?_
        refine lv_bipush (v := 64) hx hb dX1_addMap_28 (by decide) ?_
        refine lv_iload_n hx hb dX1_addMap_30 rfl (lv_at hl 2 rfl) ?_
        refine lv_imul hx hb dX1_addMap_31 ?_
        refine lv_iload hx hb dX1_addMap_32 (lv_at hl 4 rfl) ?_
        refine lv_iadd hx hb dX1_addMap_34 ?_
        refine lv_iload hx hb dX1_addMap_35 (lv_at hl 5 rfl) ?_
        refine lv_iadd hx hb dX1_addMap_37 ?_
        refine lv_dup2_11 hx hb dX1_addMap_38 rfl rfl ?_
        obtain ⟨hi4, hf⟩ := nm_chk hf
        refine nm_lald hx hb hK hH (cl_nw2 hL hw) (cl_kw2 hL hw) rfl hi4 dX1_addMap_39 ?_
        refine lv_aload_n hx hb dX1_addMap_40 rfl (lv_at hl 1 rfl) ?_
        refine lv_iload hx hb dX1_addMap_41 (lv_at hl 5 rfl) ?_
        obtain ⟨hi5, hf⟩ := nm_chk hf
        refine nm_lald hx hb hK hH (cl_n3 hL) (cl_k3 hL) (cl_l3 hN) hi5 dX1_addMap_43 ?_
        refine lv_iload_n hx hb dX1_addMap_44 rfl (lv_at hl 3 rfl) ?_
        refine nm_calll (nm_runS (X := X) (nl := nl) (k_X0_moved hL hN (hf := (rfl : f_X0_moved (M2.2 3 x5.toNatClampNeg) x3 = _))) hx hb hml hown hts hs0 hK hZ hH tw_569 tw_567 tw_568 tw_13 hd_X0_moved rfl rfl ⟨Nat.le_trans (Nat.le_of_ble_eq_true rfl) hRf, Nat.le_trans (Nat.le_of_ble_eq_true rfl) hRl⟩ rfl hl.1 rfl (Nat.le_of_ble_eq_true rfl) dX1_addMap_45 ⟨Nat.zero_le _, Nat.zero_le _⟩) hH (fun H locs hH => ?_)
        have hH : nm_H D Y (fun q => s0 ≤ q) s.heap X nl ad (M2.1, M2.2, N, K) H locs := hH
        refine lv_lor hx hb dX1_addMap_48 ?_
        obtain ⟨hi6, hf⟩ := nm_chk hf
        obtain ⟨M7, eM7, hf⟩ := nm_let hf
        refine nm_last hx hb hK hH (cl_nw2 hL hw) (cl_kw2 hL hw) rfl hi6 dX1_addMap_49 (fun H locs hH => ?_)
        have hH : nm_H D Y (fun q => s0 ≤ q) s.heap X nl ad (M7.1, M7.2, N, K) H locs := by rw [eM7]; exact hH
        refine lv_iinc (v := x5 + 1) (lv' := [(5, .int (x5 + 1)), (0, .ref (ad w)), (1, .ref (ad 3)), (2, .int x2), (3, .int x3), (4, .int x4)]) hx hb dX1_addMap_50 hl (k := 5) rfl rfl (by decide) rfl (fun ls hl => ?_)
        refine lv_goto (tgt := 9) hx hb dX1_addMap_53 (by decide) ?_
        exact ih9 (x5 + 1) M7 _ _ _ _ hH (lv_sub hl [1, 2, 3, 4, 5, 0] rfl) hf hX9
  obtain ⟨M8, hl9, hf⟩ := nm_sd1 hf
  refine hL9 nm_F v1 M _ _ _ _ hH (lv_sub hl [1, 2, 3, 4, 5, 0] rfl) hl9 (fun H locs ls hH hl => ?_)
  have hl : lv_has ls 6 [] := hl
  have hH : nm_H D Y (fun q => s0 ≤ q) s.heap X nl ad (M8.1, M8.2, N, K) H locs := hH
  exact nm_vret hx hb hr hlocks hQ hH (congrArg (fun q => (q.1, q.2, N, K)) (Option.some.inj hf)) dX1_addMap_56
def f_X1_bringMap_L53 (w : Nat) (pz : Nat) (N : Nat → Nat) (x2 : Int32) (v1 : Int32) (v2 : Int32) (x6 : Int32) : Nat → Int32 → cm → Option (cm)
  | 0, _, _ => none
  | n53 + 1, x7, M5 =>
    (if (M5.1 pz 7) ≤ x7 then
    some M5
    else
    nm_s1 (f_X1_addMap w N x2 (v1 + (f_X7_xOf pz x7 M5)) (v2 + (f_X7_yOf pz x6 M5)) M5) fun M7 =>
    f_X1_bringMap_L53 w pz N x2 v1 v2 x6 n53 (x7 + 1) M7)
def f_X1_bringMap_L41 (w : Nat) (pz : Nat) (N : Nat → Nat) (x2 : Int32) (v1 : Int32) (v2 : Int32) : Nat → Int32 → cm → Option (cm)
  | 0, _, _ => none
  | n41 + 1, x6, M3 =>
    (if (M3.1 pz 8) ≤ x6 then
    some M3
    else
    nm_s1 (f_X1_bringMap_L53 w pz N x2 v1 v2 x6 nm_F (0 : Int32) M3) fun M9 =>
    f_X1_bringMap_L41 w pz N x2 v1 v2 n41 (x6 + 1) M9)
def f_X1_bringMap (w : Nat) (pz : Nat) (N : Nat → Nat) (x2 : Int32) (M : cm) : Option (cm) :=
nm_l (nm_min (f_X7_turnedX pz (0 : Int32) (0 : Int32) M) (f_X7_turnedX pz (63 : Int32) (63 : Int32) M)) fun v1 =>
nm_l (nm_min (f_X7_turnedY pz (0 : Int32) (0 : Int32) M) (f_X7_turnedY pz (63 : Int32) (63 : Int32) M)) fun v2 =>
nm_s1 (f_X1_bringMap_L41 w pz N x2 v1 v2 nm_F (0 : Int32) M) fun M11 =>
some M11
set_option maxHeartbeats 4000000 in
set_option maxRecDepth 100000 in
theorem k_X1_bringMap {l : Launch} {D : va_G} {Y : nm_Y} {s0 : Nat} {X : va_W} {ad : Nat → Nat} {nl : List Nat} {N K : Nat → Nat} (hL : cl_L nl K) (hN : cl_N N) {w : Nat} (hw : cl_w w) {pz : Nat} (hp : pz ∈ nl) (hkp : K pz = 7) {x2 : Int32} {M : cm} {M0 : cm} (hf : f_X1_bringMap w pz N x2 M = some M0) :
    nm_Met l yX1_bringMap cX1_bringMap 8 none { frames := 2, cells := 0, slots := 0, locals := 47 } [.ref (ad w), .ref (ad 3), .int x2, .ref (ad pz)] D Y s0 (nm_W Y X nl ad (M.1, M.2, N, K)) (nm_Qv D s0 (nm_W Y X nl ad (M0.1, M0.2, N, K))) 0 0 := by
  refine nm_of (by decide) (Nat.le_of_ble_eq_true rfl) ?_
  intro p e R s m args below meth c Q ls hx hb hr hlocks hml hown hts hs0 hK hZ hRf hRl hRc hRs hQ hP hD hl
  have hH : nm_H D Y (fun q => s0 ≤ q) s.heap X nl ad (M.1, M.2, N, K) s.heap [] := ⟨hP, hD, va_S.rf⟩
  have hl : lv_has ls 8 [(0, .ref (ad w)), (1, .ref (ad 3)), (2, .int x2), (3, .ref (ad pz))] := hl
  unfold f_X1_bringMap at hf
  refine lv_aload_n hx hb dX1_bringMap_0 rfl (lv_at hl 3 rfl) ?_
  refine lv_iconst (v := 0) hx hb dX1_bringMap_1 (by decide) ?_
  refine lv_iconst (v := 0) hx hb dX1_bringMap_2 (by decide) ?_
  refine nm_calli (nm_runV (X := X) (nl := nl) (k_X7_turnedX hL hN hp hkp (hf := (rfl : f_X7_turnedX pz (0 : Int32) (0 : Int32) M = _))) hx hb hml hown hts hs0 hK hZ hH tw_548 tw_545 tw_546 (sw_X7_turnedX) tw_15 hd_X7_turnedX hp hkp (by decide) rfl rfl rfl ⟨Nat.le_trans (Nat.le_of_ble_eq_true rfl) hRf, Nat.le_trans (Nat.le_of_ble_eq_true rfl) hRl⟩ rfl hl.1 rfl (Nat.le_of_ble_eq_true rfl) dX1_bringMap_3 ⟨Nat.zero_le _, Nat.zero_le _⟩) hH (fun H locs hH => ?_)
  have hH : nm_H D Y (fun q => s0 ≤ q) s.heap X nl ad (M.1, M.2, N, K) H locs := hH
  refine lv_aload_n hx hb dX1_bringMap_6 rfl (lv_at hl 3 rfl) ?_
  refine lv_bipush (v := 63) hx hb dX1_bringMap_7 (by decide) ?_
  refine lv_bipush (v := 63) hx hb dX1_bringMap_9 (by decide) ?_
  refine nm_calli (nm_runV (X := X) (nl := nl) (k_X7_turnedX hL hN hp hkp (hf := (rfl : f_X7_turnedX pz (63 : Int32) (63 : Int32) M = _))) hx hb hml hown hts hs0 hK hZ hH tw_548 tw_545 tw_546 (sw_X7_turnedX) tw_15 hd_X7_turnedX hp hkp (by decide) rfl rfl rfl ⟨Nat.le_trans (Nat.le_of_ble_eq_true rfl) hRf, Nat.le_trans (Nat.le_of_ble_eq_true rfl) hRl⟩ rfl hl.1 rfl (Nat.le_of_ble_eq_true rfl) dX1_bringMap_11 ⟨Nat.zero_le _, Nat.zero_le _⟩) hH (fun H locs hH => ?_)
  have hH : nm_H D Y (fun q => s0 ≤ q) s.heap X nl ad (M.1, M.2, N, K) H locs := hH
  refine nm_mmin hx hb (hml.trans hl.1.symm) hown hts tw_549 (Nat.le_trans (Nat.le_of_ble_eq_true rfl) hRf) (Nat.le_trans (Nat.le_of_ble_eq_true rfl) hRl) (Nat.zero_le _) (Nat.zero_le _) dX1_bringMap_14 ?_
  obtain ⟨v1, ev1, hf⟩ := nm_let hf
  refine nm_topi ev1 ?_
  refine lv_istore (lv' := [(4, .int v1), (0, .ref (ad w)), (1, .ref (ad 3)), (2, .int x2), (3, .ref (ad pz))]) hx hb dX1_bringMap_17 hl (by decide) rfl (fun ls hl => ?_)
  refine lv_aload_n hx hb dX1_bringMap_19 rfl (lv_at hl 4 rfl) ?_
  refine lv_iconst (v := 0) hx hb dX1_bringMap_20 (by decide) ?_
  refine lv_iconst (v := 0) hx hb dX1_bringMap_21 (by decide) ?_
  refine nm_calli (nm_runV (X := X) (nl := nl) (k_X7_turnedY hL hN hp hkp (hf := (rfl : f_X7_turnedY pz (0 : Int32) (0 : Int32) M = _))) hx hb hml hown hts hs0 hK hZ hH tw_553 tw_550 tw_551 (sw_X7_turnedY) tw_15 hd_X7_turnedY hp hkp (by decide) rfl rfl rfl ⟨Nat.le_trans (Nat.le_of_ble_eq_true rfl) hRf, Nat.le_trans (Nat.le_of_ble_eq_true rfl) hRl⟩ rfl hl.1 rfl (Nat.le_of_ble_eq_true rfl) dX1_bringMap_22 ⟨Nat.zero_le _, Nat.zero_le _⟩) hH (fun H locs hH => ?_)
  have hH : nm_H D Y (fun q => s0 ≤ q) s.heap X nl ad (M.1, M.2, N, K) H locs := hH
  refine lv_aload_n hx hb dX1_bringMap_25 rfl (lv_at hl 4 rfl) ?_
  refine lv_bipush (v := 63) hx hb dX1_bringMap_26 (by decide) ?_
  refine lv_bipush (v := 63) hx hb dX1_bringMap_28 (by decide) ?_
  refine nm_calli (nm_runV (X := X) (nl := nl) (k_X7_turnedY hL hN hp hkp (hf := (rfl : f_X7_turnedY pz (63 : Int32) (63 : Int32) M = _))) hx hb hml hown hts hs0 hK hZ hH tw_553 tw_550 tw_551 (sw_X7_turnedY) tw_15 hd_X7_turnedY hp hkp (by decide) rfl rfl rfl ⟨Nat.le_trans (Nat.le_of_ble_eq_true rfl) hRf, Nat.le_trans (Nat.le_of_ble_eq_true rfl) hRl⟩ rfl hl.1 rfl (Nat.le_of_ble_eq_true rfl) dX1_bringMap_30 ⟨Nat.zero_le _, Nat.zero_le _⟩) hH (fun H locs hH => ?_)
  have hH : nm_H D Y (fun q => s0 ≤ q) s.heap X nl ad (M.1, M.2, N, K) H locs := hH
  refine nm_mmin hx hb (hml.trans hl.1.symm) hown hts tw_549 (Nat.le_trans (Nat.le_of_ble_eq_true rfl) hRf) (Nat.le_trans (Nat.le_of_ble_eq_true rfl) hRl) (Nat.zero_le _) (Nat.zero_le _) dX1_bringMap_33 ?_
  obtain ⟨v2, ev2, hf⟩ := nm_let hf
  refine nm_topi ev2 ?_
  refine lv_istore (lv' := [(5, .int v2), (4, .int v1), (0, .ref (ad w)), (1, .ref (ad 3)), (2, .int x2), (3, .ref (ad pz))]) hx hb dX1_bringMap_36 hl (by decide) rfl (fun ls hl => ?_)
  refine lv_iconst (v := 0) hx hb dX1_bringMap_38 (by decide) ?_
  refine lv_istore (lv' := [(6, .int (0 : Int32)), (5, .int v2), (4, .int v1), (0, .ref (ad w)), (1, .ref (ad 3)), (2, .int x2), (3, .ref (ad pz))]) hx hb dX1_bringMap_39 hl (by decide) rfl (fun ls hl => ?_)
  have hL41 : ∀ (n41 : Nat) (x6 : Int32) (M3 : cm) (H : Heap) (locs : List Loc) (ls : Array Slot) (o41 : cm), nm_H D Y (fun q => s0 ≤ q) s.heap X nl ad (M3.1, M3.2, N, K) H locs → lv_has ls 8 [(0, .ref (ad w)), (1, .ref (ad 3)), (2, .int x2), (3, .ref (ad pz)), (4, .int v1), (5, .int v2), (6, .int x6)] → f_X1_bringMap_L41 w pz N x2 v1 v2 n41 x6 M3 = some o41 → (∀ (H : Heap) (locs : List Loc) (ls : Array Slot), nm_H D Y (fun q => s0 ≤ q) s.heap X nl ad (o41.1, o41.2, N, K) H locs → lv_has ls 8 [] → W p l e R s m args below meth c H locs 0 0 Q (F0 m 98 ls [])) → W p l e R s m args below meth c H locs 0 0 Q (F0 m 41 ls []) := by
    intro n41
    induction n41 with
    | zero =>
      intro x6 M3 H locs ls o41 hH hl hf hX41
      cases hf
    | succ n41 ih41 =>
      intro x6 M3 H locs ls o41 hH hl hf hX41
      rw [f_X1_bringMap_L41] at hf
      refine lv_iload hx hb dX1_bringMap_41 (lv_at hl 6 rfl) ?_
      refine lv_aload_n hx hb dX1_bringMap_43 rfl (lv_at hl 3 rfl) ?_
      refine gf_7_8 hK hx hb hts hown hH hp hkp (hts _ tw_436) (fun _ h9 => h9) dX1_bringMap_44 ?_
      refine lv_icmp_ge (tgt := 98) hx hb dX1_bringMap_47 (by decide) (fun c4 => ?_) (fun c4 => ?_)
      · have hf := nm_it c4 hf
        cases hf
        exact hX41 _ _ _ hH (lv_sub hl [] rfl)
      · have hf := nm_ie c4 hf
        refine lv_iconst (v := 0) hx hb dX1_bringMap_50 (by decide) ?_
        refine lv_istore (lv' := [(7, .int (0 : Int32)), (0, .ref (ad w)), (1, .ref (ad 3)), (2, .int x2), (3, .ref (ad pz)), (4, .int v1), (5, .int v2), (6, .int x6)]) hx hb dX1_bringMap_51 hl (by decide) rfl (fun ls hl => ?_)
        have hL53 : ∀ (n53 : Nat) (x7 : Int32) (M5 : cm) (H : Heap) (locs : List Loc) (ls : Array Slot) (o53 : cm), nm_H D Y (fun q => s0 ≤ q) s.heap X nl ad (M5.1, M5.2, N, K) H locs → lv_has ls 8 [(0, .ref (ad w)), (1, .ref (ad 3)), (2, .int x2), (3, .ref (ad pz)), (4, .int v1), (5, .int v2), (6, .int x6), (7, .int x7)] → f_X1_bringMap_L53 w pz N x2 v1 v2 x6 n53 x7 M5 = some o53 → (∀ (H : Heap) (locs : List Loc) (ls : Array Slot), nm_H D Y (fun q => s0 ≤ q) s.heap X nl ad (o53.1, o53.2, N, K) H locs → lv_has ls 8 [(0, .ref (ad w)), (1, .ref (ad 3)), (2, .int x2), (3, .ref (ad pz)), (4, .int v1), (5, .int v2), (6, .int x6)] → W p l e R s m args below meth c H locs 0 0 Q (F0 m 92 ls [])) → W p l e R s m args below meth c H locs 0 0 Q (F0 m 53 ls []) := by
          intro n53
          induction n53 with
          | zero =>
            intro x7 M5 H locs ls o53 hH hl hf hX53
            cases hf
          | succ n53 ih53 =>
            intro x7 M5 H locs ls o53 hH hl hf hX53
            rw [f_X1_bringMap_L53] at hf
            refine lv_iload hx hb dX1_bringMap_53 (lv_at hl 7 rfl) ?_
            refine lv_aload_n hx hb dX1_bringMap_55 rfl (lv_at hl 3 rfl) ?_
            refine gf_7_7 hK hx hb hts hown hH hp hkp (hts _ tw_434) (fun _ h9 => h9) dX1_bringMap_56 ?_
            refine lv_icmp_ge (tgt := 92) hx hb dX1_bringMap_59 (by decide) (fun c6 => ?_) (fun c6 => ?_)
            · have hf := nm_it c6 hf
              cases hf
              exact hX53 _ _ _ hH (lv_sub hl [0, 1, 2, 3, 4, 5, 6] rfl)
            · have hf := nm_ie c6 hf
              refine lv_aload_n hx hb dX1_bringMap_62 rfl (lv_at hl 0 rfl) ?_
              refine lv_aload_n hx hb dX1_bringMap_63 rfl (lv_at hl 1 rfl) ?_
              refine lv_iload_n hx hb dX1_bringMap_64 rfl (lv_at hl 2 rfl) ?_
              refine lv_iload hx hb dX1_bringMap_65 (lv_at hl 4 rfl) ?_
              refine lv_aload_n hx hb dX1_bringMap_67 rfl (lv_at hl 3 rfl) ?_
              refine lv_iload hx hb dX1_bringMap_68 (lv_at hl 7 rfl) ?_
              refine nm_calli (nm_runV (X := X) (nl := nl) (k_X7_xOf hL hN hp hkp (hf := (rfl : f_X7_xOf pz x7 M5 = _))) hx hb hml hown hts hs0 hK hZ hH tw_557 tw_554 tw_555 (sw_X7_xOf) tw_15 hd_X7_xOf hp hkp (by decide) rfl rfl rfl ⟨Nat.le_trans (Nat.le_of_ble_eq_true rfl) hRf, Nat.le_trans (Nat.le_of_ble_eq_true rfl) hRl⟩ rfl hl.1 rfl (Nat.le_of_ble_eq_true rfl) dX1_bringMap_70 ⟨Nat.zero_le _, Nat.zero_le _⟩) hH (fun H locs hH => ?_)
              have hH : nm_H D Y (fun q => s0 ≤ q) s.heap X nl ad (M5.1, M5.2, N, K) H locs := hH
              refine lv_iadd hx hb dX1_bringMap_73 ?_
              refine lv_iload hx hb dX1_bringMap_74 (lv_at hl 5 rfl) ?_
              refine lv_aload_n hx hb dX1_bringMap_76 rfl (lv_at hl 3 rfl) ?_
              refine lv_iload hx hb dX1_bringMap_77 (lv_at hl 6 rfl) ?_
              refine nm_calli (nm_runV (X := X) (nl := nl) (k_X7_yOf hL hN hp hkp (hf := (rfl : f_X7_yOf pz x6 M5 = _))) hx hb hml hown hts hs0 hK hZ hH tw_561 tw_558 tw_559 (sw_X7_yOf) tw_15 hd_X7_yOf hp hkp (by decide) rfl rfl rfl ⟨Nat.le_trans (Nat.le_of_ble_eq_true rfl) hRf, Nat.le_trans (Nat.le_of_ble_eq_true rfl) hRl⟩ rfl hl.1 rfl (Nat.le_of_ble_eq_true rfl) dX1_bringMap_79 ⟨Nat.zero_le _, Nat.zero_le _⟩) hH (fun H locs hH => ?_)
              have hH : nm_H D Y (fun q => s0 ≤ q) s.heap X nl ad (M5.1, M5.2, N, K) H locs := hH
              refine lv_iadd hx hb dX1_bringMap_82 ?_
              obtain ⟨M7, hc8, hf⟩ := nm_sd1 hf
              refine nm_callv (nm_runV (X := X) (nl := nl) (k_X1_addMap hL hN hw (hf := hc8)) hx hb hml hown hts hs0 hK hZ hH tw_565 tw_562 tw_564 (sw_X1_addMap) tw_8 hd_X1_addMap (cl_nw0 hL hw) (cl_kw0 hL hw) (by decide) rfl rfl rfl ⟨Nat.le_trans (Nat.le_of_ble_eq_true rfl) hRf, Nat.le_trans (Nat.le_of_ble_eq_true rfl) hRl⟩ rfl hl.1 rfl (Nat.le_of_ble_eq_true rfl) dX1_bringMap_83 ⟨Nat.zero_le _, Nat.zero_le _⟩) hH (fun H locs hH => ?_)
              have hH : nm_H D Y (fun q => s0 ≤ q) s.heap X nl ad (M7.1, M7.2, N, K) H locs := hH
              refine lv_iinc (v := x7 + 1) (lv' := [(7, .int (x7 + 1)), (0, .ref (ad w)), (1, .ref (ad 3)), (2, .int x2), (3, .ref (ad pz)), (4, .int v1), (5, .int v2), (6, .int x6)]) hx hb dX1_bringMap_86 hl (k := 7) rfl rfl (by decide) rfl (fun ls hl => ?_)
              refine lv_goto (tgt := 53) hx hb dX1_bringMap_89 (by decide) ?_
              exact ih53 (x7 + 1) M7 _ _ _ _ hH (lv_sub hl [1, 2, 3, 4, 5, 6, 7, 0] rfl) hf hX53
        obtain ⟨M9, hl10, hf⟩ := nm_sd1 hf
        refine hL53 nm_F (0 : Int32) M3 _ _ _ _ hH (lv_sub hl [1, 2, 3, 4, 5, 6, 7, 0] rfl) hl10 (fun H locs ls hH hl => ?_)
        have hl : lv_has ls 8 [(0, .ref (ad w)), (1, .ref (ad 3)), (2, .int x2), (3, .ref (ad pz)), (4, .int v1), (5, .int v2), (6, .int x6)] := hl
        have hH : nm_H D Y (fun q => s0 ≤ q) s.heap X nl ad (M9.1, M9.2, N, K) H locs := hH
        refine lv_iinc (v := x6 + 1) (lv' := [(6, .int (x6 + 1)), (0, .ref (ad w)), (1, .ref (ad 3)), (2, .int x2), (3, .ref (ad pz)), (4, .int v1), (5, .int v2)]) hx hb dX1_bringMap_92 hl (k := 6) rfl rfl (by decide) rfl (fun ls hl => ?_)
        refine lv_goto (tgt := 41) hx hb dX1_bringMap_95 (by decide) ?_
        exact ih41 (x6 + 1) M9 _ _ _ _ hH (lv_sub hl [1, 2, 3, 4, 5, 6, 0] rfl) hf hX41
  obtain ⟨M11, hl12, hf⟩ := nm_sd1 hf
  refine hL41 nm_F (0 : Int32) M _ _ _ _ hH (lv_sub hl [3, 4, 5, 6, 2, 1, 0] rfl) hl12 (fun H locs ls hH hl => ?_)
  have hl : lv_has ls 8 [] := hl
  have hH : nm_H D Y (fun q => s0 ≤ q) s.heap X nl ad (M11.1, M11.2, N, K) H locs := hH
  exact nm_vret hx hb hr hlocks hQ hH (congrArg (fun q => (q.1, q.2, N, K)) (Option.some.inj hf)) dX1_bringMap_98
