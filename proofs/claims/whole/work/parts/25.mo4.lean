def f_X12_ends_J51 (x1 : Int32) (v2 : Int32) (I : nm_I) : Option (nm_I) :=
nm_c x1 4096 (
nm_c x1 4096 (
nm_l (nm_up I 65 x1.toNatClampNeg (I 64 x1.toNatClampNeg)) fun I11 =>
nm_c x1 4096 (
nm_l (nm_up I11 64 x1.toNatClampNeg v2) fun I13 =>
some I13)))
def f_X12_ends (x1 : Int32) (x2 : Int32) (I : nm_I) : Option (nm_I) :=
nm_c x2 65536 (
nm_l (I 59 x2.toNatClampNeg) fun v2 =>
(if v2 < 0 then
some I
else
nm_c x1 4096 (
(if v2 = (I 64 x1.toNatClampNeg) then
some I
else
nm_c x1 4096 (
(if v2 = (I 65 x1.toNatClampNeg) then
some I
else
nm_c x1 4096 (
(if (I 64 x1.toNatClampNeg) < 0 then
f_X12_ends_J51 x1 v2 I
else
nm_c x1 4096 (
(if (I 64 x1.toNatClampNeg) ≤ v2 then
nm_c x1 4096 (
(if (I 65 x1.toNatClampNeg) < 0 then
nm_c x1 4096 (
nm_l (nm_up I 65 x1.toNatClampNeg v2) fun I20 =>
some I20)
else
nm_c x1 4096 (
(if (I 65 x1.toNatClampNeg) ≤ v2 then
some I
else
nm_c x1 4096 (
nm_l (nm_up I 65 x1.toNatClampNeg v2) fun I24 =>
some I24)))))
else
f_X12_ends_J51 x1 v2 I))))))))))
set_option maxHeartbeats 4000000 in
set_option maxRecDepth 100000 in
theorem k_X12_ends {l : Launch} {D : va_G} {Y : nm_Y} {s0 : Nat} {X : va_W} {ad : Nat → Nat}  {x1 : Int32} {x2 : Int32} {I : nm_I} {M0 : nm_I} (hf : f_X12_ends x1 x2 I = some M0) :
    nm_Met l yX12_ends cX12_ends 4 none { frames := 0, cells := 0, slots := 0, locals := 0 } [.ref (ad 0), .int x1, .int x2] D Y s0 (nm_W Y X moN ad (I, nJ0, moZ)) (nm_Qv D s0 (nm_W Y X moN ad (M0, nJ0, moZ))) 0 0 := by
  refine nm_of (by decide) (Nat.le_of_ble_eq_true rfl) ?_
  intro p e R s m args below meth c Q ls hx hb hr hlocks hml hown hts hs0 hK hZ hRf hRl hRc hRs hQ hP hD hl
  have hH : nm_H D Y (fun q => s0 ≤ q) s.heap X moN ad (I, nJ0, moZ) s.heap [] := ⟨hP, hD, va_S.rf⟩
  have hl : lv_has ls 4 [(0, .ref (ad 0)), (1, .int x1), (2, .int x2)] := hl
  unfold f_X12_ends at hf
  refine lv_aload_n hx hb dX12_ends_0 rfl (lv_at hl 0 rfl) ?_
  refine gf_12_58 hK hx hb hts hown hH mo_n0 mo_k0 (hts _ tw_1013) (fun _ h9 => h9) dX12_ends_1 ?_
  refine lv_iload_n hx hb dX12_ends_4 rfl (lv_at hl 2 rfl) ?_
  obtain ⟨hi1, hf⟩ := nm_chk hf
  refine nm_iald hx hb hK hH mo_n59 mo_k59 mo_l59 hi1 dX12_ends_5 ?_
  obtain ⟨v2, ev2, hf⟩ := nm_let hf
  refine nm_topi ev2 ?_
  refine lv_istore_n (lv' := [(3, .int v2), (0, .ref (ad 0)), (1, .int x1), (2, .int x2)]) hx hb dX12_ends_6 rfl hl (by decide) rfl (fun ls hl => ?_)
  refine lv_iload_n hx hb dX12_ends_7 rfl (lv_at hl 0 rfl) ?_
  refine lv_if_lt (tgt := 31) hx hb dX12_ends_8 (by decide) (fun c3 => ?_) (fun c3 => ?_)
  · have hf := nm_it c3 hf
    exact nm_vret hx hb hr hlocks hQ hH (congrArg (fun q => (q, nJ0, moZ)) (Option.some.inj hf)) dX12_ends_31
  · have hf := nm_ie c3 hf
    refine lv_iload_n hx hb dX12_ends_11 rfl (lv_at hl 0 rfl) ?_
    refine lv_aload_n hx hb dX12_ends_12 rfl (lv_at hl 1 rfl) ?_
    refine gf_12_63 hK hx hb hts hown hH mo_n0 mo_k0 (hts _ tw_1018) (fun _ h9 => h9) dX12_ends_13 ?_
    refine lv_iload_n hx hb dX12_ends_16 rfl (lv_at hl 2 rfl) ?_
    obtain ⟨hi4, hf⟩ := nm_chk hf
    refine nm_iald hx hb hK hH mo_n64 mo_k64 mo_l64 hi4 dX12_ends_17 ?_
    refine lv_icmp_eq (tgt := 31) hx hb dX12_ends_18 (by decide) (fun c5 => ?_) (fun c5 => ?_)
    · have hf := nm_it c5 hf
      exact nm_vret hx hb hr hlocks hQ hH (congrArg (fun q => (q, nJ0, moZ)) (Option.some.inj hf)) dX12_ends_31
    · have hf := nm_ie c5 hf
      refine lv_iload_n hx hb dX12_ends_21 rfl (lv_at hl 0 rfl) ?_
      refine lv_aload_n hx hb dX12_ends_22 rfl (lv_at hl 1 rfl) ?_
      refine gf_12_64 hK hx hb hts hown hH mo_n0 mo_k0 (hts _ tw_1019) (fun _ h9 => h9) dX12_ends_23 ?_
      refine lv_iload_n hx hb dX12_ends_26 rfl (lv_at hl 2 rfl) ?_
      obtain ⟨hi6, hf⟩ := nm_chk hf
      refine nm_iald hx hb hK hH mo_n65 mo_k65 mo_l65 hi6 dX12_ends_27 ?_
      refine lv_icmp_ne (tgt := 32) hx hb dX12_ends_28 (by decide) (fun c7 => ?_) (fun c7 => ?_)
      · have hf := nm_ie c7 hf
        refine lv_aload_n hx hb dX12_ends_32 rfl (lv_at hl 1 rfl) ?_
        refine gf_12_63 hK hx hb hts hown hH mo_n0 mo_k0 (hts _ tw_1018) (fun _ h9 => h9) dX12_ends_33 ?_
        refine lv_iload_n hx hb dX12_ends_36 rfl (lv_at hl 2 rfl) ?_
        obtain ⟨hi8, hf⟩ := nm_chk hf
        refine nm_iald hx hb hK hH mo_n64 mo_k64 mo_l64 hi8 dX12_ends_37 ?_
        have hJ51 : ∀  (H : Heap) (locs : List Loc) (ls : Array Slot), nm_H D Y (fun q => s0 ≤ q) s.heap X moN ad (I, nJ0, moZ) H locs → lv_has ls 4 [(0, .ref (ad 0)), (1, .int x1), (3, .int v2)] → f_X12_ends_J51 x1 v2 I = some M0 → W p l e R s m args below meth c H locs 0 0 Q (F0 m 51 ls []) := by
          intro  H locs ls hH hl hf
          unfold f_X12_ends_J51 at hf
          refine lv_aload_n hx hb dX12_ends_51 rfl (lv_at hl 0 rfl) ?_
          refine gf_12_64 hK hx hb hts hown hH mo_n0 mo_k0 (hts _ tw_1019) (fun _ h9 => h9) dX12_ends_52 ?_
          refine lv_iload_n hx hb dX12_ends_55 rfl (lv_at hl 1 rfl) ?_
          refine lv_aload_n hx hb dX12_ends_56 rfl (lv_at hl 0 rfl) ?_
          refine gf_12_63 hK hx hb hts hown hH mo_n0 mo_k0 (hts _ tw_1018) (fun _ h9 => h9) dX12_ends_57 ?_
          refine lv_iload_n hx hb dX12_ends_60 rfl (lv_at hl 1 rfl) ?_
          obtain ⟨hi9, hf⟩ := nm_chk hf
          refine nm_iald hx hb hK hH mo_n64 mo_k64 mo_l64 hi9 dX12_ends_61 ?_
          obtain ⟨hi10, hf⟩ := nm_chk hf
          obtain ⟨I11, eI11, hf⟩ := nm_let hf
          refine nm_iast hx hb hK hH mo_n65 mo_k65 mo_l65 hi10 dX12_ends_62 (fun H locs hH => ?_)
          have hH : nm_H D Y (fun q => s0 ≤ q) s.heap X moN ad (I11, nJ0, moZ) H locs := by rw [eI11]; exact hH
          refine lv_aload_n hx hb dX12_ends_63 rfl (lv_at hl 0 rfl) ?_
          refine gf_12_63 hK hx hb hts hown hH mo_n0 mo_k0 (hts _ tw_1018) (fun _ h9 => h9) dX12_ends_64 ?_
          refine lv_iload_n hx hb dX12_ends_67 rfl (lv_at hl 1 rfl) ?_
          refine lv_iload_n hx hb dX12_ends_68 rfl (lv_at hl 2 rfl) ?_
          obtain ⟨hi12, hf⟩ := nm_chk hf
          obtain ⟨I13, eI13, hf⟩ := nm_let hf
          refine nm_iast hx hb hK hH mo_n64 mo_k64 mo_l64 hi12 dX12_ends_69 (fun H locs hH => ?_)
          have hH : nm_H D Y (fun q => s0 ≤ q) s.heap X moN ad (I13, nJ0, moZ) H locs := by rw [eI13]; exact hH
          refine lv_goto (tgt := 99) hx hb dX12_ends_70 (by decide) ?_
          exact nm_vret hx hb hr hlocks hQ hH (congrArg (fun q => (q, nJ0, moZ)) (Option.some.inj hf)) dX12_ends_99
        refine lv_if_lt (tgt := 51) hx hb dX12_ends_38 (by decide) (fun c14 => ?_) (fun c14 => ?_)
        · have hf := nm_it c14 hf
          exact hJ51  _ _ _ hH (lv_sub hl [1, 2, 0] rfl) hf
        · have hf := nm_ie c14 hf
          refine lv_iload_n hx hb dX12_ends_41 rfl (lv_at hl 0 rfl) ?_
          refine lv_aload_n hx hb dX12_ends_42 rfl (lv_at hl 1 rfl) ?_
          refine gf_12_63 hK hx hb hts hown hH mo_n0 mo_k0 (hts _ tw_1018) (fun _ h9 => h9) dX12_ends_43 ?_
          refine lv_iload_n hx hb dX12_ends_46 rfl (lv_at hl 2 rfl) ?_
          obtain ⟨hi15, hf⟩ := nm_chk hf
          refine nm_iald hx hb hK hH mo_n64 mo_k64 mo_l64 hi15 dX12_ends_47 ?_
          refine lv_icmp_ge (tgt := 73) hx hb dX12_ends_48 (by decide) (fun c16 => ?_) (fun c16 => ?_)
          · have hf := nm_it c16 hf
            refine lv_aload_n hx hb dX12_ends_73 rfl (lv_at hl 1 rfl) ?_
            refine gf_12_64 hK hx hb hts hown hH mo_n0 mo_k0 (hts _ tw_1019) (fun _ h9 => h9) dX12_ends_74 ?_
            refine lv_iload_n hx hb dX12_ends_77 rfl (lv_at hl 2 rfl) ?_
            obtain ⟨hi17, hf⟩ := nm_chk hf
            refine nm_iald hx hb hK hH mo_n65 mo_k65 mo_l65 hi17 dX12_ends_78 ?_
            refine lv_if_lt (tgt := 92) hx hb dX12_ends_79 (by decide) (fun c18 => ?_) (fun c18 => ?_)
            · have hf := nm_it c18 hf
              refine lv_aload_n hx hb dX12_ends_92 rfl (lv_at hl 1 rfl) ?_
              refine gf_12_64 hK hx hb hts hown hH mo_n0 mo_k0 (hts _ tw_1019) (fun _ h9 => h9) dX12_ends_93 ?_
              refine lv_iload_n hx hb dX12_ends_96 rfl (lv_at hl 2 rfl) ?_
              refine lv_iload_n hx hb dX12_ends_97 rfl (lv_at hl 0 rfl) ?_
              obtain ⟨hi19, hf⟩ := nm_chk hf
              obtain ⟨I20, eI20, hf⟩ := nm_let hf
              refine nm_iast hx hb hK hH mo_n65 mo_k65 mo_l65 hi19 dX12_ends_98 (fun H locs hH => ?_)
              have hH : nm_H D Y (fun q => s0 ≤ q) s.heap X moN ad (I20, nJ0, moZ) H locs := by rw [eI20]; exact hH
              exact nm_vret hx hb hr hlocks hQ hH (congrArg (fun q => (q, nJ0, moZ)) (Option.some.inj hf)) dX12_ends_99
            · have hf := nm_ie c18 hf
              refine lv_iload_n hx hb dX12_ends_82 rfl (lv_at hl 0 rfl) ?_
              refine lv_aload_n hx hb dX12_ends_83 rfl (lv_at hl 1 rfl) ?_
              refine gf_12_64 hK hx hb hts hown hH mo_n0 mo_k0 (hts _ tw_1019) (fun _ h9 => h9) dX12_ends_84 ?_
              refine lv_iload_n hx hb dX12_ends_87 rfl (lv_at hl 2 rfl) ?_
              obtain ⟨hi21, hf⟩ := nm_chk hf
              refine nm_iald hx hb hK hH mo_n65 mo_k65 mo_l65 hi21 dX12_ends_88 ?_
              refine lv_icmp_ge (tgt := 99) hx hb dX12_ends_89 (by decide) (fun c22 => ?_) (fun c22 => ?_)
              · have hf := nm_it c22 hf
                exact nm_vret hx hb hr hlocks hQ hH (congrArg (fun q => (q, nJ0, moZ)) (Option.some.inj hf)) dX12_ends_99
              · have hf := nm_ie c22 hf
                refine lv_aload_n hx hb dX12_ends_92 rfl (lv_at hl 1 rfl) ?_
                refine gf_12_64 hK hx hb hts hown hH mo_n0 mo_k0 (hts _ tw_1019) (fun _ h9 => h9) dX12_ends_93 ?_
                refine lv_iload_n hx hb dX12_ends_96 rfl (lv_at hl 2 rfl) ?_
                refine lv_iload_n hx hb dX12_ends_97 rfl (lv_at hl 0 rfl) ?_
                obtain ⟨hi23, hf⟩ := nm_chk hf
                obtain ⟨I24, eI24, hf⟩ := nm_let hf
                refine nm_iast hx hb hK hH mo_n65 mo_k65 mo_l65 hi23 dX12_ends_98 (fun H locs hH => ?_)
                have hH : nm_H D Y (fun q => s0 ≤ q) s.heap X moN ad (I24, nJ0, moZ) H locs := by rw [eI24]; exact hH
                exact nm_vret hx hb hr hlocks hQ hH (congrArg (fun q => (q, nJ0, moZ)) (Option.some.inj hf)) dX12_ends_99
          · have hf := nm_ie c16 hf
            exact hJ51  _ _ _ hH (lv_sub hl [1, 2, 0] rfl) hf
      · have hf := nm_it c7 hf
        exact nm_vret hx hb hr hlocks hQ hH (congrArg (fun q => (q, nJ0, moZ)) (Option.some.inj hf)) dX12_ends_31
def f_X12_findDevices_J100 (x1 : Int32) (t100_2 : Int32) (t100_1 : Int32) (I10 : nm_I) (k : Int32 → nm_I → Option (nm_I)) : Option (nm_I) :=
nm_c t100_1 4096 (
nm_l (nm_up I10 63 t100_1.toNatClampNeg t100_2) fun I13 =>
nm_c x1 4096 (
nm_l (nm_up I13 64 x1.toNatClampNeg (-1 : Int32)) fun I15 =>
nm_c x1 4096 (
nm_l (nm_up I15 65 x1.toNatClampNeg (-1 : Int32)) fun I17 =>
k (x1 + 1) I17)))
def f_X12_findDevices_L39  : Nat → Int32 → nm_I → Option (nm_I)
  | 0, _, _ => none
  | n39 + 1, x1, I6 =>
    (if (I6 0 65) ≤ x1 then
    some I6
    else
    nm_c x1 4096 (
    nm_c x1 4096 (
    nm_l (nm_up I6 62 x1.toNatClampNeg (I6 29 x1.toNatClampNeg)) fun I10 =>
    nm_c (I10 0 54) 16 (
    (if (I10 50 (I10 0 54).toNatClampNeg) = 0 then
    f_X12_findDevices_J100 x1 (-1 : Int32) x1 I10 (f_X12_findDevices_L39 n39)
    else
    nm_c x1 4096 (
    nm_c (((4096 : Int32) * (I10 0 54)) + (I10 31 x1.toNatClampNeg)) 65536 (
    f_X12_findDevices_J100 x1 (I10 59 (((4096 : Int32) * (I10 0 54)) + (I10 31 x1.toNatClampNeg)).toNatClampNeg) x1 I10 (f_X12_findDevices_L39 n39))))))))
def f_X12_findDevices_J247 (x1 : Int32) (I25 : nm_I) (k : Int32 → nm_I → Option (nm_I)) : Option (nm_I) :=
k (x1 + 1) I25
def f_X12_findDevices_J226 (x1 : Int32) (v27 : Int32) (I33 : nm_I) (k : Int32 → nm_I → Option (nm_I)) : Option (nm_I) :=
(if (4032 : Int32) ≤ x1 then
f_X12_findDevices_J247 x1 I33 k
else
nm_c x1 4096 (
nm_s1 (f_X12_ends (I33 28 x1.toNatClampNeg) (v27 + (64 : Int32)) I33) fun I36 =>
f_X12_findDevices_J247 x1 I36 k))
def f_X12_findDevices_J206 (x1 : Int32) (v27 : Int32) (I32 : nm_I) (k : Int32 → nm_I → Option (nm_I)) : Option (nm_I) :=
(if x1 < (64 : Int32) then
f_X12_findDevices_J226 x1 v27 I32 k
else
nm_c x1 4096 (
nm_s1 (f_X12_ends (I32 28 x1.toNatClampNeg) (v27 - (64 : Int32)) I32) fun I40 =>
f_X12_findDevices_J226 x1 v27 I40 k))
def f_X12_findDevices_J184 (x1 : Int32) (v27 : Int32) (I31 : nm_I) (k : Int32 → nm_I → Option (nm_I)) : Option (nm_I) :=
(if (63 : Int32) ≤ (x1 - x1 / (64 : Int32) * (64 : Int32)) then
f_X12_findDevices_J206 x1 v27 I31 k
else
nm_c x1 4096 (
nm_s1 (f_X12_ends (I31 28 x1.toNatClampNeg) (v27 + (1 : Int32)) I31) fun I44 =>
f_X12_findDevices_J206 x1 v27 I44 k))
def f_X12_findDevices_L123  : Nat → Int32 → nm_I → Option (nm_I)
  | 0, _, _ => none
  | n123 + 1, x1, I22 =>
    (if (4096 : Int32) ≤ x1 then
    some I22
    else
    nm_c x1 4096 (
    (if 0 ≤ (I22 28 x1.toNatClampNeg) then
    nm_l (((4096 : Int32) * (I22 0 56)) + x1) fun v27 =>
    nm_c x1 4096 (
    nm_s1 (f_X12_ends (I22 28 x1.toNatClampNeg) v27 I22) fun I29 =>
    (if (x1 - x1 / (64 : Int32) * (64 : Int32)) ≤ 0 then
    f_X12_findDevices_J184 x1 v27 I29 (f_X12_findDevices_L123 n123)
    else
    nm_c x1 4096 (
    nm_s1 (f_X12_ends (I29 28 x1.toNatClampNeg) (v27 - (1 : Int32)) I29) fun I48 =>
    f_X12_findDevices_J184 x1 v27 I48 (f_X12_findDevices_L123 n123))))
    else
    f_X12_findDevices_J247 x1 I22 (f_X12_findDevices_L123 n123))))
def f_X12_findDevices (I : nm_I) : Option (nm_I) :=
nm_l (nm_up I 0 65 (0 : Int32)) fun I1 =>
(if 0 ≤ (I1 0 54) then
nm_s1 (f_X12_findPieces ((4096 : Int32) * (I1 0 54)) (I1 0 55) I1) fun I3 =>
nm_l (nm_up I3 0 65 (I3 0 33)) fun I5 =>
nm_s1 (f_X12_findDevices_L39 nm_F (0 : Int32) I5) fun I21 =>
nm_s1 (f_X12_findDevices_L123 nm_F (0 : Int32) I21) fun I50 =>
some I50
else
some I1)
set_option maxHeartbeats 4000000 in
set_option maxRecDepth 100000 in
theorem k_X12_findDevices {l : Launch} {D : va_G} {Y : nm_Y} {s0 : Nat} {X : va_W} {ad : Nat → Nat}  {I : nm_I} {M0 : nm_I} (hf : f_X12_findDevices I = some M0) :
    nm_Met l yX12_findDevices cX12_findDevices 3 none { frames := 2, cells := 0, slots := 0, locals := 50 } [.ref (ad 0)] D Y s0 (nm_W Y X moN ad (I, nJ0, moZ)) (nm_Qv D s0 (nm_W Y X moN ad (M0, nJ0, moZ))) 0 0 := by
  refine nm_of (by decide) (Nat.le_of_ble_eq_true rfl) ?_
  intro p e R s m args below meth c Q ls hx hb hr hlocks hml hown hts hs0 hK hZ hRf hRl hRc hRs hQ hP hD hl
  have hH : nm_H D Y (fun q => s0 ≤ q) s.heap X moN ad (I, nJ0, moZ) s.heap [] := ⟨hP, hD, va_S.rf⟩
  have hl : lv_has ls 3 [(0, .ref (ad 0))] := hl
  unfold f_X12_findDevices at hf
  refine lv_aload_n hx hb dX12_findDevices_0 rfl (lv_at hl 0 rfl) ?_
  refine lv_iconst (v := 0) hx hb dX12_findDevices_1 (by decide) ?_
  obtain ⟨I1, eI1, hf⟩ := nm_let hf
  refine pf_12_65 hK hx hb hts hown hH mo_n0 mo_k0 (hts _ tw_1020) (fun _ h9 => h9) dX12_findDevices_2 (fun H locs hH => ?_)
  have hH : nm_H D Y (fun q => s0 ≤ q) s.heap X moN ad (I1, nJ0, moZ) H locs := by rw [eI1]; exact hH
  refine lv_aload_n hx hb dX12_findDevices_5 rfl (lv_at hl 0 rfl) ?_
  refine gf_12_54 hK hx hb hts hown hH mo_n0 mo_k0 (hts _ tw_1009) (fun _ h9 => h9) dX12_findDevices_6 ?_
  refine lv_if_ge (tgt := 13) hx hb dX12_findDevices_9 (by decide) (fun c2 => ?_) (fun c2 => ?_)
  · have hf := nm_it c2 hf
    refine lv_aload_n hx hb dX12_findDevices_13 rfl (lv_at hl 0 rfl) ?_
    refine lv_sipush (v := 4096) hx hb dX12_findDevices_14 (by decide) ?_
    refine lv_aload_n hx hb dX12_findDevices_17 rfl (lv_at hl 0 rfl) ?_
    refine gf_12_54 hK hx hb hts hown hH mo_n0 mo_k0 (hts _ tw_1009) (fun _ h9 => h9) dX12_findDevices_18 ?_
    refine lv_imul hx hb dX12_findDevices_21 ?_
    refine lv_aload_n hx hb dX12_findDevices_22 rfl (lv_at hl 0 rfl) ?_
    refine gf_12_55 hK hx hb hts hown hH mo_n0 mo_k0 (hts _ tw_1010) (fun _ h9 => h9) dX12_findDevices_23 ?_
    obtain ⟨I3, hc4, hf⟩ := nm_sd1 hf
    refine nm_callv (nm_runV (X := X) (nl := moN) (k_X12_findPieces (hf := hc4)) hx hb hml hown hts hs0 hK hZ hH tw_1318 tw_1315 tw_1317 (sw_X12_findPieces) tw_9 hd_X12_findPieces mo_n0 mo_k0 (by decide) rfl rfl rfl ⟨Nat.le_trans (Nat.le_of_ble_eq_true rfl) hRf, Nat.le_trans (Nat.le_of_ble_eq_true rfl) hRl⟩ rfl hl.1 rfl (Nat.le_of_ble_eq_true rfl) dX12_findDevices_26 ⟨Nat.zero_le _, Nat.zero_le _⟩) hH (fun H locs hH => ?_)
    have hH : nm_H D Y (fun q => s0 ≤ q) s.heap X moN ad (I3, nJ0, moZ) H locs := hH
    refine lv_aload_n hx hb dX12_findDevices_29 rfl (lv_at hl 0 rfl) ?_
    refine lv_aload_n hx hb dX12_findDevices_30 rfl (lv_at hl 0 rfl) ?_
    refine gf_12_33 hK hx hb hts hown hH mo_n0 mo_k0 (hts _ tw_989) (fun _ h9 => h9) dX12_findDevices_31 ?_
    obtain ⟨I5, eI5, hf⟩ := nm_let hf
    refine pf_12_65 hK hx hb hts hown hH mo_n0 mo_k0 (hts _ tw_1020) (fun _ h9 => h9) dX12_findDevices_34 (fun H locs hH => ?_)
    have hH : nm_H D Y (fun q => s0 ≤ q) s.heap X moN ad (I5, nJ0, moZ) H locs := by rw [eI5]; exact hH
    refine lv_iconst (v := 0) hx hb dX12_findDevices_37 (by decide) ?_
    refine lv_istore_n (lv' := [(1, .int (0 : Int32)), (0, .ref (ad 0))]) hx hb dX12_findDevices_38 rfl hl (by decide) rfl (fun ls hl => ?_)
    have hL39 : ∀ (n39 : Nat) (x1 : Int32) (I6 : nm_I) (H : Heap) (locs : List Loc) (ls : Array Slot) (o39 : nm_I), nm_H D Y (fun q => s0 ≤ q) s.heap X moN ad (I6, nJ0, moZ) H locs → lv_has ls 3 [(0, .ref (ad 0)), (1, .int x1)] → f_X12_findDevices_L39 n39 x1 I6 = some o39 → (∀ (H : Heap) (locs : List Loc) (ls : Array Slot), nm_H D Y (fun q => s0 ≤ q) s.heap X moN ad (o39, nJ0, moZ) H locs → lv_has ls 3 [(0, .ref (ad 0))] → W p l e R s m args below meth c H locs 0 0 Q (F0 m 121 ls [])) → W p l e R s m args below meth c H locs 0 0 Q (F0 m 39 ls []) := by
      intro n39
      induction n39 with
      | zero =>
        intro x1 I6 H locs ls o39 hH hl hf hX39
        cases hf
      | succ n39 ih39 =>
        intro x1 I6 H locs ls o39 hH hl hf hX39
        rw [f_X12_findDevices_L39] at hf
        refine lv_iload_n hx hb dX12_findDevices_39 rfl (lv_at hl 1 rfl) ?_
        refine lv_aload_n hx hb dX12_findDevices_40 rfl (lv_at hl 0 rfl) ?_
        refine gf_12_65 hK hx hb hts hown hH mo_n0 mo_k0 (hts _ tw_1020) (fun _ h9 => h9) dX12_findDevices_41 ?_
        refine lv_icmp_ge (tgt := 121) hx hb dX12_findDevices_44 (by decide) (fun c7 => ?_) (fun c7 => ?_)
        · have hf := nm_it c7 hf
          cases hf
          exact hX39 _ _ _ hH (lv_sub hl [0] rfl)
        · have hf := nm_ie c7 hf
          refine lv_aload_n hx hb dX12_findDevices_47 rfl (lv_at hl 0 rfl) ?_
          refine gf_12_61 hK hx hb hts hown hH mo_n0 mo_k0 (hts _ tw_1016) (fun _ h9 => h9) dX12_findDevices_48 ?_
          refine lv_iload_n hx hb dX12_findDevices_51 rfl (lv_at hl 1 rfl) ?_
          refine lv_aload_n hx hb dX12_findDevices_52 rfl (lv_at hl 0 rfl) ?_
          refine gf_12_28 hK hx hb hts hown hH mo_n0 mo_k0 (hts _ tw_984) (fun _ h9 => h9) dX12_findDevices_53 ?_
          refine lv_iload_n hx hb dX12_findDevices_56 rfl (lv_at hl 1 rfl) ?_
          obtain ⟨hi8, hf⟩ := nm_chk hf
          refine nm_iald hx hb hK hH mo_n29 mo_k29 mo_l29 hi8 dX12_findDevices_57 ?_
          obtain ⟨hi9, hf⟩ := nm_chk hf
          obtain ⟨I10, eI10, hf⟩ := nm_let hf
          refine nm_iast hx hb hK hH mo_n62 mo_k62 mo_l62 hi9 dX12_findDevices_58 (fun H locs hH => ?_)
          have hH : nm_H D Y (fun q => s0 ≤ q) s.heap X moN ad (I10, nJ0, moZ) H locs := by rw [eI10]; exact hH
          refine lv_aload_n hx hb dX12_findDevices_59 rfl (lv_at hl 0 rfl) ?_
          refine gf_12_62 hK hx hb hts hown hH mo_n0 mo_k0 (hts _ tw_1017) (fun _ h9 => h9) dX12_findDevices_60 ?_
          refine lv_iload_n hx hb dX12_findDevices_63 rfl (lv_at hl 1 rfl) ?_
          refine lv_aload_n hx hb dX12_findDevices_64 rfl (lv_at hl 0 rfl) ?_
          refine gf_12_49 hK hx hb hts hown hH mo_n0 mo_k0 (hts _ tw_1004) (fun _ h9 => h9) dX12_findDevices_65 ?_
          refine lv_aload_n hx hb dX12_findDevices_68 rfl (lv_at hl 0 rfl) ?_
          refine gf_12_54 hK hx hb hts hown hH mo_n0 mo_k0 (hts _ tw_1009) (fun _ h9 => h9) dX12_findDevices_69 ?_
          obtain ⟨hi11, hf⟩ := nm_chk hf
          refine nm_zald hx hb hK hH mo_n50 mo_k50 mo_l50 hi11 dX12_findDevices_72 ?_
          have hJ100 : ∀ (t100_2 : Int32) (t100_1 : Int32) (H : Heap) (locs : List Loc) (ls : Array Slot), nm_H D Y (fun q => s0 ≤ q) s.heap X moN ad (I10, nJ0, moZ) H locs → lv_has ls 3 [(0, .ref (ad 0)), (1, .int x1)] → f_X12_findDevices_J100 x1 t100_2 t100_1 I10 (f_X12_findDevices_L39 n39) = some o39 → W p l e R s m args below meth c H locs 0 0 Q (F0 m 100 ls [.int t100_2, .int t100_1, .ref (ad 63)]) := by
            intro t100_2 t100_1 H locs ls hH hl hf
            unfold f_X12_findDevices_J100 at hf
            obtain ⟨hi12, hf⟩ := nm_chk hf
            obtain ⟨I13, eI13, hf⟩ := nm_let hf
            refine nm_iast hx hb hK hH mo_n63 mo_k63 mo_l63 hi12 dX12_findDevices_100 (fun H locs hH => ?_)
            have hH : nm_H D Y (fun q => s0 ≤ q) s.heap X moN ad (I13, nJ0, moZ) H locs := by rw [eI13]; exact hH
            refine lv_aload_n hx hb dX12_findDevices_101 rfl (lv_at hl 0 rfl) ?_
            refine gf_12_63 hK hx hb hts hown hH mo_n0 mo_k0 (hts _ tw_1018) (fun _ h9 => h9) dX12_findDevices_102 ?_
            refine lv_iload_n hx hb dX12_findDevices_105 rfl (lv_at hl 1 rfl) ?_
            refine lv_iconst (v := -1) hx hb dX12_findDevices_106 (by decide) ?_
            obtain ⟨hi14, hf⟩ := nm_chk hf
            obtain ⟨I15, eI15, hf⟩ := nm_let hf
            refine nm_iast hx hb hK hH mo_n64 mo_k64 mo_l64 hi14 dX12_findDevices_107 (fun H locs hH => ?_)
            have hH : nm_H D Y (fun q => s0 ≤ q) s.heap X moN ad (I15, nJ0, moZ) H locs := by rw [eI15]; exact hH
            refine lv_aload_n hx hb dX12_findDevices_108 rfl (lv_at hl 0 rfl) ?_
            refine gf_12_64 hK hx hb hts hown hH mo_n0 mo_k0 (hts _ tw_1019) (fun _ h9 => h9) dX12_findDevices_109 ?_
            refine lv_iload_n hx hb dX12_findDevices_112 rfl (lv_at hl 1 rfl) ?_
            refine lv_iconst (v := -1) hx hb dX12_findDevices_113 (by decide) ?_
            obtain ⟨hi16, hf⟩ := nm_chk hf
            obtain ⟨I17, eI17, hf⟩ := nm_let hf
            refine nm_iast hx hb hK hH mo_n65 mo_k65 mo_l65 hi16 dX12_findDevices_114 (fun H locs hH => ?_)
            have hH : nm_H D Y (fun q => s0 ≤ q) s.heap X moN ad (I17, nJ0, moZ) H locs := by rw [eI17]; exact hH
            refine lv_iinc (v := x1 + 1) (lv' := [(1, .int (x1 + 1)), (0, .ref (ad 0))]) hx hb dX12_findDevices_115 hl (k := 1) rfl rfl (by decide) rfl (fun ls hl => ?_)
            refine lv_goto (tgt := 39) hx hb dX12_findDevices_118 (by decide) ?_
            exact ih39 (x1 + 1) I17 _ _ _ _ hH (lv_sub hl [1, 0] rfl) hf hX39
          refine lv_if_eq (tgt := 99) hx hb dX12_findDevices_73 (by decide) (fun c18 => ?_) (fun c18 => ?_)
          · have hf := nm_it c18 hf
            refine lv_iconst (v := -1) hx hb dX12_findDevices_99 (by decide) ?_
            exact hJ100 (-1 : Int32) x1 _ _ _ hH (lv_sub hl [0, 1] rfl) hf
          · have hf := nm_ie c18 hf
            refine lv_aload_n hx hb dX12_findDevices_76 rfl (lv_at hl 0 rfl) ?_
            refine gf_12_58 hK hx hb hts hown hH mo_n0 mo_k0 (hts _ tw_1013) (fun _ h9 => h9) dX12_findDevices_77 ?_
            refine lv_sipush (v := 4096) hx hb dX12_findDevices_80 (by decide) ?_
            refine lv_aload_n hx hb dX12_findDevices_83 rfl (lv_at hl 0 rfl) ?_
            refine gf_12_54 hK hx hb hts hown hH mo_n0 mo_k0 (hts _ tw_1009) (fun _ h9 => h9) dX12_findDevices_84 ?_
            refine lv_imul hx hb dX12_findDevices_87 ?_
            refine lv_aload_n hx hb dX12_findDevices_88 rfl (lv_at hl 0 rfl) ?_
            refine gf_12_30 hK hx hb hts hown hH mo_n0 mo_k0 (hts _ tw_986) (fun _ h9 => h9) dX12_findDevices_89 ?_
            refine lv_iload_n hx hb dX12_findDevices_92 rfl (lv_at hl 1 rfl) ?_
            obtain ⟨hi19, hf⟩ := nm_chk hf
            refine nm_iald hx hb hK hH mo_n31 mo_k31 mo_l31 hi19 dX12_findDevices_93 ?_
            refine lv_iadd hx hb dX12_findDevices_94 ?_
            obtain ⟨hi20, hf⟩ := nm_chk hf
            refine nm_iald hx hb hK hH mo_n59 mo_k59 mo_l59 hi20 dX12_findDevices_95 ?_
            refine lv_goto (tgt := 100) hx hb dX12_findDevices_96 (by decide) ?_
            exact hJ100 (I10 59 (((4096 : Int32) * (I10 0 54)) + (I10 31 x1.toNatClampNeg)).toNatClampNeg) x1 _ _ _ hH (lv_sub hl [0, 1] rfl) hf
    obtain ⟨I21, hl52, hf⟩ := nm_sd1 hf
    refine hL39 nm_F (0 : Int32) I5 _ _ _ _ hH (lv_sub hl [1, 0] rfl) hl52 (fun H locs ls hH hl => ?_)
    have hl : lv_has ls 3 [(0, .ref (ad 0))] := hl
    have hH : nm_H D Y (fun q => s0 ≤ q) s.heap X moN ad (I21, nJ0, moZ) H locs := hH
    refine lv_iconst (v := 0) hx hb dX12_findDevices_121 (by decide) ?_
    refine lv_istore_n (lv' := [(1, .int (0 : Int32)), (0, .ref (ad 0))]) hx hb dX12_findDevices_122 rfl hl (by decide) rfl (fun ls hl => ?_)
    have hL123 : ∀ (n123 : Nat) (x1 : Int32) (I22 : nm_I) (H : Heap) (locs : List Loc) (ls : Array Slot) (o123 : nm_I), nm_H D Y (fun q => s0 ≤ q) s.heap X moN ad (I22, nJ0, moZ) H locs → lv_has ls 3 [(0, .ref (ad 0)), (1, .int x1)] → f_X12_findDevices_L123 n123 x1 I22 = some o123 → (∀ (H : Heap) (locs : List Loc) (ls : Array Slot), nm_H D Y (fun q => s0 ≤ q) s.heap X moN ad (o123, nJ0, moZ) H locs → lv_has ls 3 [] → W p l e R s m args below meth c H locs 0 0 Q (F0 m 253 ls [])) → W p l e R s m args below meth c H locs 0 0 Q (F0 m 123 ls []) := by
      intro n123
      induction n123 with
      | zero =>
        intro x1 I22 H locs ls o123 hH hl hf hX123
        cases hf
      | succ n123 ih123 =>
        intro x1 I22 H locs ls o123 hH hl hf hX123
        rw [f_X12_findDevices_L123] at hf
        refine lv_iload_n hx hb dX12_findDevices_123 rfl (lv_at hl 1 rfl) ?_
        refine lv_sipush (v := 4096) hx hb dX12_findDevices_124 (by decide) ?_
        refine lv_icmp_ge (tgt := 253) hx hb dX12_findDevices_127 (by decide) (fun c23 => ?_) (fun c23 => ?_)
        · have hf := nm_it c23 hf
          cases hf
          exact hX123 _ _ _ hH (lv_sub hl [] rfl)
        · have hf := nm_ie c23 hf
          refine lv_aload_n hx hb dX12_findDevices_130 rfl (lv_at hl 0 rfl) ?_
          refine gf_12_27 hK hx hb hts hown hH mo_n0 mo_k0 (hts _ tw_983) (fun _ h9 => h9) dX12_findDevices_131 ?_
          refine lv_iload_n hx hb dX12_findDevices_134 rfl (lv_at hl 1 rfl) ?_
          obtain ⟨hi24, hf⟩ := nm_chk hf
          refine nm_iald hx hb hK hH mo_n28 mo_k28 mo_l28 hi24 dX12_findDevices_135 ?_
          have hJ247 : ∀ (I25 : nm_I) (H : Heap) (locs : List Loc) (ls : Array Slot), nm_H D Y (fun q => s0 ≤ q) s.heap X moN ad (I25, nJ0, moZ) H locs → lv_has ls 3 [(0, .ref (ad 0)), (1, .int x1)] → f_X12_findDevices_J247 x1 I25 (f_X12_findDevices_L123 n123) = some o123 → W p l e R s m args below meth c H locs 0 0 Q (F0 m 247 ls []) := by
            intro I25 H locs ls hH hl hf
            unfold f_X12_findDevices_J247 at hf
            refine lv_iinc (v := x1 + 1) (lv' := [(1, .int (x1 + 1)), (0, .ref (ad 0))]) hx hb dX12_findDevices_247 hl (k := 1) rfl rfl (by decide) rfl (fun ls hl => ?_)
            refine lv_goto (tgt := 123) hx hb dX12_findDevices_250 (by decide) ?_
            exact ih123 (x1 + 1) I25 _ _ _ _ hH (lv_sub hl [1, 0] rfl) hf hX123
          refine lv_if_ge (tgt := 142) hx hb dX12_findDevices_136 (by decide) (fun c26 => ?_) (fun c26 => ?_)
          · have hf := nm_it c26 hf
            refine lv_sipush (v := 4096) hx hb dX12_findDevices_142 (by decide) ?_
            refine lv_aload_n hx hb dX12_findDevices_145 rfl (lv_at hl 0 rfl) ?_
            refine gf_12_56 hK hx hb hts hown hH mo_n0 mo_k0 (hts _ tw_1011) (fun _ h9 => h9) dX12_findDevices_146 ?_
            refine lv_imul hx hb dX12_findDevices_149 ?_
            refine lv_iload_n hx hb dX12_findDevices_150 rfl (lv_at hl 1 rfl) ?_
            refine lv_iadd hx hb dX12_findDevices_151 ?_
            obtain ⟨v27, ev27, hf⟩ := nm_let hf
            refine nm_topi ev27 ?_
            refine lv_istore_n (lv' := [(2, .int v27), (0, .ref (ad 0)), (1, .int x1)]) hx hb dX12_findDevices_152 rfl hl (by decide) rfl (fun ls hl => ?_)
            refine lv_aload_n hx hb dX12_findDevices_153 rfl (lv_at hl 1 rfl) ?_
            refine lv_aload_n hx hb dX12_findDevices_154 rfl (lv_at hl 1 rfl) ?_
            refine gf_12_27 hK hx hb hts hown hH mo_n0 mo_k0 (hts _ tw_983) (fun _ h9 => h9) dX12_findDevices_155 ?_
            refine lv_iload_n hx hb dX12_findDevices_158 rfl (lv_at hl 2 rfl) ?_
            obtain ⟨hi28, hf⟩ := nm_chk hf
            refine nm_iald hx hb hK hH mo_n28 mo_k28 mo_l28 hi28 dX12_findDevices_159 ?_
            refine lv_iload_n hx hb dX12_findDevices_160 rfl (lv_at hl 0 rfl) ?_
            obtain ⟨I29, hc30, hf⟩ := nm_sd1 hf
            refine nm_callv (nm_runV (X := X) (nl := moN) (k_X12_ends (hf := hc30)) hx hb hml hown hts hs0 hK hZ hH tw_1426 tw_1423 tw_1425 (sw_X12_ends) tw_9 hd_X12_ends mo_n0 mo_k0 (by decide) rfl rfl rfl ⟨Nat.le_trans (Nat.le_of_ble_eq_true rfl) hRf, Nat.le_trans (Nat.le_of_ble_eq_true rfl) hRl⟩ rfl hl.1 rfl (Nat.le_of_ble_eq_true rfl) dX12_findDevices_161 ⟨Nat.zero_le _, Nat.zero_le _⟩) hH (fun H locs hH => ?_)
            have hH : nm_H D Y (fun q => s0 ≤ q) s.heap X moN ad (I29, nJ0, moZ) H locs := hH
            refine lv_iload_n hx hb dX12_findDevices_164 rfl (lv_at hl 2 rfl) ?_
            refine lv_bipush (v := 64) hx hb dX12_findDevices_165 (by decide) ?_
            refine lv_irem hx hb dX12_findDevices_167 (by decide) ?_
            have hJ184 : ∀ (I31 : nm_I) (H : Heap) (locs : List Loc) (ls : Array Slot), nm_H D Y (fun q => s0 ≤ q) s.heap X moN ad (I31, nJ0, moZ) H locs → lv_has ls 3 [(0, .ref (ad 0)), (1, .int x1), (2, .int v27)] → f_X12_findDevices_J184 x1 v27 I31 (f_X12_findDevices_L123 n123) = some o123 → W p l e R s m args below meth c H locs 0 0 Q (F0 m 184 ls []) := by
              intro I31 H locs ls hH hl hf
              unfold f_X12_findDevices_J184 at hf
              refine lv_iload_n hx hb dX12_findDevices_184 rfl (lv_at hl 1 rfl) ?_
              refine lv_bipush (v := 64) hx hb dX12_findDevices_185 (by decide) ?_
              refine lv_irem hx hb dX12_findDevices_187 (by decide) ?_
              refine lv_bipush (v := 63) hx hb dX12_findDevices_188 (by decide) ?_
              have hJ206 : ∀ (I32 : nm_I) (H : Heap) (locs : List Loc) (ls : Array Slot), nm_H D Y (fun q => s0 ≤ q) s.heap X moN ad (I32, nJ0, moZ) H locs → lv_has ls 3 [(0, .ref (ad 0)), (1, .int x1), (2, .int v27)] → f_X12_findDevices_J206 x1 v27 I32 (f_X12_findDevices_L123 n123) = some o123 → W p l e R s m args below meth c H locs 0 0 Q (F0 m 206 ls []) := by
                intro I32 H locs ls hH hl hf
                unfold f_X12_findDevices_J206 at hf
                refine lv_iload_n hx hb dX12_findDevices_206 rfl (lv_at hl 1 rfl) ?_
                refine lv_bipush (v := 64) hx hb dX12_findDevices_207 (by decide) ?_
                have hJ226 : ∀ (I33 : nm_I) (H : Heap) (locs : List Loc) (ls : Array Slot), nm_H D Y (fun q => s0 ≤ q) s.heap X moN ad (I33, nJ0, moZ) H locs → lv_has ls 3 [(0, .ref (ad 0)), (1, .int x1), (2, .int v27)] → f_X12_findDevices_J226 x1 v27 I33 (f_X12_findDevices_L123 n123) = some o123 → W p l e R s m args below meth c H locs 0 0 Q (F0 m 226 ls []) := by
                  intro I33 H locs ls hH hl hf
                  unfold f_X12_findDevices_J226 at hf
                  refine lv_iload_n hx hb dX12_findDevices_226 rfl (lv_at hl 1 rfl) ?_
                  refine lv_sipush (v := 4032) hx hb dX12_findDevices_227 (by decide) ?_
                  refine lv_icmp_ge (tgt := 247) hx hb dX12_findDevices_230 (by decide) (fun c34 => ?_) (fun c34 => ?_)
                  · have hf := nm_it c34 hf
                    exact hJ247  I33 _ _ _ hH (lv_sub hl [0, 1] rfl) hf
                  · have hf := nm_ie c34 hf
                    refine lv_aload_n hx hb dX12_findDevices_233 rfl (lv_at hl 0 rfl) ?_
                    refine lv_aload_n hx hb dX12_findDevices_234 rfl (lv_at hl 0 rfl) ?_
                    refine gf_12_27 hK hx hb hts hown hH mo_n0 mo_k0 (hts _ tw_983) (fun _ h9 => h9) dX12_findDevices_235 ?_
                    refine lv_iload_n hx hb dX12_findDevices_238 rfl (lv_at hl 1 rfl) ?_
                    obtain ⟨hi35, hf⟩ := nm_chk hf
                    refine nm_iald hx hb hK hH mo_n28 mo_k28 mo_l28 hi35 dX12_findDevices_239 ?_
                    refine lv_iload_n hx hb dX12_findDevices_240 rfl (lv_at hl 2 rfl) ?_
                    refine lv_bipush (v := 64) hx hb dX12_findDevices_241 (by decide) ?_
                    refine lv_iadd hx hb dX12_findDevices_243 ?_
                    obtain ⟨I36, hc37, hf⟩ := nm_sd1 hf
                    refine nm_callv (nm_runV (X := X) (nl := moN) (k_X12_ends (hf := hc37)) hx hb hml hown hts hs0 hK hZ hH tw_1426 tw_1423 tw_1425 (sw_X12_ends) tw_9 hd_X12_ends mo_n0 mo_k0 (by decide) rfl rfl rfl ⟨Nat.le_trans (Nat.le_of_ble_eq_true rfl) hRf, Nat.le_trans (Nat.le_of_ble_eq_true rfl) hRl⟩ rfl hl.1 rfl (Nat.le_of_ble_eq_true rfl) dX12_findDevices_244 ⟨Nat.zero_le _, Nat.zero_le _⟩) hH (fun H locs hH => ?_)
                    have hH : nm_H D Y (fun q => s0 ≤ q) s.heap X moN ad (I36, nJ0, moZ) H locs := hH
                    exact hJ247  I36 _ _ _ hH (lv_sub hl [0, 1] rfl) hf
                refine lv_icmp_lt (tgt := 226) hx hb dX12_findDevices_209 (by decide) (fun c38 => ?_) (fun c38 => ?_)
                · have hf := nm_it c38 hf
                  exact hJ226  I32 _ _ _ hH (lv_sub hl [0, 1, 2] rfl) hf
                · have hf := nm_ie c38 hf
                  refine lv_aload_n hx hb dX12_findDevices_212 rfl (lv_at hl 0 rfl) ?_
                  refine lv_aload_n hx hb dX12_findDevices_213 rfl (lv_at hl 0 rfl) ?_
                  refine gf_12_27 hK hx hb hts hown hH mo_n0 mo_k0 (hts _ tw_983) (fun _ h9 => h9) dX12_findDevices_214 ?_
                  refine lv_iload_n hx hb dX12_findDevices_217 rfl (lv_at hl 1 rfl) ?_
                  obtain ⟨hi39, hf⟩ := nm_chk hf
                  refine nm_iald hx hb hK hH mo_n28 mo_k28 mo_l28 hi39 dX12_findDevices_218 ?_
                  refine lv_iload_n hx hb dX12_findDevices_219 rfl (lv_at hl 2 rfl) ?_
                  refine lv_bipush (v := 64) hx hb dX12_findDevices_220 (by decide) ?_
                  refine lv_isub hx hb dX12_findDevices_222 ?_
                  obtain ⟨I40, hc41, hf⟩ := nm_sd1 hf
                  refine nm_callv (nm_runV (X := X) (nl := moN) (k_X12_ends (hf := hc41)) hx hb hml hown hts hs0 hK hZ hH tw_1426 tw_1423 tw_1425 (sw_X12_ends) tw_9 hd_X12_ends mo_n0 mo_k0 (by decide) rfl rfl rfl ⟨Nat.le_trans (Nat.le_of_ble_eq_true rfl) hRf, Nat.le_trans (Nat.le_of_ble_eq_true rfl) hRl⟩ rfl hl.1 rfl (Nat.le_of_ble_eq_true rfl) dX12_findDevices_223 ⟨Nat.zero_le _, Nat.zero_le _⟩) hH (fun H locs hH => ?_)
                  have hH : nm_H D Y (fun q => s0 ≤ q) s.heap X moN ad (I40, nJ0, moZ) H locs := hH
                  exact hJ226  I40 _ _ _ hH (lv_sub hl [0, 1, 2] rfl) hf
              refine lv_icmp_ge (tgt := 206) hx hb dX12_findDevices_190 (by decide) (fun c42 => ?_) (fun c42 => ?_)
              · have hf := nm_it c42 hf
                exact hJ206  I31 _ _ _ hH (lv_sub hl [0, 1, 2] rfl) hf
              · have hf := nm_ie c42 hf
                refine lv_aload_n hx hb dX12_findDevices_193 rfl (lv_at hl 0 rfl) ?_
                refine lv_aload_n hx hb dX12_findDevices_194 rfl (lv_at hl 0 rfl) ?_
                refine gf_12_27 hK hx hb hts hown hH mo_n0 mo_k0 (hts _ tw_983) (fun _ h9 => h9) dX12_findDevices_195 ?_
                refine lv_iload_n hx hb dX12_findDevices_198 rfl (lv_at hl 1 rfl) ?_
                obtain ⟨hi43, hf⟩ := nm_chk hf
                refine nm_iald hx hb hK hH mo_n28 mo_k28 mo_l28 hi43 dX12_findDevices_199 ?_
                refine lv_iload_n hx hb dX12_findDevices_200 rfl (lv_at hl 2 rfl) ?_
                refine lv_iconst (v := 1) hx hb dX12_findDevices_201 (by decide) ?_
                refine lv_iadd hx hb dX12_findDevices_202 ?_
                obtain ⟨I44, hc45, hf⟩ := nm_sd1 hf
                refine nm_callv (nm_runV (X := X) (nl := moN) (k_X12_ends (hf := hc45)) hx hb hml hown hts hs0 hK hZ hH tw_1426 tw_1423 tw_1425 (sw_X12_ends) tw_9 hd_X12_ends mo_n0 mo_k0 (by decide) rfl rfl rfl ⟨Nat.le_trans (Nat.le_of_ble_eq_true rfl) hRf, Nat.le_trans (Nat.le_of_ble_eq_true rfl) hRl⟩ rfl hl.1 rfl (Nat.le_of_ble_eq_true rfl) dX12_findDevices_203 ⟨Nat.zero_le _, Nat.zero_le _⟩) hH (fun H locs hH => ?_)
                have hH : nm_H D Y (fun q => s0 ≤ q) s.heap X moN ad (I44, nJ0, moZ) H locs := hH
                exact hJ206  I44 _ _ _ hH (lv_sub hl [0, 1, 2] rfl) hf
            refine lv_if_le (tgt := 184) hx hb dX12_findDevices_168 (by decide) (fun c46 => ?_) (fun c46 => ?_)
            · have hf := nm_it c46 hf
              exact hJ184  I29 _ _ _ hH (lv_sub hl [1, 2, 0] rfl) hf
            · have hf := nm_ie c46 hf
              refine lv_aload_n hx hb dX12_findDevices_171 rfl (lv_at hl 1 rfl) ?_
              refine lv_aload_n hx hb dX12_findDevices_172 rfl (lv_at hl 1 rfl) ?_
              refine gf_12_27 hK hx hb hts hown hH mo_n0 mo_k0 (hts _ tw_983) (fun _ h9 => h9) dX12_findDevices_173 ?_
              refine lv_iload_n hx hb dX12_findDevices_176 rfl (lv_at hl 2 rfl) ?_
              obtain ⟨hi47, hf⟩ := nm_chk hf
              refine nm_iald hx hb hK hH mo_n28 mo_k28 mo_l28 hi47 dX12_findDevices_177 ?_
              refine lv_iload_n hx hb dX12_findDevices_178 rfl (lv_at hl 0 rfl) ?_
              refine lv_iconst (v := 1) hx hb dX12_findDevices_179 (by decide) ?_
              refine lv_isub hx hb dX12_findDevices_180 ?_
              obtain ⟨I48, hc49, hf⟩ := nm_sd1 hf
              refine nm_callv (nm_runV (X := X) (nl := moN) (k_X12_ends (hf := hc49)) hx hb hml hown hts hs0 hK hZ hH tw_1426 tw_1423 tw_1425 (sw_X12_ends) tw_9 hd_X12_ends mo_n0 mo_k0 (by decide) rfl rfl rfl ⟨Nat.le_trans (Nat.le_of_ble_eq_true rfl) hRf, Nat.le_trans (Nat.le_of_ble_eq_true rfl) hRl⟩ rfl hl.1 rfl (Nat.le_of_ble_eq_true rfl) dX12_findDevices_181 ⟨Nat.zero_le _, Nat.zero_le _⟩) hH (fun H locs hH => ?_)
              have hH : nm_H D Y (fun q => s0 ≤ q) s.heap X moN ad (I48, nJ0, moZ) H locs := hH
              exact hJ184  I48 _ _ _ hH (lv_sub hl [1, 2, 0] rfl) hf
          · have hf := nm_ie c26 hf
            refine lv_goto (tgt := 247) hx hb dX12_findDevices_139 (by decide) ?_
            exact hJ247  I22 _ _ _ hH (lv_sub hl [0, 1] rfl) hf
    obtain ⟨I50, hl51, hf⟩ := nm_sd1 hf
    refine hL123 nm_F (0 : Int32) I21 _ _ _ _ hH (lv_sub hl [1, 0] rfl) hl51 (fun H locs ls hH hl => ?_)
    have hl : lv_has ls 3 [] := hl
    have hH : nm_H D Y (fun q => s0 ≤ q) s.heap X moN ad (I50, nJ0, moZ) H locs := hH
    exact nm_vret hx hb hr hlocks hQ hH (congrArg (fun q => (q, nJ0, moZ)) (Option.some.inj hf)) dX12_findDevices_253
  · have hf := nm_ie c2 hf
    exact nm_vret hx hb hr hlocks hQ hH (congrArg (fun q => (q, nJ0, moZ)) (Option.some.inj hf)) dX12_findDevices_12
def f_X12_circuit_L42  : Nat → Int32 → nm_I → Option (nm_I)
  | 0, _, _ => none
  | n42 + 1, x1, I2 =>
    (if (16 : Int32) ≤ x1 then
    some I2
    else
    nm_c x1 16 (
    nm_c x1 16 (
    nm_l (nm_up I2 50 x1.toNatClampNeg (vp_nar .boolean (I2 49 x1.toNatClampNeg))) fun I6 =>
    f_X12_circuit_L42 n42 (x1 + 1) I6)))
def f_X12_circuit_J40 (I : nm_I) : Option (Int32 × nm_I) :=
nm_s1 (f_X12_circuit_L42 nm_F (0 : Int32) I) fun I7 =>
nm_s1 (f_X12_findNets I7) fun I8 =>
nm_s1 (f_X12_findDevices I8) fun I10 =>
nm_l (nm_up I10 0 22 (1 : Int32)) fun I12 =>
nm_l (nm_up I12 0 72 (0 : Int32)) fun I13 =>
some (I13 0 57, I13)
def f_X12_circuit (I : nm_I) : Option (Int32 × nm_I) :=
(if (I 0 20) = 0 then
nm_s2 (f_X12_no (-2 : Int32) I) fun r23 I21 =>
some (r23, I21)
else
(if (I 0 54) < 0 then
f_X12_circuit_J40 I
else
nm_c (I 0 56) 16 (
(if (I 49 (I 0 56).toNatClampNeg) = 0 then
nm_s2 (f_X12_no (-7 : Int32) I) fun r20 I18 =>
some (r20, I18)
else
f_X12_circuit_J40 I))))
set_option maxHeartbeats 4000000 in
set_option maxRecDepth 100000 in
theorem k_X12_circuit {l : Launch} {D : va_G} {Y : nm_Y} {s0 : Nat} {X : va_W} {ad : Nat → Nat}  {I : nm_I} {r0 : Int32} {M0 : nm_I} (hf : f_X12_circuit I = some (r0, M0)) :
    nm_Met l yX12_circuit cX12_circuit 2 (some .int) { frames := 3, cells := 0, slots := 0, locals := 72 } [.ref (ad 0)] D Y s0 (nm_W Y X moN ad (I, nJ0, moZ)) (nm_Qi D s0 r0 (nm_W Y X moN ad (M0, nJ0, moZ))) 0 0 := by
  refine nm_of (by decide) (Nat.le_of_ble_eq_true rfl) ?_
  intro p e R s m args below meth c Q ls hx hb hr hlocks hml hown hts hs0 hK hZ hRf hRl hRc hRs hQ hP hD hl
  have hH : nm_H D Y (fun q => s0 ≤ q) s.heap X moN ad (I, nJ0, moZ) s.heap [] := ⟨hP, hD, va_S.rf⟩
  have hl : lv_has ls 2 [(0, .ref (ad 0))] := hl
  unfold f_X12_circuit at hf
  refine lv_aload_n hx hb dX12_circuit_0 rfl (lv_at hl 0 rfl) ?_
  refine gf_12_20 hK hx hb hts hown hH mo_n0 mo_k0 (hts _ tw_976) (fun _ h9 => h9) dX12_circuit_1 ?_
  refine lv_if_ne (tgt := 14) hx hb dX12_circuit_4 (by decide) (fun c1 => ?_) (fun c1 => ?_)
  · have hf := nm_ie c1 hf
    refine lv_aload_n hx hb dX12_circuit_14 rfl (lv_at hl 0 rfl) ?_
    refine gf_12_54 hK hx hb hts hown hH mo_n0 mo_k0 (hts _ tw_1009) (fun _ h9 => h9) dX12_circuit_15 ?_
    have hJ40 : ∀  (H : Heap) (locs : List Loc) (ls : Array Slot), nm_H D Y (fun q => s0 ≤ q) s.heap X moN ad (I, nJ0, moZ) H locs → lv_has ls 2 [(0, .ref (ad 0))] → f_X12_circuit_J40 I = some (r0, M0) → W p l e R s m args below meth c H locs 0 0 Q (F0 m 40 ls []) := by
      intro  H locs ls hH hl hf
      unfold f_X12_circuit_J40 at hf
      refine lv_iconst (v := 0) hx hb dX12_circuit_40 (by decide) ?_
      refine lv_istore_n (lv' := [(1, .int (0 : Int32)), (0, .ref (ad 0))]) hx hb dX12_circuit_41 rfl hl (by decide) rfl (fun ls hl => ?_)
      have hL42 : ∀ (n42 : Nat) (x1 : Int32) (I2 : nm_I) (H : Heap) (locs : List Loc) (ls : Array Slot) (o42 : nm_I), nm_H D Y (fun q => s0 ≤ q) s.heap X moN ad (I2, nJ0, moZ) H locs → lv_has ls 2 [(0, .ref (ad 0)), (1, .int x1)] → f_X12_circuit_L42 n42 x1 I2 = some o42 → (∀ (H : Heap) (locs : List Loc) (ls : Array Slot), nm_H D Y (fun q => s0 ≤ q) s.heap X moN ad (o42, nJ0, moZ) H locs → lv_has ls 2 [(0, .ref (ad 0))] → W p l e R s m args below meth c H locs 0 0 Q (F0 m 66 ls [])) → W p l e R s m args below meth c H locs 0 0 Q (F0 m 42 ls []) := by
        intro n42
        induction n42 with
        | zero =>
          intro x1 I2 H locs ls o42 hH hl hf hX42
          cases hf
        | succ n42 ih42 =>
          intro x1 I2 H locs ls o42 hH hl hf hX42
          rw [f_X12_circuit_L42] at hf
          refine lv_iload_n hx hb dX12_circuit_42 rfl (lv_at hl 1 rfl) ?_
          refine lv_bipush (v := 16) hx hb dX12_circuit_43 (by decide) ?_
          refine lv_icmp_ge (tgt := 66) hx hb dX12_circuit_45 (by decide) (fun c3 => ?_) (fun c3 => ?_)
          · have hf := nm_it c3 hf
            cases hf
            exact hX42 _ _ _ hH (lv_sub hl [0] rfl)
          · have hf := nm_ie c3 hf
            refine lv_aload_n hx hb dX12_circuit_48 rfl (lv_at hl 0 rfl) ?_
            refine gf_12_49 hK hx hb hts hown hH mo_n0 mo_k0 (hts _ tw_1004) (fun _ h9 => h9) dX12_circuit_49 ?_
            refine lv_iload_n hx hb dX12_circuit_52 rfl (lv_at hl 1 rfl) ?_
            refine lv_aload_n hx hb dX12_circuit_53 rfl (lv_at hl 0 rfl) ?_
            refine gf_12_48 hK hx hb hts hown hH mo_n0 mo_k0 (hts _ tw_1003) (fun _ h9 => h9) dX12_circuit_54 ?_
            refine lv_iload_n hx hb dX12_circuit_57 rfl (lv_at hl 1 rfl) ?_
            obtain ⟨hi4, hf⟩ := nm_chk hf
            refine nm_zald hx hb hK hH mo_n49 mo_k49 mo_l49 hi4 dX12_circuit_58 ?_
            obtain ⟨hi5, hf⟩ := nm_chk hf
            obtain ⟨I6, eI6, hf⟩ := nm_let hf
            refine nm_zast hx hb hK hH mo_n50 mo_k50 mo_l50 hi5 dX12_circuit_59 (fun H locs hH => ?_)
            have hH : nm_H D Y (fun q => s0 ≤ q) s.heap X moN ad (I6, nJ0, moZ) H locs := by rw [eI6]; exact hH
            refine lv_iinc (v := x1 + 1) (lv' := [(1, .int (x1 + 1)), (0, .ref (ad 0))]) hx hb dX12_circuit_60 hl (k := 1) rfl rfl (by decide) rfl (fun ls hl => ?_)
            refine lv_goto (tgt := 42) hx hb dX12_circuit_63 (by decide) ?_
            exact ih42 (x1 + 1) I6 _ _ _ _ hH (lv_sub hl [1, 0] rfl) hf hX42
      obtain ⟨I7, hl14, hf⟩ := nm_sd1 hf
      refine hL42 nm_F (0 : Int32) I _ _ _ _ hH (lv_sub hl [1, 0] rfl) hl14 (fun H locs ls hH hl => ?_)
      have hl : lv_has ls 2 [(0, .ref (ad 0))] := hl
      have hH : nm_H D Y (fun q => s0 ≤ q) s.heap X moN ad (I7, nJ0, moZ) H locs := hH
      refine lv_aload_n hx hb dX12_circuit_66 rfl (lv_at hl 0 rfl) ?_
      obtain ⟨I8, hc9, hf⟩ := nm_sd1 hf
      refine nm_callv (nm_runV (X := X) (nl := moN) (k_X12_findNets (hf := hc9)) hx hb hml hown hts hs0 hK hZ hH tw_1410 tw_1407 tw_1409 (sw_X12_findNets) tw_9 hd_X12_findNets mo_n0 mo_k0 (by decide) rfl rfl rfl ⟨Nat.le_trans (Nat.le_of_ble_eq_true rfl) hRf, Nat.le_trans (Nat.le_of_ble_eq_true rfl) hRl⟩ rfl hl.1 rfl (Nat.le_of_ble_eq_true rfl) dX12_circuit_67 ⟨Nat.zero_le _, Nat.zero_le _⟩) hH (fun H locs hH => ?_)
      have hH : nm_H D Y (fun q => s0 ≤ q) s.heap X moN ad (I8, nJ0, moZ) H locs := hH
      refine lv_aload_n hx hb dX12_circuit_70 rfl (lv_at hl 0 rfl) ?_
      obtain ⟨I10, hc11, hf⟩ := nm_sd1 hf
      refine nm_callv (nm_runV (X := X) (nl := moN) (k_X12_findDevices (hf := hc11)) hx hb hml hown hts hs0 hK hZ hH tw_1422 tw_1419 tw_1421 (sw_X12_findDevices) tw_9 hd_X12_findDevices mo_n0 mo_k0 (by decide) rfl rfl rfl ⟨Nat.le_trans (Nat.le_of_ble_eq_true rfl) hRf, Nat.le_trans (Nat.le_of_ble_eq_true rfl) hRl⟩ rfl hl.1 rfl (Nat.le_of_ble_eq_true rfl) dX12_circuit_71 ⟨Nat.zero_le _, Nat.zero_le _⟩) hH (fun H locs hH => ?_)
      have hH : nm_H D Y (fun q => s0 ≤ q) s.heap X moN ad (I10, nJ0, moZ) H locs := hH
      refine lv_aload_n hx hb dX12_circuit_74 rfl (lv_at hl 0 rfl) ?_
      refine lv_iconst (v := 1) hx hb dX12_circuit_75 (by decide) ?_
      obtain ⟨I12, eI12, hf⟩ := nm_let hf
      refine pf_12_22 hK hx hb hts hown hH mo_n0 mo_k0 (hts _ tw_978) (fun _ h9 => h9) rfl rfl dX12_circuit_76 (fun H locs hH => ?_)
      have hH : nm_H D Y (fun q => s0 ≤ q) s.heap X moN ad (I12, nJ0, moZ) H locs := by rw [eI12]; exact hH
      refine lv_aload_n hx hb dX12_circuit_79 rfl (lv_at hl 0 rfl) ?_
      refine lv_iconst (v := 0) hx hb dX12_circuit_80 (by decide) ?_
      obtain ⟨I13, eI13, hf⟩ := nm_let hf
      refine pf_12_72 hK hx hb hts hown hH mo_n0 mo_k0 (hts _ tw_1027) (fun _ h9 => h9) rfl rfl dX12_circuit_81 (fun H locs hH => ?_)
      have hH : nm_H D Y (fun q => s0 ≤ q) s.heap X moN ad (I13, nJ0, moZ) H locs := by rw [eI13]; exact hH
      refine lv_aload_n hx hb dX12_circuit_84 rfl (lv_at hl 0 rfl) ?_
      refine gf_12_57 hK hx hb hts hown hH mo_n0 mo_k0 (hts _ tw_1012) (fun _ h9 => h9) dX12_circuit_85 ?_
      exact nm_iret hx hb hr hlocks hQ hH (congrArg Prod.fst (Option.some.inj hf)) (congrArg (fun q => (q.2, nJ0, moZ)) (Option.some.inj hf)) dX12_circuit_88
    refine lv_if_lt (tgt := 40) hx hb dX12_circuit_18 (by decide) (fun c15 => ?_) (fun c15 => ?_)
    · have hf := nm_it c15 hf
      exact hJ40  _ _ _ hH (lv_sub hl [0] rfl) hf
    · have hf := nm_ie c15 hf
      refine lv_aload_n hx hb dX12_circuit_21 rfl (lv_at hl 0 rfl) ?_
      refine gf_12_48 hK hx hb hts hown hH mo_n0 mo_k0 (hts _ tw_1003) (fun _ h9 => h9) dX12_circuit_22 ?_
      refine lv_aload_n hx hb dX12_circuit_25 rfl (lv_at hl 0 rfl) ?_
      refine gf_12_56 hK hx hb hts hown hH mo_n0 mo_k0 (hts _ tw_1011) (fun _ h9 => h9) dX12_circuit_26 ?_
      obtain ⟨hi16, hf⟩ := nm_chk hf
      refine nm_zald hx hb hK hH mo_n49 mo_k49 mo_l49 hi16 dX12_circuit_29 ?_
      refine lv_if_ne (tgt := 40) hx hb dX12_circuit_30 (by decide) (fun c17 => ?_) (fun c17 => ?_)
      · have hf := nm_ie c17 hf
        exact hJ40  _ _ _ hH (lv_sub hl [0] rfl) hf
      · have hf := nm_it c17 hf
        refine lv_aload_n hx hb dX12_circuit_33 rfl (lv_at hl 0 rfl) ?_
        refine lv_bipush (v := -7) hx hb dX12_circuit_34 (by decide) ?_
        obtain ⟨r20, I18, hc19, hf⟩ := nm_sd2 hf
        refine nm_calli (nm_runV (X := X) (nl := moN) (k_X12_no (hf := hc19)) hx hb hml hown hts hs0 hK hZ hH tw_1214 tw_1211 tw_1213 (sw_X12_no) tw_9 hd_X12_no mo_n0 mo_k0 (by decide) rfl rfl rfl ⟨Nat.le_trans (Nat.le_of_ble_eq_true rfl) hRf, Nat.le_trans (Nat.le_of_ble_eq_true rfl) hRl⟩ rfl hl.1 rfl (Nat.le_of_ble_eq_true rfl) dX12_circuit_36 ⟨Nat.zero_le _, Nat.zero_le _⟩) hH (fun H locs hH => ?_)
        have hH : nm_H D Y (fun q => s0 ≤ q) s.heap X moN ad (I18, nJ0, moZ) H locs := hH
        exact nm_iret hx hb hr hlocks hQ hH (congrArg Prod.fst (Option.some.inj hf)) (congrArg (fun q => (q.2, nJ0, moZ)) (Option.some.inj hf)) dX12_circuit_39
  · have hf := nm_it c1 hf
    refine lv_aload_n hx hb dX12_circuit_7 rfl (lv_at hl 0 rfl) ?_
    refine lv_bipush (v := -2) hx hb dX12_circuit_8 (by decide) ?_
    obtain ⟨r23, I21, hc22, hf⟩ := nm_sd2 hf
    refine nm_calli (nm_runV (X := X) (nl := moN) (k_X12_no (hf := hc22)) hx hb hml hown hts hs0 hK hZ hH tw_1214 tw_1211 tw_1213 (sw_X12_no) tw_9 hd_X12_no mo_n0 mo_k0 (by decide) rfl rfl rfl ⟨Nat.le_trans (Nat.le_of_ble_eq_true rfl) hRf, Nat.le_trans (Nat.le_of_ble_eq_true rfl) hRl⟩ rfl hl.1 rfl (Nat.le_of_ble_eq_true rfl) dX12_circuit_10 ⟨Nat.zero_le _, Nat.zero_le _⟩) hH (fun H locs hH => ?_)
    have hH : nm_H D Y (fun q => s0 ≤ q) s.heap X moN ad (I21, nJ0, moZ) H locs := hH
    exact nm_iret hx hb hr hlocks hQ hH (congrArg Prod.fst (Option.some.inj hf)) (congrArg (fun q => (q.2, nJ0, moZ)) (Option.some.inj hf)) dX12_circuit_13
def f_X12_net (x1 : Int32) (x2 : Int32) (I : nm_I) : Option (Int32 × nm_I) :=
(if (f_X12_isLayer x1) = 0 then
nm_s2 (f_X12_no (-3 : Int32) I) fun r4 I2 =>
some (r4, I2)
else
(if (f_X12_isSquare x2) = 0 then
nm_s2 (f_X12_no (-3 : Int32) I) fun r18 I16 =>
some (r18, I16)
else
(if (I 0 22) = 0 then
nm_s2 (f_X12_no (-2 : Int32) I) fun r15 I13 =>
some (r15, I13)
else
nm_c x1 16 (
(if (I 50 x1.toNatClampNeg) = 0 then
nm_s2 (f_X12_no (-7 : Int32) I) fun r11 I9 =>
some (r11, I9)
else
nm_c (((4096 : Int32) * x1) + x2) 65536 (
some (I 59 (((4096 : Int32) * x1) + x2).toNatClampNeg, I)))))))
set_option maxHeartbeats 4000000 in
set_option maxRecDepth 100000 in
theorem k_X12_net {l : Launch} {D : va_G} {Y : nm_Y} {s0 : Nat} {X : va_W} {ad : Nat → Nat}  {x1 : Int32} {x2 : Int32} {I : nm_I} {r0 : Int32} {M0 : nm_I} (hf : f_X12_net x1 x2 I = some (r0, M0)) :
    nm_Met l yX12_net cX12_net 3 (some .int) { frames := 1, cells := 0, slots := 0, locals := 21 } [.ref (ad 0), .int x1, .int x2] D Y s0 (nm_W Y X moN ad (I, nJ0, moZ)) (nm_Qi D s0 r0 (nm_W Y X moN ad (M0, nJ0, moZ))) 0 0 := by
  refine nm_of (by decide) (Nat.le_of_ble_eq_true rfl) ?_
  intro p e R s m args below meth c Q ls hx hb hr hlocks hml hown hts hs0 hK hZ hRf hRl hRc hRs hQ hP hD hl
  have hH : nm_H D Y (fun q => s0 ≤ q) s.heap X moN ad (I, nJ0, moZ) s.heap [] := ⟨hP, hD, va_S.rf⟩
  have hl : lv_has ls 3 [(0, .ref (ad 0)), (1, .int x1), (2, .int x2)] := hl
  unfold f_X12_net at hf
  refine lv_iload_n hx hb dX12_net_0 rfl (lv_at hl 1 rfl) ?_
  refine nm_calli (nm_runS (X := X) (nl := moN) (k_X12_isLayer (hf := (rfl : f_X12_isLayer x1 = _))) hx hb hml hown hts hs0 hK hZ hH tw_1231 tw_1229 tw_1230 tw_9 hd_X12_isLayer rfl rfl ⟨Nat.le_trans (Nat.le_of_ble_eq_true rfl) hRf, Nat.le_trans (Nat.le_of_ble_eq_true rfl) hRl⟩ rfl hl.1 rfl (Nat.le_of_ble_eq_true rfl) dX12_net_1 ⟨Nat.zero_le _, Nat.zero_le _⟩) hH (fun H locs hH => ?_)
  have hH : nm_H D Y (fun q => s0 ≤ q) s.heap X moN ad (I, nJ0, moZ) H locs := hH
  refine lv_if_eq (tgt := 14) hx hb dX12_net_4 (by decide) (fun c1 => ?_) (fun c1 => ?_)
  · have hf := nm_it c1 hf
    refine lv_aload_n hx hb dX12_net_14 rfl (lv_at hl 0 rfl) ?_
    refine lv_bipush (v := -3) hx hb dX12_net_15 (by decide) ?_
    obtain ⟨r4, I2, hc3, hf⟩ := nm_sd2 hf
    refine nm_calli (nm_runV (X := X) (nl := moN) (k_X12_no (hf := hc3)) hx hb hml hown hts hs0 hK hZ hH tw_1214 tw_1211 tw_1213 (sw_X12_no) tw_9 hd_X12_no mo_n0 mo_k0 (by decide) rfl rfl rfl ⟨Nat.le_trans (Nat.le_of_ble_eq_true rfl) hRf, Nat.le_trans (Nat.le_of_ble_eq_true rfl) hRl⟩ rfl hl.1 rfl (Nat.le_of_ble_eq_true rfl) dX12_net_17 ⟨Nat.zero_le _, Nat.zero_le _⟩) hH (fun H locs hH => ?_)
    have hH : nm_H D Y (fun q => s0 ≤ q) s.heap X moN ad (I2, nJ0, moZ) H locs := hH
    exact nm_iret hx hb hr hlocks hQ hH (congrArg Prod.fst (Option.some.inj hf)) (congrArg (fun q => (q.2, nJ0, moZ)) (Option.some.inj hf)) dX12_net_20
  · have hf := nm_ie c1 hf
    refine lv_iload_n hx hb dX12_net_7 rfl (lv_at hl 2 rfl) ?_
    refine nm_calli (nm_runS (X := X) (nl := moN) (k_X12_isSquare (hf := (rfl : f_X12_isSquare x2 = _))) hx hb hml hown hts hs0 hK hZ hH tw_1210 tw_1208 tw_1209 tw_9 hd_X12_isSquare rfl rfl ⟨Nat.le_trans (Nat.le_of_ble_eq_true rfl) hRf, Nat.le_trans (Nat.le_of_ble_eq_true rfl) hRl⟩ rfl hl.1 rfl (Nat.le_of_ble_eq_true rfl) dX12_net_8 ⟨Nat.zero_le _, Nat.zero_le _⟩) hH (fun H locs hH => ?_)
    have hH : nm_H D Y (fun q => s0 ≤ q) s.heap X moN ad (I, nJ0, moZ) H locs := hH
    refine lv_if_ne (tgt := 21) hx hb dX12_net_11 (by decide) (fun c5 => ?_) (fun c5 => ?_)
    · have hf := nm_ie c5 hf
      refine lv_aload_n hx hb dX12_net_21 rfl (lv_at hl 0 rfl) ?_
      refine gf_12_22 hK hx hb hts hown hH mo_n0 mo_k0 (hts _ tw_978) (fun _ h9 => h9) dX12_net_22 ?_
      refine lv_if_ne (tgt := 35) hx hb dX12_net_25 (by decide) (fun c6 => ?_) (fun c6 => ?_)
      · have hf := nm_ie c6 hf
        refine lv_aload_n hx hb dX12_net_35 rfl (lv_at hl 0 rfl) ?_
        refine gf_12_49 hK hx hb hts hown hH mo_n0 mo_k0 (hts _ tw_1004) (fun _ h9 => h9) dX12_net_36 ?_
        refine lv_iload_n hx hb dX12_net_39 rfl (lv_at hl 1 rfl) ?_
        obtain ⟨hi7, hf⟩ := nm_chk hf
        refine nm_zald hx hb hK hH mo_n50 mo_k50 mo_l50 hi7 dX12_net_40 ?_
        refine lv_if_eq (tgt := 59) hx hb dX12_net_41 (by decide) (fun c8 => ?_) (fun c8 => ?_)
        · have hf := nm_it c8 hf
          refine lv_aload_n hx hb dX12_net_59 rfl (lv_at hl 0 rfl) ?_
          refine lv_bipush (v := -7) hx hb dX12_net_60 (by decide) ?_
          obtain ⟨r11, I9, hc10, hf⟩ := nm_sd2 hf
          refine nm_calli (nm_runV (X := X) (nl := moN) (k_X12_no (hf := hc10)) hx hb hml hown hts hs0 hK hZ hH tw_1214 tw_1211 tw_1213 (sw_X12_no) tw_9 hd_X12_no mo_n0 mo_k0 (by decide) rfl rfl rfl ⟨Nat.le_trans (Nat.le_of_ble_eq_true rfl) hRf, Nat.le_trans (Nat.le_of_ble_eq_true rfl) hRl⟩ rfl hl.1 rfl (Nat.le_of_ble_eq_true rfl) dX12_net_62 ⟨Nat.zero_le _, Nat.zero_le _⟩) hH (fun H locs hH => ?_)
          have hH : nm_H D Y (fun q => s0 ≤ q) s.heap X moN ad (I9, nJ0, moZ) H locs := hH
          exact nm_iret hx hb hr hlocks hQ hH (congrArg Prod.fst (Option.some.inj hf)) (congrArg (fun q => (q.2, nJ0, moZ)) (Option.some.inj hf)) dX12_net_65
        · have hf := nm_ie c8 hf
          refine lv_aload_n hx hb dX12_net_44 rfl (lv_at hl 0 rfl) ?_
          refine gf_12_58 hK hx hb hts hown hH mo_n0 mo_k0 (hts _ tw_1013) (fun _ h9 => h9) dX12_net_45 ?_
          refine lv_sipush (v := 4096) hx hb dX12_net_48 (by decide) ?_
          refine lv_iload_n hx hb dX12_net_51 rfl (lv_at hl 1 rfl) ?_
          refine lv_imul hx hb dX12_net_52 ?_
          refine lv_iload_n hx hb dX12_net_53 rfl (lv_at hl 2 rfl) ?_
          refine lv_iadd hx hb dX12_net_54 ?_
          obtain ⟨hi12, hf⟩ := nm_chk hf
          refine nm_iald hx hb hK hH mo_n59 mo_k59 mo_l59 hi12 dX12_net_55 ?_
          refine lv_goto (tgt := 65) hx hb dX12_net_56 (by decide) ?_
          exact nm_iret hx hb hr hlocks hQ hH (congrArg Prod.fst (Option.some.inj hf)) (congrArg (fun q => (q.2, nJ0, moZ)) (Option.some.inj hf)) dX12_net_65
      · have hf := nm_it c6 hf
        refine lv_aload_n hx hb dX12_net_28 rfl (lv_at hl 0 rfl) ?_
        refine lv_bipush (v := -2) hx hb dX12_net_29 (by decide) ?_
        obtain ⟨r15, I13, hc14, hf⟩ := nm_sd2 hf
        refine nm_calli (nm_runV (X := X) (nl := moN) (k_X12_no (hf := hc14)) hx hb hml hown hts hs0 hK hZ hH tw_1214 tw_1211 tw_1213 (sw_X12_no) tw_9 hd_X12_no mo_n0 mo_k0 (by decide) rfl rfl rfl ⟨Nat.le_trans (Nat.le_of_ble_eq_true rfl) hRf, Nat.le_trans (Nat.le_of_ble_eq_true rfl) hRl⟩ rfl hl.1 rfl (Nat.le_of_ble_eq_true rfl) dX12_net_31 ⟨Nat.zero_le _, Nat.zero_le _⟩) hH (fun H locs hH => ?_)
        have hH : nm_H D Y (fun q => s0 ≤ q) s.heap X moN ad (I13, nJ0, moZ) H locs := hH
        exact nm_iret hx hb hr hlocks hQ hH (congrArg Prod.fst (Option.some.inj hf)) (congrArg (fun q => (q.2, nJ0, moZ)) (Option.some.inj hf)) dX12_net_34
    · have hf := nm_it c5 hf
      refine lv_aload_n hx hb dX12_net_14 rfl (lv_at hl 0 rfl) ?_
      refine lv_bipush (v := -3) hx hb dX12_net_15 (by decide) ?_
      obtain ⟨r18, I16, hc17, hf⟩ := nm_sd2 hf
      refine nm_calli (nm_runV (X := X) (nl := moN) (k_X12_no (hf := hc17)) hx hb hml hown hts hs0 hK hZ hH tw_1214 tw_1211 tw_1213 (sw_X12_no) tw_9 hd_X12_no mo_n0 mo_k0 (by decide) rfl rfl rfl ⟨Nat.le_trans (Nat.le_of_ble_eq_true rfl) hRf, Nat.le_trans (Nat.le_of_ble_eq_true rfl) hRl⟩ rfl hl.1 rfl (Nat.le_of_ble_eq_true rfl) dX12_net_17 ⟨Nat.zero_le _, Nat.zero_le _⟩) hH (fun H locs hH => ?_)
      have hH : nm_H D Y (fun q => s0 ≤ q) s.heap X moN ad (I16, nJ0, moZ) H locs := hH
      exact nm_iret hx hb hr hlocks hQ hH (congrArg Prod.fst (Option.some.inj hf)) (congrArg (fun q => (q.2, nJ0, moZ)) (Option.some.inj hf)) dX12_net_20
def f_X12_name_J108 (x3 : Int32) (x4 : Int32) (I : nm_I) (k : Int32 → Int32 → Option (Int32 × nm_I)) (kx53 : Unit → Option (Int32 × nm_I)) : Option (Int32 × nm_I) :=
k x3 (x4 + 1)
def f_X12_name_L53 (x1 : Int32) (I : nm_I) (kx53 : Unit → Option (Int32 × nm_I)) : Nat → Int32 → Int32 → Option (Int32 × nm_I)
  | 0, _, _ => none
  | n53 + 1, x3, x4 =>
    (if (I 0 26) ≤ x4 then
    kx53 ()
    else
    nm_c x4 200 (
    nm_c x4 200 (
    nm_c (((4096 : Int32) * (I 24 x4.toNatClampNeg)) + (I 25 x4.toNatClampNeg)) 65536 (
    (if (I 59 (((4096 : Int32) * (I 24 x4.toNatClampNeg)) + (I 25 x4.toNatClampNeg)).toNatClampNeg) = x1 then
    (if x3 = 0 then
    nm_c x4 200 (
    some (I 26 x4.toNatClampNeg, I))
    else
    f_X12_name_J108 (x3 + (-1)) x4 I (f_X12_name_L53 x1 I kx53 n53) kx53)
    else
    f_X12_name_J108 x3 x4 I (f_X12_name_L53 x1 I kx53 n53) kx53)))))
def f_X12_name (x1 : Int32) (x2 : Int32) (I : nm_I) : Option (Int32 × nm_I) :=
(if (I 0 22) = 0 then
nm_s2 (f_X12_no (-2 : Int32) I) fun r19 I17 =>
some (r19, I17)
else
(if (f_X12_isIn x1.toInt64 (0 : Int64) (((I 0 57) - (1 : Int32)).toInt64)) = 0 then
nm_s2 (f_X12_no (-3 : Int32) I) fun r16 I14 =>
some (r16, I14)
else
(if 0 ≤ x2 then
nm_l (fun (_ : Unit) =>
some ((-1 : Int32), I)) fun kx53 =>
f_X12_name_L53 x1 I kx53 nm_F x2 (0 : Int32)
else
nm_s2 (f_X12_no (-4 : Int32) I) fun r13 I11 =>
some (r13, I11))))
set_option maxHeartbeats 4000000 in
set_option maxRecDepth 100000 in
theorem k_X12_name {l : Launch} {D : va_G} {Y : nm_Y} {s0 : Nat} {X : va_W} {ad : Nat → Nat}  {x1 : Int32} {x2 : Int32} {I : nm_I} {r0 : Int32} {M0 : nm_I} (hf : f_X12_name x1 x2 I = some (r0, M0)) :
    nm_Met l yX12_name cX12_name 5 (some .int) { frames := 1, cells := 0, slots := 0, locals := 25 } [.ref (ad 0), .int x1, .int x2] D Y s0 (nm_W Y X moN ad (I, nJ0, moZ)) (nm_Qi D s0 r0 (nm_W Y X moN ad (M0, nJ0, moZ))) 0 0 := by
  refine nm_of (by decide) (Nat.le_of_ble_eq_true rfl) ?_
  intro p e R s m args below meth c Q ls hx hb hr hlocks hml hown hts hs0 hK hZ hRf hRl hRc hRs hQ hP hD hl
  have hH : nm_H D Y (fun q => s0 ≤ q) s.heap X moN ad (I, nJ0, moZ) s.heap [] := ⟨hP, hD, va_S.rf⟩
  have hl : lv_has ls 5 [(0, .ref (ad 0)), (1, .int x1), (2, .int x2)] := hl
  unfold f_X12_name at hf
  refine lv_aload_n hx hb dX12_name_0 rfl (lv_at hl 0 rfl) ?_
  refine gf_12_22 hK hx hb hts hown hH mo_n0 mo_k0 (hts _ tw_978) (fun _ h9 => h9) dX12_name_1 ?_
  refine lv_if_ne (tgt := 14) hx hb dX12_name_4 (by decide) (fun c1 => ?_) (fun c1 => ?_)
  · have hf := nm_ie c1 hf
    refine lv_iload_n hx hb dX12_name_14 rfl (lv_at hl 1 rfl) ?_
    refine lv_i2l hx hb dX12_name_15 rfl ?_
    refine lv_lconst (v := 0) hx hb dX12_name_16 (by decide) ?_
    refine lv_aload_n hx hb dX12_name_17 rfl (lv_at hl 0 rfl) ?_
    refine gf_12_57 hK hx hb hts hown hH mo_n0 mo_k0 (hts _ tw_1012) (fun _ h9 => h9) dX12_name_18 ?_
    refine lv_iconst (v := 1) hx hb dX12_name_21 (by decide) ?_
    refine lv_isub hx hb dX12_name_22 ?_
    refine lv_i2l hx hb dX12_name_23 rfl ?_
    refine nm_calli (nm_runS (X := X) (nl := moN) (k_X12_isIn (hf := (rfl : f_X12_isIn x1.toInt64 (0 : Int64) (((I 0 57) - (1 : Int32)).toInt64) = _))) hx hb hml hown hts hs0 hK hZ hH tw_1207 tw_1205 tw_1206 tw_9 hd_X12_isIn rfl rfl ⟨Nat.le_trans (Nat.le_of_ble_eq_true rfl) hRf, Nat.le_trans (Nat.le_of_ble_eq_true rfl) hRl⟩ rfl hl.1 rfl (Nat.le_of_ble_eq_true rfl) dX12_name_24 ⟨Nat.zero_le _, Nat.zero_le _⟩) hH (fun H locs hH => ?_)
    have hH : nm_H D Y (fun q => s0 ≤ q) s.heap X moN ad (I, nJ0, moZ) H locs := hH
    refine lv_if_ne (tgt := 37) hx hb dX12_name_27 (by decide) (fun c2 => ?_) (fun c2 => ?_)
    · have hf := nm_ie c2 hf
      refine lv_iload_n hx hb dX12_name_37 rfl (lv_at hl 2 rfl) ?_
      refine lv_if_ge (tgt := 48) hx hb dX12_name_38 (by decide) (fun c3 => ?_) (fun c3 => ?_)
      · have hf := nm_it c3 hf
        refine lv_iload_n hx hb dX12_name_48 rfl (lv_at hl 2 rfl) ?_
        refine lv_istore_n (lv' := [(3, .int x2), (0, .ref (ad 0)), (1, .int x1), (2, .int x2)]) hx hb dX12_name_49 rfl hl (by decide) rfl (fun ls hl => ?_)
        refine lv_iconst (v := 0) hx hb dX12_name_50 (by decide) ?_
        refine lv_istore (lv' := [(4, .int (0 : Int32)), (3, .int x2), (0, .ref (ad 0)), (1, .int x1), (2, .int x2)]) hx hb dX12_name_51 hl (by decide) rfl (fun ls hl => ?_)
        obtain ⟨kx53, hkx53, hf⟩ := nm_let hf
        have hX53 : ∀  (H : Heap) (locs : List Loc) (ls : Array Slot), nm_H D Y (fun q => s0 ≤ q) s.heap X moN ad (I, nJ0, moZ) H locs → lv_has ls 5 [] → kx53 () = some (r0, M0) → W p l e R s m args below meth c H locs 0 0 Q (F0 m 114 ls []) := by
          intro  H locs ls hH hl hf
          rw [hkx53] at hf
          refine lv_iconst (v := -1) hx hb dX12_name_114 (by decide) ?_
          exact nm_iret hx hb hr hlocks hQ hH (congrArg Prod.fst (Option.some.inj hf)) (congrArg (fun q => (q.2, nJ0, moZ)) (Option.some.inj hf)) dX12_name_115
        have hL53 : ∀ (n53 : Nat) (x3 : Int32) (x4 : Int32) (H : Heap) (locs : List Loc) (ls : Array Slot), nm_H D Y (fun q => s0 ≤ q) s.heap X moN ad (I, nJ0, moZ) H locs → lv_has ls 5 [(0, .ref (ad 0)), (1, .int x1), (3, .int x3), (4, .int x4)] → f_X12_name_L53 x1 I kx53 n53 x3 x4 = some (r0, M0) → W p l e R s m args below meth c H locs 0 0 Q (F0 m 53 ls []) := by
          intro n53
          induction n53 with
          | zero =>
            intro x3 x4 H locs ls hH hl hf
            cases hf
          | succ n53 ih53 =>
            intro x3 x4 H locs ls hH hl hf
            rw [f_X12_name_L53] at hf
            refine lv_iload hx hb dX12_name_53 (lv_at hl 3 rfl) ?_
            refine lv_aload_n hx hb dX12_name_55 rfl (lv_at hl 0 rfl) ?_
            refine gf_12_26 hK hx hb hts hown hH mo_n0 mo_k0 (hts _ tw_982) (fun _ h9 => h9) dX12_name_56 ?_
            refine lv_icmp_ge (tgt := 114) hx hb dX12_name_59 (by decide) (fun c4 => ?_) (fun c4 => ?_)
            · have hf := nm_it c4 hf
              exact hX53  _ _ _ hH (lv_sub hl [] rfl) hf
            · have hf := nm_ie c4 hf
              refine lv_aload_n hx hb dX12_name_62 rfl (lv_at hl 0 rfl) ?_
              refine gf_12_58 hK hx hb hts hown hH mo_n0 mo_k0 (hts _ tw_1013) (fun _ h9 => h9) dX12_name_63 ?_
              refine lv_sipush (v := 4096) hx hb dX12_name_66 (by decide) ?_
              refine lv_aload_n hx hb dX12_name_69 rfl (lv_at hl 0 rfl) ?_
              refine gf_12_23 hK hx hb hts hown hH mo_n0 mo_k0 (hts _ tw_979) (fun _ h9 => h9) dX12_name_70 ?_
              refine lv_iload hx hb dX12_name_73 (lv_at hl 3 rfl) ?_
              obtain ⟨hi5, hf⟩ := nm_chk hf
              refine nm_iald hx hb hK hH mo_n24 mo_k24 mo_l24 hi5 dX12_name_75 ?_
              refine lv_imul hx hb dX12_name_76 ?_
              refine lv_aload_n hx hb dX12_name_77 rfl (lv_at hl 0 rfl) ?_
              refine gf_12_24 hK hx hb hts hown hH mo_n0 mo_k0 (hts _ tw_980) (fun _ h9 => h9) dX12_name_78 ?_
              refine lv_iload hx hb dX12_name_81 (lv_at hl 3 rfl) ?_
              obtain ⟨hi6, hf⟩ := nm_chk hf
              refine nm_iald hx hb hK hH mo_n25 mo_k25 mo_l25 hi6 dX12_name_83 ?_
              refine lv_iadd hx hb dX12_name_84 ?_
              obtain ⟨hi7, hf⟩ := nm_chk hf
              refine nm_iald hx hb hK hH mo_n59 mo_k59 mo_l59 hi7 dX12_name_85 ?_
              refine lv_iload_n hx hb dX12_name_86 rfl (lv_at hl 1 rfl) ?_
              have hJ108 : ∀ (x3 : Int32) (H : Heap) (locs : List Loc) (ls : Array Slot), nm_H D Y (fun q => s0 ≤ q) s.heap X moN ad (I, nJ0, moZ) H locs → lv_has ls 5 [(0, .ref (ad 0)), (1, .int x1), (3, .int x3), (4, .int x4)] → f_X12_name_J108 x3 x4 I (f_X12_name_L53 x1 I kx53 n53) kx53 = some (r0, M0) → W p l e R s m args below meth c H locs 0 0 Q (F0 m 108 ls []) := by
                intro x3 H locs ls hH hl hf
                unfold f_X12_name_J108 at hf
                refine lv_iinc (v := x4 + 1) (lv' := [(4, .int (x4 + 1)), (0, .ref (ad 0)), (1, .int x1), (3, .int x3)]) hx hb dX12_name_108 hl (k := 3) rfl rfl (by decide) rfl (fun ls hl => ?_)
                refine lv_goto (tgt := 53) hx hb dX12_name_111 (by decide) ?_
                exact ih53 x3 (x4 + 1) _ _ _ hH (lv_sub hl [1, 2, 3, 0] rfl) hf
              refine lv_icmp_eq (tgt := 93) hx hb dX12_name_87 (by decide) (fun c8 => ?_) (fun c8 => ?_)
              · have hf := nm_it c8 hf
                refine lv_iload_n hx hb dX12_name_93 rfl (lv_at hl 2 rfl) ?_
                refine lv_if_ne (tgt := 105) hx hb dX12_name_94 (by decide) (fun c9 => ?_) (fun c9 => ?_)
                · have hf := nm_ie c9 hf
                  refine lv_iinc (v := x3 + (-1)) (lv' := [(3, .int (x3 + (-1))), (0, .ref (ad 0)), (1, .int x1), (4, .int x4)]) hx hb dX12_name_105 hl (k := 2) rfl rfl (by decide) rfl (fun ls hl => ?_)
                  exact hJ108 (x3 + (-1)) _ _ _ hH (lv_sub hl [1, 2, 0, 3] rfl) hf
                · have hf := nm_it c9 hf
                  refine lv_aload_n hx hb dX12_name_97 rfl (lv_at hl 0 rfl) ?_
                  refine gf_12_25 hK hx hb hts hown hH mo_n0 mo_k0 (hts _ tw_981) (fun _ h9 => h9) dX12_name_98 ?_
                  refine lv_iload hx hb dX12_name_101 (lv_at hl 3 rfl) ?_
                  obtain ⟨hi10, hf⟩ := nm_chk hf
                  refine nm_iald hx hb hK hH mo_n26 mo_k26 mo_l26 hi10 dX12_name_103 ?_
                  exact nm_iret hx hb hr hlocks hQ hH (congrArg Prod.fst (Option.some.inj hf)) (congrArg (fun q => (q.2, nJ0, moZ)) (Option.some.inj hf)) dX12_name_104
              · have hf := nm_ie c8 hf
                refine lv_goto (tgt := 108) hx hb dX12_name_90 (by decide) ?_
                exact hJ108 x3 _ _ _ hH (lv_sub hl [0, 1, 2, 3] rfl) hf
        exact hL53 nm_F x2 (0 : Int32) _ _ _ hH (lv_sub hl [2, 3, 1, 0] rfl) hf
      · have hf := nm_ie c3 hf
        refine lv_aload_n hx hb dX12_name_41 rfl (lv_at hl 0 rfl) ?_
        refine lv_bipush (v := -4) hx hb dX12_name_42 (by decide) ?_
        obtain ⟨r13, I11, hc12, hf⟩ := nm_sd2 hf
        refine nm_calli (nm_runV (X := X) (nl := moN) (k_X12_no (hf := hc12)) hx hb hml hown hts hs0 hK hZ hH tw_1214 tw_1211 tw_1213 (sw_X12_no) tw_9 hd_X12_no mo_n0 mo_k0 (by decide) rfl rfl rfl ⟨Nat.le_trans (Nat.le_of_ble_eq_true rfl) hRf, Nat.le_trans (Nat.le_of_ble_eq_true rfl) hRl⟩ rfl hl.1 rfl (Nat.le_of_ble_eq_true rfl) dX12_name_44 ⟨Nat.zero_le _, Nat.zero_le _⟩) hH (fun H locs hH => ?_)
        have hH : nm_H D Y (fun q => s0 ≤ q) s.heap X moN ad (I11, nJ0, moZ) H locs := hH
        exact nm_iret hx hb hr hlocks hQ hH (congrArg Prod.fst (Option.some.inj hf)) (congrArg (fun q => (q.2, nJ0, moZ)) (Option.some.inj hf)) dX12_name_47
    · have hf := nm_it c2 hf
      refine lv_aload_n hx hb dX12_name_30 rfl (lv_at hl 0 rfl) ?_
      refine lv_bipush (v := -3) hx hb dX12_name_31 (by decide) ?_
      obtain ⟨r16, I14, hc15, hf⟩ := nm_sd2 hf
      refine nm_calli (nm_runV (X := X) (nl := moN) (k_X12_no (hf := hc15)) hx hb hml hown hts hs0 hK hZ hH tw_1214 tw_1211 tw_1213 (sw_X12_no) tw_9 hd_X12_no mo_n0 mo_k0 (by decide) rfl rfl rfl ⟨Nat.le_trans (Nat.le_of_ble_eq_true rfl) hRf, Nat.le_trans (Nat.le_of_ble_eq_true rfl) hRl⟩ rfl hl.1 rfl (Nat.le_of_ble_eq_true rfl) dX12_name_33 ⟨Nat.zero_le _, Nat.zero_le _⟩) hH (fun H locs hH => ?_)
      have hH : nm_H D Y (fun q => s0 ≤ q) s.heap X moN ad (I14, nJ0, moZ) H locs := hH
      exact nm_iret hx hb hr hlocks hQ hH (congrArg Prod.fst (Option.some.inj hf)) (congrArg (fun q => (q.2, nJ0, moZ)) (Option.some.inj hf)) dX12_name_36
  · have hf := nm_it c1 hf
    refine lv_aload_n hx hb dX12_name_7 rfl (lv_at hl 0 rfl) ?_
    refine lv_bipush (v := -2) hx hb dX12_name_8 (by decide) ?_
    obtain ⟨r19, I17, hc18, hf⟩ := nm_sd2 hf
    refine nm_calli (nm_runV (X := X) (nl := moN) (k_X12_no (hf := hc18)) hx hb hml hown hts hs0 hK hZ hH tw_1214 tw_1211 tw_1213 (sw_X12_no) tw_9 hd_X12_no mo_n0 mo_k0 (by decide) rfl rfl rfl ⟨Nat.le_trans (Nat.le_of_ble_eq_true rfl) hRf, Nat.le_trans (Nat.le_of_ble_eq_true rfl) hRl⟩ rfl hl.1 rfl (Nat.le_of_ble_eq_true rfl) dX12_name_10 ⟨Nat.zero_le _, Nat.zero_le _⟩) hH (fun H locs hH => ?_)
    have hH : nm_H D Y (fun q => s0 ≤ q) s.heap X moN ad (I17, nJ0, moZ) H locs := hH
    exact nm_iret hx hb hr hlocks hQ hH (congrArg Prod.fst (Option.some.inj hf)) (congrArg (fun q => (q.2, nJ0, moZ)) (Option.some.inj hf)) dX12_name_13
def f_X12_device (x1 : Int32) (x2 : Int32) (I : nm_I) : Option (Int32 × nm_I) :=
(if (I 0 22) = 0 then
nm_s2 (f_X12_no (-2 : Int32) I) fun r20 I18 =>
some (r20, I18)
else
(if x1 = (-1 : Int32) then
some (I 0 65, I)
else
(if (f_X12_isIn x1.toInt64 (0 : Int64) (((I 0 65) - (1 : Int32)).toInt64)) = 0 then
nm_s2 (f_X12_no (-3 : Int32) I) fun r17 I15 =>
some (r17, I15)
else
(if x2 = (0 : Int32) then
nm_c x1 4096 (
some (I 62 x1.toNatClampNeg, I))
else
if x2 = (1 : Int32) then
nm_c x1 4096 (
some (I 63 x1.toNatClampNeg, I))
else
if x2 = (2 : Int32) then
nm_c x1 4096 (
some (I 64 x1.toNatClampNeg, I))
else
if x2 = (3 : Int32) then
nm_c x1 4096 (
some (I 65 x1.toNatClampNeg, I))
else
nm_s2 (f_X12_no (-7 : Int32) I) fun r14 I12 =>
some (r14, I12)))))
set_option maxHeartbeats 4000000 in
set_option maxRecDepth 100000 in
theorem k_X12_device {l : Launch} {D : va_G} {Y : nm_Y} {s0 : Nat} {X : va_W} {ad : Nat → Nat}  {x1 : Int32} {x2 : Int32} {I : nm_I} {r0 : Int32} {M0 : nm_I} (hf : f_X12_device x1 x2 I = some (r0, M0)) :
    nm_Met l yX12_device cX12_device 3 (some .int) { frames := 1, cells := 0, slots := 0, locals := 25 } [.ref (ad 0), .int x1, .int x2] D Y s0 (nm_W Y X moN ad (I, nJ0, moZ)) (nm_Qi D s0 r0 (nm_W Y X moN ad (M0, nJ0, moZ))) 0 0 := by
  refine nm_of (by decide) (Nat.le_of_ble_eq_true rfl) ?_
  intro p e R s m args below meth c Q ls hx hb hr hlocks hml hown hts hs0 hK hZ hRf hRl hRc hRs hQ hP hD hl
  have hH : nm_H D Y (fun q => s0 ≤ q) s.heap X moN ad (I, nJ0, moZ) s.heap [] := ⟨hP, hD, va_S.rf⟩
  have hl : lv_has ls 3 [(0, .ref (ad 0)), (1, .int x1), (2, .int x2)] := hl
  unfold f_X12_device at hf
  refine lv_aload_n hx hb dX12_device_0 rfl (lv_at hl 0 rfl) ?_
  refine gf_12_22 hK hx hb hts hown hH mo_n0 mo_k0 (hts _ tw_978) (fun _ h9 => h9) dX12_device_1 ?_
  refine lv_if_ne (tgt := 14) hx hb dX12_device_4 (by decide) (fun c1 => ?_) (fun c1 => ?_)
  · have hf := nm_ie c1 hf
    refine lv_iload_n hx hb dX12_device_14 rfl (lv_at hl 1 rfl) ?_
    refine lv_iconst (v := -1) hx hb dX12_device_15 (by decide) ?_
    refine lv_icmp_ne (tgt := 24) hx hb dX12_device_16 (by decide) (fun c2 => ?_) (fun c2 => ?_)
    · have hf := nm_ie c2 hf
      refine lv_iload_n hx hb dX12_device_24 rfl (lv_at hl 1 rfl) ?_
      refine lv_i2l hx hb dX12_device_25 rfl ?_
      refine lv_lconst (v := 0) hx hb dX12_device_26 (by decide) ?_
      refine lv_aload_n hx hb dX12_device_27 rfl (lv_at hl 0 rfl) ?_
      refine gf_12_65 hK hx hb hts hown hH mo_n0 mo_k0 (hts _ tw_1020) (fun _ h9 => h9) dX12_device_28 ?_
      refine lv_iconst (v := 1) hx hb dX12_device_31 (by decide) ?_
      refine lv_isub hx hb dX12_device_32 ?_
      refine lv_i2l hx hb dX12_device_33 rfl ?_
      refine nm_calli (nm_runS (X := X) (nl := moN) (k_X12_isIn (hf := (rfl : f_X12_isIn x1.toInt64 (0 : Int64) (((I 0 65) - (1 : Int32)).toInt64) = _))) hx hb hml hown hts hs0 hK hZ hH tw_1207 tw_1205 tw_1206 tw_9 hd_X12_isIn rfl rfl ⟨Nat.le_trans (Nat.le_of_ble_eq_true rfl) hRf, Nat.le_trans (Nat.le_of_ble_eq_true rfl) hRl⟩ rfl hl.1 rfl (Nat.le_of_ble_eq_true rfl) dX12_device_34 ⟨Nat.zero_le _, Nat.zero_le _⟩) hH (fun H locs hH => ?_)
      have hH : nm_H D Y (fun q => s0 ≤ q) s.heap X moN ad (I, nJ0, moZ) H locs := hH
      refine lv_if_ne (tgt := 47) hx hb dX12_device_37 (by decide) (fun c3 => ?_) (fun c3 => ?_)
      · have hf := nm_ie c3 hf
        refine lv_iload_n hx hb dX12_device_47 rfl (lv_at hl 2 rfl) ?_
        by_cases c4 : x2 = (0 : Int32)
        · have hf := nm_it c4 hf
          refine nm_tab (off := 32) (tgt := 80) hx hb c4 dX12_device_48 (by decide) (by decide) (by decide) (by decide) ?_
          refine lv_aload_n hx hb dX12_device_80 rfl (lv_at hl 0 rfl) ?_
          refine gf_12_61 hK hx hb hts hown hH mo_n0 mo_k0 (hts _ tw_1016) (fun _ h9 => h9) dX12_device_81 ?_
          refine lv_iload_n hx hb dX12_device_84 rfl (lv_at hl 1 rfl) ?_
          obtain ⟨hi5, hf⟩ := nm_chk hf
          refine nm_iald hx hb hK hH mo_n62 mo_k62 mo_l62 hi5 dX12_device_85 ?_
          exact nm_iret hx hb hr hlocks hQ hH (congrArg Prod.fst (Option.some.inj hf)) (congrArg (fun q => (q.2, nJ0, moZ)) (Option.some.inj hf)) dX12_device_86
        have hf := nm_ie c4 hf
        by_cases c6 : x2 = (1 : Int32)
        · have hf := nm_it c6 hf
          refine nm_tab (off := 39) (tgt := 87) hx hb c6 dX12_device_48 (by decide) (by decide) (by decide) (by decide) ?_
          refine lv_aload_n hx hb dX12_device_87 rfl (lv_at hl 0 rfl) ?_
          refine gf_12_62 hK hx hb hts hown hH mo_n0 mo_k0 (hts _ tw_1017) (fun _ h9 => h9) dX12_device_88 ?_
          refine lv_iload_n hx hb dX12_device_91 rfl (lv_at hl 1 rfl) ?_
          obtain ⟨hi7, hf⟩ := nm_chk hf
          refine nm_iald hx hb hK hH mo_n63 mo_k63 mo_l63 hi7 dX12_device_92 ?_
          exact nm_iret hx hb hr hlocks hQ hH (congrArg Prod.fst (Option.some.inj hf)) (congrArg (fun q => (q.2, nJ0, moZ)) (Option.some.inj hf)) dX12_device_93
        have hf := nm_ie c6 hf
        by_cases c8 : x2 = (2 : Int32)
        · have hf := nm_it c8 hf
          refine nm_tab (off := 46) (tgt := 94) hx hb c8 dX12_device_48 (by decide) (by decide) (by decide) (by decide) ?_
          refine lv_aload_n hx hb dX12_device_94 rfl (lv_at hl 0 rfl) ?_
          refine gf_12_63 hK hx hb hts hown hH mo_n0 mo_k0 (hts _ tw_1018) (fun _ h9 => h9) dX12_device_95 ?_
          refine lv_iload_n hx hb dX12_device_98 rfl (lv_at hl 1 rfl) ?_
          obtain ⟨hi9, hf⟩ := nm_chk hf
          refine nm_iald hx hb hK hH mo_n64 mo_k64 mo_l64 hi9 dX12_device_99 ?_
          exact nm_iret hx hb hr hlocks hQ hH (congrArg Prod.fst (Option.some.inj hf)) (congrArg (fun q => (q.2, nJ0, moZ)) (Option.some.inj hf)) dX12_device_100
        have hf := nm_ie c8 hf
        by_cases c10 : x2 = (3 : Int32)
        · have hf := nm_it c10 hf
          refine nm_tab (off := 53) (tgt := 101) hx hb c10 dX12_device_48 (by decide) (by decide) (by decide) (by decide) ?_
          refine lv_aload_n hx hb dX12_device_101 rfl (lv_at hl 0 rfl) ?_
          refine gf_12_64 hK hx hb hts hown hH mo_n0 mo_k0 (hts _ tw_1019) (fun _ h9 => h9) dX12_device_102 ?_
          refine lv_iload_n hx hb dX12_device_105 rfl (lv_at hl 1 rfl) ?_
          obtain ⟨hi11, hf⟩ := nm_chk hf
          refine nm_iald hx hb hK hH mo_n65 mo_k65 mo_l65 hi11 dX12_device_106 ?_
          exact nm_iret hx hb hr hlocks hQ hH (congrArg Prod.fst (Option.some.inj hf)) (congrArg (fun q => (q.2, nJ0, moZ)) (Option.some.inj hf)) dX12_device_107
        have hf := nm_ie c10 hf
        refine lv_tableOut (tgt := 108) hx hb dX12_device_48 (nm_sw x2 (fun k h1 h2 hk => by
          rcases (show k = 0 ∨ k = 1 ∨ k = 2 ∨ k = 3 by omega) with rfl | rfl | rfl | rfl <;> first | exact c4 hk | exact c6 hk | exact c8 hk | exact c10 hk)) (by decide) ?_
        refine lv_aload_n hx hb dX12_device_108 rfl (lv_at hl 0 rfl) ?_
        refine lv_bipush (v := -7) hx hb dX12_device_109 (by decide) ?_
        obtain ⟨r14, I12, hc13, hf⟩ := nm_sd2 hf
        refine nm_calli (nm_runV (X := X) (nl := moN) (k_X12_no (hf := hc13)) hx hb hml hown hts hs0 hK hZ hH tw_1214 tw_1211 tw_1213 (sw_X12_no) tw_9 hd_X12_no mo_n0 mo_k0 (by decide) rfl rfl rfl ⟨Nat.le_trans (Nat.le_of_ble_eq_true rfl) hRf, Nat.le_trans (Nat.le_of_ble_eq_true rfl) hRl⟩ rfl hl.1 rfl (Nat.le_of_ble_eq_true rfl) dX12_device_111 ⟨Nat.zero_le _, Nat.zero_le _⟩) hH (fun H locs hH => ?_)
        have hH : nm_H D Y (fun q => s0 ≤ q) s.heap X moN ad (I12, nJ0, moZ) H locs := hH
        exact nm_iret hx hb hr hlocks hQ hH (congrArg Prod.fst (Option.some.inj hf)) (congrArg (fun q => (q.2, nJ0, moZ)) (Option.some.inj hf)) dX12_device_114
      · have hf := nm_it c3 hf
        refine lv_aload_n hx hb dX12_device_40 rfl (lv_at hl 0 rfl) ?_
        refine lv_bipush (v := -3) hx hb dX12_device_41 (by decide) ?_
        obtain ⟨r17, I15, hc16, hf⟩ := nm_sd2 hf
        refine nm_calli (nm_runV (X := X) (nl := moN) (k_X12_no (hf := hc16)) hx hb hml hown hts hs0 hK hZ hH tw_1214 tw_1211 tw_1213 (sw_X12_no) tw_9 hd_X12_no mo_n0 mo_k0 (by decide) rfl rfl rfl ⟨Nat.le_trans (Nat.le_of_ble_eq_true rfl) hRf, Nat.le_trans (Nat.le_of_ble_eq_true rfl) hRl⟩ rfl hl.1 rfl (Nat.le_of_ble_eq_true rfl) dX12_device_43 ⟨Nat.zero_le _, Nat.zero_le _⟩) hH (fun H locs hH => ?_)
        have hH : nm_H D Y (fun q => s0 ≤ q) s.heap X moN ad (I15, nJ0, moZ) H locs := hH
        exact nm_iret hx hb hr hlocks hQ hH (congrArg Prod.fst (Option.some.inj hf)) (congrArg (fun q => (q.2, nJ0, moZ)) (Option.some.inj hf)) dX12_device_46
    · have hf := nm_it c2 hf
      refine lv_aload_n hx hb dX12_device_19 rfl (lv_at hl 0 rfl) ?_
      refine gf_12_65 hK hx hb hts hown hH mo_n0 mo_k0 (hts _ tw_1020) (fun _ h9 => h9) dX12_device_20 ?_
      exact nm_iret hx hb hr hlocks hQ hH (congrArg Prod.fst (Option.some.inj hf)) (congrArg (fun q => (q.2, nJ0, moZ)) (Option.some.inj hf)) dX12_device_23
  · have hf := nm_it c1 hf
    refine lv_aload_n hx hb dX12_device_7 rfl (lv_at hl 0 rfl) ?_
    refine lv_bipush (v := -2) hx hb dX12_device_8 (by decide) ?_
    obtain ⟨r20, I18, hc19, hf⟩ := nm_sd2 hf
    refine nm_calli (nm_runV (X := X) (nl := moN) (k_X12_no (hf := hc19)) hx hb hml hown hts hs0 hK hZ hH tw_1214 tw_1211 tw_1213 (sw_X12_no) tw_9 hd_X12_no mo_n0 mo_k0 (by decide) rfl rfl rfl ⟨Nat.le_trans (Nat.le_of_ble_eq_true rfl) hRf, Nat.le_trans (Nat.le_of_ble_eq_true rfl) hRl⟩ rfl hl.1 rfl (Nat.le_of_ble_eq_true rfl) dX12_device_10 ⟨Nat.zero_le _, Nat.zero_le _⟩) hH (fun H locs hH => ?_)
    have hH : nm_H D Y (fun q => s0 ≤ q) s.heap X moN ad (I18, nJ0, moZ) H locs := hH
    exact nm_iret hx hb hr hlocks hQ hH (congrArg Prod.fst (Option.some.inj hf)) (congrArg (fun q => (q.2, nJ0, moZ)) (Option.some.inj hf)) dX12_device_13
def f_X12_wish (x1 : Int32) (x2 : Int32) (I : nm_I) : Option (Int32 × nm_I) :=
(if (f_X12_isIn x1.toInt64 (0 : Int64) (13823 : Int64)) = 0 then
nm_s2 (f_X12_no (-7 : Int32) I) fun r4 I2 =>
some (r4, I2)
else
(if (f_X12_isIn x2.toInt64 (0 : Int64) (4096 : Int64)) = 0 then
nm_s2 (f_X12_no (-7 : Int32) I) fun r22 I20 =>
some (r22, I20)
else
(if (I 0 70) = (12 : Int32) then
nm_s2 (f_X12_no (-8 : Int32) I) fun r19 I17 =>
some (r19, I17)
else
nm_c (I 0 70) 12 (
nm_l (nm_up I 67 ((I 0 70).toNatClampNeg) (x1 / (576 : Int32))) fun I8 =>
nm_c (I8 0 70) 12 (
nm_l (nm_up I8 68 ((I8 0 70).toNatClampNeg) ((x1 / (24 : Int32)) - (x1 / (24 : Int32)) / (24 : Int32) * (24 : Int32))) fun I10 =>
nm_c (I10 0 70) 12 (
nm_l (nm_up I10 69 ((I10 0 70).toNatClampNeg) (x1 - x1 / (24 : Int32) * (24 : Int32))) fun I12 =>
nm_c (I12 0 70) 12 (
nm_l (nm_up I12 70 ((I12 0 70).toNatClampNeg) x2) fun I14 =>
nm_l (nm_up I14 0 70 ((I14 0 70) + (1 : Int32))) fun I15 =>
nm_l (nm_up I15 0 72 (0 : Int32)) fun I16 =>
some ((I16 0 70) - (1 : Int32), I16))))))))
set_option maxHeartbeats 4000000 in
set_option maxRecDepth 100000 in
theorem k_X12_wish {l : Launch} {D : va_G} {Y : nm_Y} {s0 : Nat} {X : va_W} {ad : Nat → Nat}  {x1 : Int32} {x2 : Int32} {I : nm_I} {r0 : Int32} {M0 : nm_I} (hf : f_X12_wish x1 x2 I = some (r0, M0)) :
    nm_Met l yX12_wish cX12_wish 3 (some .int) { frames := 1, cells := 0, slots := 0, locals := 25 } [.ref (ad 0), .int x1, .int x2] D Y s0 (nm_W Y X moN ad (I, nJ0, moZ)) (nm_Qi D s0 r0 (nm_W Y X moN ad (M0, nJ0, moZ))) 0 0 := by
  refine nm_of (by decide) (Nat.le_of_ble_eq_true rfl) ?_
  intro p e R s m args below meth c Q ls hx hb hr hlocks hml hown hts hs0 hK hZ hRf hRl hRc hRs hQ hP hD hl
  have hH : nm_H D Y (fun q => s0 ≤ q) s.heap X moN ad (I, nJ0, moZ) s.heap [] := ⟨hP, hD, va_S.rf⟩
  have hl : lv_has ls 3 [(0, .ref (ad 0)), (1, .int x1), (2, .int x2)] := hl
  unfold f_X12_wish at hf
  refine lv_iload_n hx hb dX12_wish_0 rfl (lv_at hl 1 rfl) ?_
  refine lv_i2l hx hb dX12_wish_1 rfl ?_
  refine lv_lconst (v := 0) hx hb dX12_wish_2 (by decide) ?_
  refine lv_ldc2 hx hb hown (hts _ tw_1443) dX12_wish_3 ?_
  refine nm_calli (nm_runS (X := X) (nl := moN) (k_X12_isIn (hf := (rfl : f_X12_isIn x1.toInt64 (0 : Int64) (13823 : Int64) = _))) hx hb hml hown hts hs0 hK hZ hH tw_1207 tw_1205 tw_1206 tw_9 hd_X12_isIn rfl rfl ⟨Nat.le_trans (Nat.le_of_ble_eq_true rfl) hRf, Nat.le_trans (Nat.le_of_ble_eq_true rfl) hRl⟩ rfl hl.1 rfl (Nat.le_of_ble_eq_true rfl) dX12_wish_6 ⟨Nat.zero_le _, Nat.zero_le _⟩) hH (fun H locs hH => ?_)
  have hH : nm_H D Y (fun q => s0 ≤ q) s.heap X moN ad (I, nJ0, moZ) H locs := hH
  refine lv_if_eq (tgt := 24) hx hb dX12_wish_9 (by decide) (fun c1 => ?_) (fun c1 => ?_)
  · have hf := nm_it c1 hf
    refine lv_aload_n hx hb dX12_wish_24 rfl (lv_at hl 0 rfl) ?_
    refine lv_bipush (v := -7) hx hb dX12_wish_25 (by decide) ?_
    obtain ⟨r4, I2, hc3, hf⟩ := nm_sd2 hf
    refine nm_calli (nm_runV (X := X) (nl := moN) (k_X12_no (hf := hc3)) hx hb hml hown hts hs0 hK hZ hH tw_1214 tw_1211 tw_1213 (sw_X12_no) tw_9 hd_X12_no mo_n0 mo_k0 (by decide) rfl rfl rfl ⟨Nat.le_trans (Nat.le_of_ble_eq_true rfl) hRf, Nat.le_trans (Nat.le_of_ble_eq_true rfl) hRl⟩ rfl hl.1 rfl (Nat.le_of_ble_eq_true rfl) dX12_wish_27 ⟨Nat.zero_le _, Nat.zero_le _⟩) hH (fun H locs hH => ?_)
    have hH : nm_H D Y (fun q => s0 ≤ q) s.heap X moN ad (I2, nJ0, moZ) H locs := hH
    exact nm_iret hx hb hr hlocks hQ hH (congrArg Prod.fst (Option.some.inj hf)) (congrArg (fun q => (q.2, nJ0, moZ)) (Option.some.inj hf)) dX12_wish_30
  · have hf := nm_ie c1 hf
    refine lv_iload_n hx hb dX12_wish_12 rfl (lv_at hl 2 rfl) ?_
    refine lv_i2l hx hb dX12_wish_13 rfl ?_
    refine lv_lconst (v := 0) hx hb dX12_wish_14 (by decide) ?_
    refine lv_ldc2 hx hb hown (hts _ tw_1351) dX12_wish_15 ?_
    refine nm_calli (nm_runS (X := X) (nl := moN) (k_X12_isIn (hf := (rfl : f_X12_isIn x2.toInt64 (0 : Int64) (4096 : Int64) = _))) hx hb hml hown hts hs0 hK hZ hH tw_1207 tw_1205 tw_1206 tw_9 hd_X12_isIn rfl rfl ⟨Nat.le_trans (Nat.le_of_ble_eq_true rfl) hRf, Nat.le_trans (Nat.le_of_ble_eq_true rfl) hRl⟩ rfl hl.1 rfl (Nat.le_of_ble_eq_true rfl) dX12_wish_18 ⟨Nat.zero_le _, Nat.zero_le _⟩) hH (fun H locs hH => ?_)
    have hH : nm_H D Y (fun q => s0 ≤ q) s.heap X moN ad (I, nJ0, moZ) H locs := hH
    refine lv_if_ne (tgt := 31) hx hb dX12_wish_21 (by decide) (fun c5 => ?_) (fun c5 => ?_)
    · have hf := nm_ie c5 hf
      refine lv_aload_n hx hb dX12_wish_31 rfl (lv_at hl 0 rfl) ?_
      refine gf_12_70 hK hx hb hts hown hH mo_n0 mo_k0 (hts _ tw_1025) (fun _ h9 => h9) dX12_wish_32 ?_
      refine lv_bipush (v := 12) hx hb dX12_wish_35 (by decide) ?_
      refine lv_icmp_ne (tgt := 47) hx hb dX12_wish_37 (by decide) (fun c6 => ?_) (fun c6 => ?_)
      · have hf := nm_ie c6 hf
        refine lv_aload_n hx hb dX12_wish_47 rfl (lv_at hl 0 rfl) ?_
        refine gf_12_66 hK hx hb hts hown hH mo_n0 mo_k0 (hts _ tw_1021) (fun _ h9 => h9) dX12_wish_48 ?_
        refine lv_aload_n hx hb dX12_wish_51 rfl (lv_at hl 0 rfl) ?_
        refine gf_12_70 hK hx hb hts hown hH mo_n0 mo_k0 (hts _ tw_1025) (fun _ h9 => h9) dX12_wish_52 ?_
        refine lv_iload_n hx hb dX12_wish_55 rfl (lv_at hl 1 rfl) ?_
        refine lv_sipush (v := 576) hx hb dX12_wish_56 (by decide) ?_
        refine lv_idiv hx hb dX12_wish_59 (by decide) ?_
        obtain ⟨hi7, hf⟩ := nm_chk hf
        obtain ⟨I8, eI8, hf⟩ := nm_let hf
        refine nm_iast hx hb hK hH mo_n67 mo_k67 mo_l67 hi7 dX12_wish_60 (fun H locs hH => ?_)
        have hH : nm_H D Y (fun q => s0 ≤ q) s.heap X moN ad (I8, nJ0, moZ) H locs := by rw [eI8]; exact hH
        refine lv_aload_n hx hb dX12_wish_61 rfl (lv_at hl 0 rfl) ?_
        refine gf_12_67 hK hx hb hts hown hH mo_n0 mo_k0 (hts _ tw_1022) (fun _ h9 => h9) dX12_wish_62 ?_
        refine lv_aload_n hx hb dX12_wish_65 rfl (lv_at hl 0 rfl) ?_
        refine gf_12_70 hK hx hb hts hown hH mo_n0 mo_k0 (hts _ tw_1025) (fun _ h9 => h9) dX12_wish_66 ?_
        refine lv_iload_n hx hb dX12_wish_69 rfl (lv_at hl 1 rfl) ?_
        refine lv_bipush (v := 24) hx hb dX12_wish_70 (by decide) ?_
        refine lv_idiv hx hb dX12_wish_72 (by decide) ?_
        refine lv_bipush (v := 24) hx hb dX12_wish_73 (by decide) ?_
        refine lv_irem hx hb dX12_wish_75 (by decide) ?_
        obtain ⟨hi9, hf⟩ := nm_chk hf
        obtain ⟨I10, eI10, hf⟩ := nm_let hf
        refine nm_iast hx hb hK hH mo_n68 mo_k68 mo_l68 hi9 dX12_wish_76 (fun H locs hH => ?_)
        have hH : nm_H D Y (fun q => s0 ≤ q) s.heap X moN ad (I10, nJ0, moZ) H locs := by rw [eI10]; exact hH
        refine lv_aload_n hx hb dX12_wish_77 rfl (lv_at hl 0 rfl) ?_
        refine gf_12_68 hK hx hb hts hown hH mo_n0 mo_k0 (hts _ tw_1023) (fun _ h9 => h9) dX12_wish_78 ?_
        refine lv_aload_n hx hb dX12_wish_81 rfl (lv_at hl 0 rfl) ?_
        refine gf_12_70 hK hx hb hts hown hH mo_n0 mo_k0 (hts _ tw_1025) (fun _ h9 => h9) dX12_wish_82 ?_
        refine lv_iload_n hx hb dX12_wish_85 rfl (lv_at hl 1 rfl) ?_
        refine lv_bipush (v := 24) hx hb dX12_wish_86 (by decide) ?_
        refine lv_irem hx hb dX12_wish_88 (by decide) ?_
        obtain ⟨hi11, hf⟩ := nm_chk hf
        obtain ⟨I12, eI12, hf⟩ := nm_let hf
        refine nm_iast hx hb hK hH mo_n69 mo_k69 mo_l69 hi11 dX12_wish_89 (fun H locs hH => ?_)
        have hH : nm_H D Y (fun q => s0 ≤ q) s.heap X moN ad (I12, nJ0, moZ) H locs := by rw [eI12]; exact hH
        refine lv_aload_n hx hb dX12_wish_90 rfl (lv_at hl 0 rfl) ?_
        refine gf_12_69 hK hx hb hts hown hH mo_n0 mo_k0 (hts _ tw_1024) (fun _ h9 => h9) dX12_wish_91 ?_
        refine lv_aload_n hx hb dX12_wish_94 rfl (lv_at hl 0 rfl) ?_
        refine gf_12_70 hK hx hb hts hown hH mo_n0 mo_k0 (hts _ tw_1025) (fun _ h9 => h9) dX12_wish_95 ?_
        refine lv_iload_n hx hb dX12_wish_98 rfl (lv_at hl 2 rfl) ?_
        obtain ⟨hi13, hf⟩ := nm_chk hf
        obtain ⟨I14, eI14, hf⟩ := nm_let hf
        refine nm_iast hx hb hK hH mo_n70 mo_k70 mo_l70 hi13 dX12_wish_99 (fun H locs hH => ?_)
        have hH : nm_H D Y (fun q => s0 ≤ q) s.heap X moN ad (I14, nJ0, moZ) H locs := by rw [eI14]; exact hH
        refine lv_aload_n hx hb dX12_wish_100 rfl (lv_at hl 0 rfl) ?_
        refine lv_dup hx hb dX12_wish_101 rfl ?_
        refine gf_12_70 hK hx hb hts hown hH mo_n0 mo_k0 (hts _ tw_1025) (fun _ h9 => h9) dX12_wish_102 ?_
        refine lv_iconst (v := 1) hx hb dX12_wish_105 (by decide) ?_
        refine lv_iadd hx hb dX12_wish_106 ?_
        obtain ⟨I15, eI15, hf⟩ := nm_let hf
        refine pf_12_70 hK hx hb hts hown hH mo_n0 mo_k0 (hts _ tw_1025) (fun _ h9 => h9) dX12_wish_107 (fun H locs hH => ?_)
        have hH : nm_H D Y (fun q => s0 ≤ q) s.heap X moN ad (I15, nJ0, moZ) H locs := by rw [eI15]; exact hH
        refine lv_aload_n hx hb dX12_wish_110 rfl (lv_at hl 0 rfl) ?_
        refine lv_iconst (v := 0) hx hb dX12_wish_111 (by decide) ?_
        obtain ⟨I16, eI16, hf⟩ := nm_let hf
        refine pf_12_72 hK hx hb hts hown hH mo_n0 mo_k0 (hts _ tw_1027) (fun _ h9 => h9) rfl rfl dX12_wish_112 (fun H locs hH => ?_)
        have hH : nm_H D Y (fun q => s0 ≤ q) s.heap X moN ad (I16, nJ0, moZ) H locs := by rw [eI16]; exact hH
        refine lv_aload_n hx hb dX12_wish_115 rfl (lv_at hl 0 rfl) ?_
        refine gf_12_70 hK hx hb hts hown hH mo_n0 mo_k0 (hts _ tw_1025) (fun _ h9 => h9) dX12_wish_116 ?_
        refine lv_iconst (v := 1) hx hb dX12_wish_119 (by decide) ?_
        refine lv_isub hx hb dX12_wish_120 ?_
        exact nm_iret hx hb hr hlocks hQ hH (congrArg Prod.fst (Option.some.inj hf)) (congrArg (fun q => (q.2, nJ0, moZ)) (Option.some.inj hf)) dX12_wish_121
      · have hf := nm_it c6 hf
        refine lv_aload_n hx hb dX12_wish_40 rfl (lv_at hl 0 rfl) ?_
        refine lv_bipush (v := -8) hx hb dX12_wish_41 (by decide) ?_
        obtain ⟨r19, I17, hc18, hf⟩ := nm_sd2 hf
        refine nm_calli (nm_runV (X := X) (nl := moN) (k_X12_no (hf := hc18)) hx hb hml hown hts hs0 hK hZ hH tw_1214 tw_1211 tw_1213 (sw_X12_no) tw_9 hd_X12_no mo_n0 mo_k0 (by decide) rfl rfl rfl ⟨Nat.le_trans (Nat.le_of_ble_eq_true rfl) hRf, Nat.le_trans (Nat.le_of_ble_eq_true rfl) hRl⟩ rfl hl.1 rfl (Nat.le_of_ble_eq_true rfl) dX12_wish_43 ⟨Nat.zero_le _, Nat.zero_le _⟩) hH (fun H locs hH => ?_)
        have hH : nm_H D Y (fun q => s0 ≤ q) s.heap X moN ad (I17, nJ0, moZ) H locs := hH
        exact nm_iret hx hb hr hlocks hQ hH (congrArg Prod.fst (Option.some.inj hf)) (congrArg (fun q => (q.2, nJ0, moZ)) (Option.some.inj hf)) dX12_wish_46
    · have hf := nm_it c5 hf
      refine lv_aload_n hx hb dX12_wish_24 rfl (lv_at hl 0 rfl) ?_
      refine lv_bipush (v := -7) hx hb dX12_wish_25 (by decide) ?_
      obtain ⟨r22, I20, hc21, hf⟩ := nm_sd2 hf
      refine nm_calli (nm_runV (X := X) (nl := moN) (k_X12_no (hf := hc21)) hx hb hml hown hts hs0 hK hZ hH tw_1214 tw_1211 tw_1213 (sw_X12_no) tw_9 hd_X12_no mo_n0 mo_k0 (by decide) rfl rfl rfl ⟨Nat.le_trans (Nat.le_of_ble_eq_true rfl) hRf, Nat.le_trans (Nat.le_of_ble_eq_true rfl) hRl⟩ rfl hl.1 rfl (Nat.le_of_ble_eq_true rfl) dX12_wish_27 ⟨Nat.zero_le _, Nat.zero_le _⟩) hH (fun H locs hH => ?_)
      have hH : nm_H D Y (fun q => s0 ≤ q) s.heap X moN ad (I20, nJ0, moZ) H locs := hH
      exact nm_iret hx hb hr hlocks hQ hH (congrArg Prod.fst (Option.some.inj hf)) (congrArg (fun q => (q.2, nJ0, moZ)) (Option.some.inj hf)) dX12_wish_30
def f_X12_unwish (I : nm_I) : Option (Int32 × nm_I) :=
nm_l (I 0 70) fun v1 =>
nm_l (nm_up I 0 70 (0 : Int32)) fun I2 =>
nm_l (nm_up I2 0 72 (0 : Int32)) fun I3 =>
some (v1, I3)
set_option maxHeartbeats 4000000 in
set_option maxRecDepth 100000 in
theorem k_X12_unwish {l : Launch} {D : va_G} {Y : nm_Y} {s0 : Nat} {X : va_W} {ad : Nat → Nat}  {I : nm_I} {r0 : Int32} {M0 : nm_I} (hf : f_X12_unwish I = some (r0, M0)) :
    nm_Met l yX12_unwish cX12_unwish 2 (some .int) { frames := 0, cells := 0, slots := 0, locals := 0 } [.ref (ad 0)] D Y s0 (nm_W Y X moN ad (I, nJ0, moZ)) (nm_Qi D s0 r0 (nm_W Y X moN ad (M0, nJ0, moZ))) 0 0 := by
  refine nm_of (by decide) (Nat.le_of_ble_eq_true rfl) ?_
  intro p e R s m args below meth c Q ls hx hb hr hlocks hml hown hts hs0 hK hZ hRf hRl hRc hRs hQ hP hD hl
  have hH : nm_H D Y (fun q => s0 ≤ q) s.heap X moN ad (I, nJ0, moZ) s.heap [] := ⟨hP, hD, va_S.rf⟩
  have hl : lv_has ls 2 [(0, .ref (ad 0))] := hl
  unfold f_X12_unwish at hf
  refine lv_aload_n hx hb dX12_unwish_0 rfl (lv_at hl 0 rfl) ?_
  refine gf_12_70 hK hx hb hts hown hH mo_n0 mo_k0 (hts _ tw_1025) (fun _ h9 => h9) dX12_unwish_1 ?_
  obtain ⟨v1, ev1, hf⟩ := nm_let hf
  refine nm_topi ev1 ?_
  refine lv_istore_n (lv' := [(1, .int v1), (0, .ref (ad 0))]) hx hb dX12_unwish_4 rfl hl (by decide) rfl (fun ls hl => ?_)
  refine lv_aload_n hx hb dX12_unwish_5 rfl (lv_at hl 1 rfl) ?_
  refine lv_iconst (v := 0) hx hb dX12_unwish_6 (by decide) ?_
  obtain ⟨I2, eI2, hf⟩ := nm_let hf
  refine pf_12_70 hK hx hb hts hown hH mo_n0 mo_k0 (hts _ tw_1025) (fun _ h9 => h9) dX12_unwish_7 (fun H locs hH => ?_)
  have hH : nm_H D Y (fun q => s0 ≤ q) s.heap X moN ad (I2, nJ0, moZ) H locs := by rw [eI2]; exact hH
  refine lv_aload_n hx hb dX12_unwish_10 rfl (lv_at hl 1 rfl) ?_
  refine lv_iconst (v := 0) hx hb dX12_unwish_11 (by decide) ?_
  obtain ⟨I3, eI3, hf⟩ := nm_let hf
  refine pf_12_72 hK hx hb hts hown hH mo_n0 mo_k0 (hts _ tw_1027) (fun _ h9 => h9) rfl rfl dX12_unwish_12 (fun H locs hH => ?_)
  have hH : nm_H D Y (fun q => s0 ≤ q) s.heap X moN ad (I3, nJ0, moZ) H locs := by rw [eI3]; exact hH
  refine lv_iload_n hx hb dX12_unwish_15 rfl (lv_at hl 0 rfl) ?_
  exact nm_iret hx hb hr hlocks hQ hH (congrArg Prod.fst (Option.some.inj hf)) (congrArg (fun q => (q.2, nJ0, moZ)) (Option.some.inj hf)) dX12_unwish_16
def f_X12_pair_J18 (x1 : Int32) (x2 : Int32) (I : nm_I) : Option (Int32 × nm_I) :=
nm_c x1 65536 (
(if (I 75 x1.toNatClampNeg) = x2 then
nm_c x2 24 (
(if (I 76 x2.toNatClampNeg) = x1 then
some ((1 : Int32), I)
else
some ((0 : Int32), I)))
else
some ((0 : Int32), I)))
def f_X12_pair (x1 : Int32) (x2 : Int32) (I : nm_I) : Option (Int32 × nm_I) :=
nm_c x1 65536 (
(if 0 ≤ (I 75 x1.toNatClampNeg) then
f_X12_pair_J18 x1 x2 I
else
nm_c x2 24 (
(if (I 76 x2.toNatClampNeg) < 0 then
nm_c x1 65536 (
nm_l (nm_up I 75 x1.toNatClampNeg x2) fun I10 =>
nm_c x2 24 (
nm_l (nm_up I10 76 x2.toNatClampNeg x1) fun I12 =>
some ((1 : Int32), I12)))
else
f_X12_pair_J18 x1 x2 I))))
set_option maxHeartbeats 4000000 in
set_option maxRecDepth 100000 in
theorem k_X12_pair {l : Launch} {D : va_G} {Y : nm_Y} {s0 : Nat} {X : va_W} {ad : Nat → Nat}  {x1 : Int32} {x2 : Int32} {I : nm_I} {r0 : Int32} {M0 : nm_I} (hf : f_X12_pair x1 x2 I = some (r0, M0)) :
    nm_Met l yX12_pair cX12_pair 3 (some .boolean) { frames := 0, cells := 0, slots := 0, locals := 0 } [.ref (ad 0), .int x1, .int x2] D Y s0 (nm_W Y X moN ad (I, nJ0, moZ)) (nm_Qi D s0 r0 (nm_W Y X moN ad (M0, nJ0, moZ))) 0 0 := by
  refine nm_of (by decide) (Nat.le_of_ble_eq_true rfl) ?_
  intro p e R s m args below meth c Q ls hx hb hr hlocks hml hown hts hs0 hK hZ hRf hRl hRc hRs hQ hP hD hl
  have hH : nm_H D Y (fun q => s0 ≤ q) s.heap X moN ad (I, nJ0, moZ) s.heap [] := ⟨hP, hD, va_S.rf⟩
  have hl : lv_has ls 3 [(0, .ref (ad 0)), (1, .int x1), (2, .int x2)] := hl
  unfold f_X12_pair at hf
  refine lv_aload_n hx hb dX12_pair_0 rfl (lv_at hl 0 rfl) ?_
  refine gf_12_74 hK hx hb hts hown hH mo_n0 mo_k0 (hts _ tw_1029) (fun _ h9 => h9) dX12_pair_1 ?_
  refine lv_iload_n hx hb dX12_pair_4 rfl (lv_at hl 1 rfl) ?_
  obtain ⟨hi1, hf⟩ := nm_chk hf
  refine nm_iald hx hb hK hH mo_n75 mo_k75 mo_l75 hi1 dX12_pair_5 ?_
  have hJ18 : ∀  (H : Heap) (locs : List Loc) (ls : Array Slot), nm_H D Y (fun q => s0 ≤ q) s.heap X moN ad (I, nJ0, moZ) H locs → lv_has ls 3 [(0, .ref (ad 0)), (1, .int x1), (2, .int x2)] → f_X12_pair_J18 x1 x2 I = some (r0, M0) → W p l e R s m args below meth c H locs 0 0 Q (F0 m 18 ls []) := by
    intro  H locs ls hH hl hf
    unfold f_X12_pair_J18 at hf
    refine lv_aload_n hx hb dX12_pair_18 rfl (lv_at hl 0 rfl) ?_
    refine gf_12_74 hK hx hb hts hown hH mo_n0 mo_k0 (hts _ tw_1029) (fun _ h9 => h9) dX12_pair_19 ?_
    refine lv_iload_n hx hb dX12_pair_22 rfl (lv_at hl 1 rfl) ?_
    obtain ⟨hi2, hf⟩ := nm_chk hf
    refine nm_iald hx hb hK hH mo_n75 mo_k75 mo_l75 hi2 dX12_pair_23 ?_
    refine lv_iload_n hx hb dX12_pair_24 rfl (lv_at hl 2 rfl) ?_
    refine lv_icmp_ne (tgt := 42) hx hb dX12_pair_25 (by decide) (fun c3 => ?_) (fun c3 => ?_)
    · have hf := nm_ie c3 hf
      refine lv_iconst (v := 0) hx hb dX12_pair_42 (by decide) ?_
      exact nm_zret hx hb hr hlocks hQ hH rfl (congrArg Prod.fst (Option.some.inj hf)) (congrArg (fun q => (q.2, nJ0, moZ)) (Option.some.inj hf)) dX12_pair_43
    · have hf := nm_it c3 hf
      refine lv_aload_n hx hb dX12_pair_28 rfl (lv_at hl 0 rfl) ?_
      refine gf_12_75 hK hx hb hts hown hH mo_n0 mo_k0 (hts _ tw_1030) (fun _ h9 => h9) dX12_pair_29 ?_
      refine lv_iload_n hx hb dX12_pair_32 rfl (lv_at hl 2 rfl) ?_
      obtain ⟨hi4, hf⟩ := nm_chk hf
      refine nm_iald hx hb hK hH mo_n76 mo_k76 mo_l76 hi4 dX12_pair_33 ?_
      refine lv_iload_n hx hb dX12_pair_34 rfl (lv_at hl 1 rfl) ?_
      refine lv_icmp_ne (tgt := 42) hx hb dX12_pair_35 (by decide) (fun c5 => ?_) (fun c5 => ?_)
      · have hf := nm_ie c5 hf
        refine lv_iconst (v := 0) hx hb dX12_pair_42 (by decide) ?_
        exact nm_zret hx hb hr hlocks hQ hH rfl (congrArg Prod.fst (Option.some.inj hf)) (congrArg (fun q => (q.2, nJ0, moZ)) (Option.some.inj hf)) dX12_pair_43
      · have hf := nm_it c5 hf
        refine lv_iconst (v := 1) hx hb dX12_pair_38 (by decide) ?_
        refine lv_goto (tgt := 43) hx hb dX12_pair_39 (by decide) ?_
        exact nm_zret hx hb hr hlocks hQ hH rfl (congrArg Prod.fst (Option.some.inj hf)) (congrArg (fun q => (q.2, nJ0, moZ)) (Option.some.inj hf)) dX12_pair_43
  refine lv_if_ge (tgt := 18) hx hb dX12_pair_6 (by decide) (fun c6 => ?_) (fun c6 => ?_)
  · have hf := nm_it c6 hf
    exact hJ18  _ _ _ hH (lv_sub hl [0, 1, 2] rfl) hf
  · have hf := nm_ie c6 hf
    refine lv_aload_n hx hb dX12_pair_9 rfl (lv_at hl 0 rfl) ?_
    refine gf_12_75 hK hx hb hts hown hH mo_n0 mo_k0 (hts _ tw_1030) (fun _ h9 => h9) dX12_pair_10 ?_
    refine lv_iload_n hx hb dX12_pair_13 rfl (lv_at hl 2 rfl) ?_
    obtain ⟨hi7, hf⟩ := nm_chk hf
    refine nm_iald hx hb hK hH mo_n76 mo_k76 mo_l76 hi7 dX12_pair_14 ?_
    refine lv_if_lt (tgt := 44) hx hb dX12_pair_15 (by decide) (fun c8 => ?_) (fun c8 => ?_)
    · have hf := nm_it c8 hf
      refine lv_aload_n hx hb dX12_pair_44 rfl (lv_at hl 0 rfl) ?_
      refine gf_12_74 hK hx hb hts hown hH mo_n0 mo_k0 (hts _ tw_1029) (fun _ h9 => h9) dX12_pair_45 ?_
      refine lv_iload_n hx hb dX12_pair_48 rfl (lv_at hl 1 rfl) ?_
      refine lv_iload_n hx hb dX12_pair_49 rfl (lv_at hl 2 rfl) ?_
      obtain ⟨hi9, hf⟩ := nm_chk hf
      obtain ⟨I10, eI10, hf⟩ := nm_let hf
      refine nm_iast hx hb hK hH mo_n75 mo_k75 mo_l75 hi9 dX12_pair_50 (fun H locs hH => ?_)
      have hH : nm_H D Y (fun q => s0 ≤ q) s.heap X moN ad (I10, nJ0, moZ) H locs := by rw [eI10]; exact hH
      refine lv_aload_n hx hb dX12_pair_51 rfl (lv_at hl 0 rfl) ?_
      refine gf_12_75 hK hx hb hts hown hH mo_n0 mo_k0 (hts _ tw_1030) (fun _ h9 => h9) dX12_pair_52 ?_
      refine lv_iload_n hx hb dX12_pair_55 rfl (lv_at hl 2 rfl) ?_
      refine lv_iload_n hx hb dX12_pair_56 rfl (lv_at hl 1 rfl) ?_
      obtain ⟨hi11, hf⟩ := nm_chk hf
      obtain ⟨I12, eI12, hf⟩ := nm_let hf
      refine nm_iast hx hb hK hH mo_n76 mo_k76 mo_l76 hi11 dX12_pair_57 (fun H locs hH => ?_)
      have hH : nm_H D Y (fun q => s0 ≤ q) s.heap X moN ad (I12, nJ0, moZ) H locs := by rw [eI12]; exact hH
      refine lv_iconst (v := 1) hx hb dX12_pair_58 (by decide) ?_
      exact nm_zret hx hb hr hlocks hQ hH rfl (congrArg Prod.fst (Option.some.inj hf)) (congrArg (fun q => (q.2, nJ0, moZ)) (Option.some.inj hf)) dX12_pair_59
    · have hf := nm_ie c8 hf
      exact hJ18  _ _ _ hH (lv_sub hl [0, 1, 2] rfl) hf
def f_X12_pairsUpTo_L2  : Nat → Int32 → nm_I → Option (nm_I)
  | 0, _, _ => none
  | n2 + 1, x2, I1 =>
    (if (I1 0 57) ≤ x2 then
    some I1
    else
    nm_c x2 65536 (
    nm_l (nm_up I1 75 x2.toNatClampNeg (-1 : Int32)) fun I4 =>
    f_X12_pairsUpTo_L2 n2 (x2 + 1) I4))
def f_X12_pairsUpTo_L25  : Nat → Int32 → nm_I → Option (nm_I)
  | 0, _, _ => none
  | n25 + 1, x2, I6 =>
    (if (24 : Int32) ≤ x2 then
    some I6
    else
    nm_c x2 24 (
    nm_l (nm_up I6 76 x2.toNatClampNeg (-1 : Int32)) fun I9 =>
    f_X12_pairsUpTo_L25 n25 (x2 + 1) I9))
def f_X12_pairsUpTo_J154 (x2 : Int32) (t154_2 : Int32) (t154_1 : Int32) (I22 : nm_I) (k : Int32 → nm_I → Option (nm_I)) : Option (nm_I) :=
nm_s2 (f_X12_pair t154_1 t154_2 I22) fun r28 I26 =>
k (x2 + 1) I26
def f_X12_pairsUpTo_J123 (x2 : Int32) (v14 : Int32) (t77_0 : Int32) (t123_2 : Int32) (t123_1 : Int32) (I18 : nm_I) (k : Int32 → nm_I → Option (nm_I)) : Option (nm_I) :=
nm_s2 (f_X12_pair t123_1 t123_2 I18) fun r24 I22 =>
nm_c x2 4096 (
(if t77_0 = 0 then
nm_c v14 12 (
f_X12_pairsUpTo_J154 x2 (I22 69 v14.toNatClampNeg) (I22 65 x2.toNatClampNeg) I22 k)
else
nm_c v14 12 (
f_X12_pairsUpTo_J154 x2 (I22 68 v14.toNatClampNeg) (I22 65 x2.toNatClampNeg) I22 k)))
def f_X12_pairsUpTo_J77 (x2 : Int32) (v14 : Int32) (t77_0 : Int32) (I11 : nm_I) (k : Int32 → nm_I → Option (nm_I)) : Option (nm_I) :=
nm_c x2 4096 (
nm_c v14 12 (
nm_s2 (f_X12_pair (I11 63 x2.toNatClampNeg) (I11 67 v14.toNatClampNeg) I11) fun r20 I18 =>
nm_c x2 4096 (
(if t77_0 = 0 then
nm_c v14 12 (
f_X12_pairsUpTo_J123 x2 v14 t77_0 (I18 68 v14.toNatClampNeg) (I18 64 x2.toNatClampNeg) I18 k)
else
nm_c v14 12 (
f_X12_pairsUpTo_J123 x2 v14 t77_0 (I18 69 v14.toNatClampNeg) (I18 64 x2.toNatClampNeg) I18 k)))))
def f_X12_pairsUpTo_L46 (x1 : Int32) : Nat → Int32 → nm_I → Option (nm_I)
  | 0, _, _ => none
  | n46 + 1, x2, I11 =>
    (if x1 ≤ x2 then
    some I11
    else
    nm_c x2 12 (
    nm_l ((I11 74 x2.toNatClampNeg) / (2 : Int32)) fun v14 =>
    nm_c x2 12 (
    (if ((I11 74 x2.toNatClampNeg) - (I11 74 x2.toNatClampNeg) / (2 : Int32) * (2 : Int32)) = (1 : Int32) then
    f_X12_pairsUpTo_J77 x2 v14 (1 : Int32) I11 (f_X12_pairsUpTo_L46 x1 n46)
    else
    f_X12_pairsUpTo_J77 x2 v14 (0 : Int32) I11 (f_X12_pairsUpTo_L46 x1 n46)))))
def f_X12_pairsUpTo (x1 : Int32) (I : nm_I) : Option (nm_I) :=
nm_s1 (f_X12_pairsUpTo_L2 nm_F (0 : Int32) I) fun I5 =>
nm_s1 (f_X12_pairsUpTo_L25 nm_F (0 : Int32) I5) fun I10 =>
nm_s1 (f_X12_pairsUpTo_L46 x1 nm_F (0 : Int32) I10) fun I36 =>
some I36
set_option maxHeartbeats 4000000 in
set_option maxRecDepth 100000 in
theorem k_X12_pairsUpTo {l : Launch} {D : va_G} {Y : nm_Y} {s0 : Nat} {X : va_W} {ad : Nat → Nat}  {x1 : Int32} {I : nm_I} {M0 : nm_I} (hf : f_X12_pairsUpTo x1 I = some M0) :
    nm_Met l yX12_pairsUpTo cX12_pairsUpTo 5 none { frames := 1, cells := 0, slots := 0, locals := 22 } [.ref (ad 0), .int x1] D Y s0 (nm_W Y X moN ad (I, nJ0, moZ)) (nm_Qv D s0 (nm_W Y X moN ad (M0, nJ0, moZ))) 0 0 := by
  refine nm_of (by decide) (Nat.le_of_ble_eq_true rfl) ?_
  intro p e R s m args below meth c Q ls hx hb hr hlocks hml hown hts hs0 hK hZ hRf hRl hRc hRs hQ hP hD hl
  have hH : nm_H D Y (fun q => s0 ≤ q) s.heap X moN ad (I, nJ0, moZ) s.heap [] := ⟨hP, hD, va_S.rf⟩
  have hl : lv_has ls 5 [(0, .ref (ad 0)), (1, .int x1)] := hl
  unfold f_X12_pairsUpTo at hf
  refine lv_iconst (v := 0) hx hb dX12_pairsUpTo_0 (by decide) ?_
  refine lv_istore_n (lv' := [(2, .int (0 : Int32)), (0, .ref (ad 0)), (1, .int x1)]) hx hb dX12_pairsUpTo_1 rfl hl (by decide) rfl (fun ls hl => ?_)
  have hL2 : ∀ (n2 : Nat) (x2 : Int32) (I1 : nm_I) (H : Heap) (locs : List Loc) (ls : Array Slot) (o2 : nm_I), nm_H D Y (fun q => s0 ≤ q) s.heap X moN ad (I1, nJ0, moZ) H locs → lv_has ls 5 [(0, .ref (ad 0)), (1, .int x1), (2, .int x2)] → f_X12_pairsUpTo_L2 n2 x2 I1 = some o2 → (∀ (H : Heap) (locs : List Loc) (ls : Array Slot), nm_H D Y (fun q => s0 ≤ q) s.heap X moN ad (o2, nJ0, moZ) H locs → lv_has ls 5 [(0, .ref (ad 0)), (1, .int x1)] → W p l e R s m args below meth c H locs 0 0 Q (F0 m 23 ls [])) → W p l e R s m args below meth c H locs 0 0 Q (F0 m 2 ls []) := by
    intro n2
    induction n2 with
    | zero =>
      intro x2 I1 H locs ls o2 hH hl hf hX2
      cases hf
    | succ n2 ih2 =>
      intro x2 I1 H locs ls o2 hH hl hf hX2
      rw [f_X12_pairsUpTo_L2] at hf
      refine lv_iload_n hx hb dX12_pairsUpTo_2 rfl (lv_at hl 2 rfl) ?_
      refine lv_aload_n hx hb dX12_pairsUpTo_3 rfl (lv_at hl 0 rfl) ?_
      refine gf_12_57 hK hx hb hts hown hH mo_n0 mo_k0 (hts _ tw_1012) (fun _ h9 => h9) dX12_pairsUpTo_4 ?_
      refine lv_icmp_ge (tgt := 23) hx hb dX12_pairsUpTo_7 (by decide) (fun c2 => ?_) (fun c2 => ?_)
      · have hf := nm_it c2 hf
        cases hf
        exact hX2 _ _ _ hH (lv_sub hl [0, 1] rfl)
      · have hf := nm_ie c2 hf
        refine lv_aload_n hx hb dX12_pairsUpTo_10 rfl (lv_at hl 0 rfl) ?_
        refine gf_12_74 hK hx hb hts hown hH mo_n0 mo_k0 (hts _ tw_1029) (fun _ h9 => h9) dX12_pairsUpTo_11 ?_
        refine lv_iload_n hx hb dX12_pairsUpTo_14 rfl (lv_at hl 2 rfl) ?_
        refine lv_iconst (v := -1) hx hb dX12_pairsUpTo_15 (by decide) ?_
        obtain ⟨hi3, hf⟩ := nm_chk hf
        obtain ⟨I4, eI4, hf⟩ := nm_let hf
        refine nm_iast hx hb hK hH mo_n75 mo_k75 mo_l75 hi3 dX12_pairsUpTo_16 (fun H locs hH => ?_)
        have hH : nm_H D Y (fun q => s0 ≤ q) s.heap X moN ad (I4, nJ0, moZ) H locs := by rw [eI4]; exact hH
        refine lv_iinc (v := x2 + 1) (lv' := [(2, .int (x2 + 1)), (0, .ref (ad 0)), (1, .int x1)]) hx hb dX12_pairsUpTo_17 hl (k := 2) rfl rfl (by decide) rfl (fun ls hl => ?_)
        refine lv_goto (tgt := 2) hx hb dX12_pairsUpTo_20 (by decide) ?_
        exact ih2 (x2 + 1) I4 _ _ _ _ hH (lv_sub hl [1, 2, 0] rfl) hf hX2
  obtain ⟨I5, hl39, hf⟩ := nm_sd1 hf
  refine hL2 nm_F (0 : Int32) I _ _ _ _ hH (lv_sub hl [1, 2, 0] rfl) hl39 (fun H locs ls hH hl => ?_)
  have hl : lv_has ls 5 [(0, .ref (ad 0)), (1, .int x1)] := hl
  have hH : nm_H D Y (fun q => s0 ≤ q) s.heap X moN ad (I5, nJ0, moZ) H locs := hH
  refine lv_iconst (v := 0) hx hb dX12_pairsUpTo_23 (by decide) ?_
  refine lv_istore_n (lv' := [(2, .int (0 : Int32)), (0, .ref (ad 0)), (1, .int x1)]) hx hb dX12_pairsUpTo_24 rfl hl (by decide) rfl (fun ls hl => ?_)
  have hL25 : ∀ (n25 : Nat) (x2 : Int32) (I6 : nm_I) (H : Heap) (locs : List Loc) (ls : Array Slot) (o25 : nm_I), nm_H D Y (fun q => s0 ≤ q) s.heap X moN ad (I6, nJ0, moZ) H locs → lv_has ls 5 [(0, .ref (ad 0)), (1, .int x1), (2, .int x2)] → f_X12_pairsUpTo_L25 n25 x2 I6 = some o25 → (∀ (H : Heap) (locs : List Loc) (ls : Array Slot), nm_H D Y (fun q => s0 ≤ q) s.heap X moN ad (o25, nJ0, moZ) H locs → lv_has ls 5 [(0, .ref (ad 0)), (1, .int x1)] → W p l e R s m args below meth c H locs 0 0 Q (F0 m 44 ls [])) → W p l e R s m args below meth c H locs 0 0 Q (F0 m 25 ls []) := by
    intro n25
    induction n25 with
    | zero =>
      intro x2 I6 H locs ls o25 hH hl hf hX25
      cases hf
    | succ n25 ih25 =>
      intro x2 I6 H locs ls o25 hH hl hf hX25
      rw [f_X12_pairsUpTo_L25] at hf
      refine lv_iload_n hx hb dX12_pairsUpTo_25 rfl (lv_at hl 2 rfl) ?_
      refine lv_bipush (v := 24) hx hb dX12_pairsUpTo_26 (by decide) ?_
      refine lv_icmp_ge (tgt := 44) hx hb dX12_pairsUpTo_28 (by decide) (fun c7 => ?_) (fun c7 => ?_)
      · have hf := nm_it c7 hf
        cases hf
        exact hX25 _ _ _ hH (lv_sub hl [0, 1] rfl)
      · have hf := nm_ie c7 hf
        refine lv_aload_n hx hb dX12_pairsUpTo_31 rfl (lv_at hl 0 rfl) ?_
        refine gf_12_75 hK hx hb hts hown hH mo_n0 mo_k0 (hts _ tw_1030) (fun _ h9 => h9) dX12_pairsUpTo_32 ?_
        refine lv_iload_n hx hb dX12_pairsUpTo_35 rfl (lv_at hl 2 rfl) ?_
        refine lv_iconst (v := -1) hx hb dX12_pairsUpTo_36 (by decide) ?_
        obtain ⟨hi8, hf⟩ := nm_chk hf
        obtain ⟨I9, eI9, hf⟩ := nm_let hf
        refine nm_iast hx hb hK hH mo_n76 mo_k76 mo_l76 hi8 dX12_pairsUpTo_37 (fun H locs hH => ?_)
        have hH : nm_H D Y (fun q => s0 ≤ q) s.heap X moN ad (I9, nJ0, moZ) H locs := by rw [eI9]; exact hH
        refine lv_iinc (v := x2 + 1) (lv' := [(2, .int (x2 + 1)), (0, .ref (ad 0)), (1, .int x1)]) hx hb dX12_pairsUpTo_38 hl (k := 2) rfl rfl (by decide) rfl (fun ls hl => ?_)
        refine lv_goto (tgt := 25) hx hb dX12_pairsUpTo_41 (by decide) ?_
        exact ih25 (x2 + 1) I9 _ _ _ _ hH (lv_sub hl [1, 2, 0] rfl) hf hX25
  obtain ⟨I10, hl38, hf⟩ := nm_sd1 hf
  refine hL25 nm_F (0 : Int32) I5 _ _ _ _ hH (lv_sub hl [1, 2, 0] rfl) hl38 (fun H locs ls hH hl => ?_)
  have hl : lv_has ls 5 [(0, .ref (ad 0)), (1, .int x1)] := hl
  have hH : nm_H D Y (fun q => s0 ≤ q) s.heap X moN ad (I10, nJ0, moZ) H locs := hH
  refine lv_iconst (v := 0) hx hb dX12_pairsUpTo_44 (by decide) ?_
  refine lv_istore_n (lv' := [(2, .int (0 : Int32)), (0, .ref (ad 0)), (1, .int x1)]) hx hb dX12_pairsUpTo_45 rfl hl (by decide) rfl (fun ls hl => ?_)
  have hL46 : ∀ (n46 : Nat) (x2 : Int32) (I11 : nm_I) (H : Heap) (locs : List Loc) (ls : Array Slot) (o46 : nm_I), nm_H D Y (fun q => s0 ≤ q) s.heap X moN ad (I11, nJ0, moZ) H locs → lv_has ls 5 [(0, .ref (ad 0)), (1, .int x1), (2, .int x2)] → f_X12_pairsUpTo_L46 x1 n46 x2 I11 = some o46 → (∀ (H : Heap) (locs : List Loc) (ls : Array Slot), nm_H D Y (fun q => s0 ≤ q) s.heap X moN ad (o46, nJ0, moZ) H locs → lv_has ls 5 [] → W p l e R s m args below meth c H locs 0 0 Q (F0 m 164 ls [])) → W p l e R s m args below meth c H locs 0 0 Q (F0 m 46 ls []) := by
    intro n46
    induction n46 with
    | zero =>
      intro x2 I11 H locs ls o46 hH hl hf hX46
      cases hf
    | succ n46 ih46 =>
      intro x2 I11 H locs ls o46 hH hl hf hX46
      rw [f_X12_pairsUpTo_L46] at hf
      refine lv_iload_n hx hb dX12_pairsUpTo_46 rfl (lv_at hl 2 rfl) ?_
      refine lv_iload_n hx hb dX12_pairsUpTo_47 rfl (lv_at hl 1 rfl) ?_
      refine lv_icmp_ge (tgt := 164) hx hb dX12_pairsUpTo_48 (by decide) (fun c12 => ?_) (fun c12 => ?_)
      · have hf := nm_it c12 hf
        cases hf
        exact hX46 _ _ _ hH (lv_sub hl [] rfl)
      · have hf := nm_ie c12 hf
        refine lv_aload_n hx hb dX12_pairsUpTo_51 rfl (lv_at hl 0 rfl) ?_
        refine gf_12_73 hK hx hb hts hown hH mo_n0 mo_k0 (hts _ tw_1028) (fun _ h9 => h9) dX12_pairsUpTo_52 ?_
        refine lv_iload_n hx hb dX12_pairsUpTo_55 rfl (lv_at hl 2 rfl) ?_
        obtain ⟨hi13, hf⟩ := nm_chk hf
        refine nm_iald hx hb hK hH mo_n74 mo_k74 mo_l74 hi13 dX12_pairsUpTo_56 ?_
        refine lv_iconst (v := 2) hx hb dX12_pairsUpTo_57 (by decide) ?_
        refine lv_idiv hx hb dX12_pairsUpTo_58 (by decide) ?_
        obtain ⟨v14, ev14, hf⟩ := nm_let hf
        refine nm_topi ev14 ?_
        refine lv_istore_n (lv' := [(3, .int v14), (0, .ref (ad 0)), (1, .int x1), (2, .int x2)]) hx hb dX12_pairsUpTo_59 rfl hl (by decide) rfl (fun ls hl => ?_)
        refine lv_aload_n hx hb dX12_pairsUpTo_60 rfl (lv_at hl 1 rfl) ?_
        refine gf_12_73 hK hx hb hts hown hH mo_n0 mo_k0 (hts _ tw_1028) (fun _ h9 => h9) dX12_pairsUpTo_61 ?_
        refine lv_iload_n hx hb dX12_pairsUpTo_64 rfl (lv_at hl 3 rfl) ?_
        obtain ⟨hi15, hf⟩ := nm_chk hf
        refine nm_iald hx hb hK hH mo_n74 mo_k74 mo_l74 hi15 dX12_pairsUpTo_65 ?_
        refine lv_iconst (v := 2) hx hb dX12_pairsUpTo_66 (by decide) ?_
        refine lv_irem hx hb dX12_pairsUpTo_67 (by decide) ?_
        refine lv_iconst (v := 1) hx hb dX12_pairsUpTo_68 (by decide) ?_
        have hJ77 : ∀ (t77_0 : Int32) (H : Heap) (locs : List Loc) (ls : Array Slot), nm_H D Y (fun q => s0 ≤ q) s.heap X moN ad (I11, nJ0, moZ) H locs → lv_has ls 5 [(0, .ref (ad 0)), (1, .int x1), (2, .int x2), (3, .int v14)] → f_X12_pairsUpTo_J77 x2 v14 t77_0 I11 (f_X12_pairsUpTo_L46 x1 n46) = some o46 → W p l e R s m args below meth c H locs 0 0 Q (F0 m 77 ls [.int t77_0]) := by
          intro t77_0 H locs ls hH hl hf
          unfold f_X12_pairsUpTo_J77 at hf
          refine lv_istore (lv' := [(4, .int t77_0), (0, .ref (ad 0)), (1, .int x1), (2, .int x2), (3, .int v14)]) hx hb dX12_pairsUpTo_77 hl (by decide) rfl (fun ls hl => ?_)
          refine lv_aload_n hx hb dX12_pairsUpTo_79 rfl (lv_at hl 1 rfl) ?_
          refine lv_aload_n hx hb dX12_pairsUpTo_80 rfl (lv_at hl 1 rfl) ?_
          refine gf_12_62 hK hx hb hts hown hH mo_n0 mo_k0 (hts _ tw_1017) (fun _ h9 => h9) dX12_pairsUpTo_81 ?_
          refine lv_iload_n hx hb dX12_pairsUpTo_84 rfl (lv_at hl 3 rfl) ?_
          obtain ⟨hi16, hf⟩ := nm_chk hf
          refine nm_iald hx hb hK hH mo_n63 mo_k63 mo_l63 hi16 dX12_pairsUpTo_85 ?_
          refine lv_aload_n hx hb dX12_pairsUpTo_86 rfl (lv_at hl 1 rfl) ?_
          refine gf_12_66 hK hx hb hts hown hH mo_n0 mo_k0 (hts _ tw_1021) (fun _ h9 => h9) dX12_pairsUpTo_87 ?_
          refine lv_iload_n hx hb dX12_pairsUpTo_90 rfl (lv_at hl 4 rfl) ?_
          obtain ⟨hi17, hf⟩ := nm_chk hf
          refine nm_iald hx hb hK hH mo_n67 mo_k67 mo_l67 hi17 dX12_pairsUpTo_91 ?_
          obtain ⟨r20, I18, hc19, hf⟩ := nm_sd2 hf
          refine nm_calli (nm_runV (X := X) (nl := moN) (k_X12_pair (hf := hc19)) hx hb hml hown hts hs0 hK hZ hH tw_1475 tw_1472 tw_1474 (sw_X12_pair) tw_9 hd_X12_pair mo_n0 mo_k0 (by decide) rfl rfl rfl ⟨Nat.le_trans (Nat.le_of_ble_eq_true rfl) hRf, Nat.le_trans (Nat.le_of_ble_eq_true rfl) hRl⟩ rfl hl.1 rfl (Nat.le_of_ble_eq_true rfl) dX12_pairsUpTo_92 ⟨Nat.zero_le _, Nat.zero_le _⟩) hH (fun H locs hH => ?_)
          have hH : nm_H D Y (fun q => s0 ≤ q) s.heap X moN ad (I18, nJ0, moZ) H locs := hH
          refine lv_pop hx hb dX12_pairsUpTo_95 rfl ?_
          refine lv_aload_n hx hb dX12_pairsUpTo_96 rfl (lv_at hl 1 rfl) ?_
          refine lv_aload_n hx hb dX12_pairsUpTo_97 rfl (lv_at hl 1 rfl) ?_
          refine gf_12_63 hK hx hb hts hown hH mo_n0 mo_k0 (hts _ tw_1018) (fun _ h9 => h9) dX12_pairsUpTo_98 ?_
          refine lv_iload_n hx hb dX12_pairsUpTo_101 rfl (lv_at hl 3 rfl) ?_
          obtain ⟨hi21, hf⟩ := nm_chk hf
          refine nm_iald hx hb hK hH mo_n64 mo_k64 mo_l64 hi21 dX12_pairsUpTo_102 ?_
          refine lv_iload hx hb dX12_pairsUpTo_103 (lv_at hl 0 rfl) ?_
          have hJ123 : ∀ (t123_2 : Int32) (t123_1 : Int32) (H : Heap) (locs : List Loc) (ls : Array Slot), nm_H D Y (fun q => s0 ≤ q) s.heap X moN ad (I18, nJ0, moZ) H locs → lv_has ls 5 [(0, .ref (ad 0)), (1, .int x1), (2, .int x2), (3, .int v14), (4, .int t77_0)] → f_X12_pairsUpTo_J123 x2 v14 t77_0 t123_2 t123_1 I18 (f_X12_pairsUpTo_L46 x1 n46) = some o46 → W p l e R s m args below meth c H locs 0 0 Q (F0 m 123 ls [.int t123_2, .int t123_1, .ref (ad 0)]) := by
            intro t123_2 t123_1 H locs ls hH hl hf
            unfold f_X12_pairsUpTo_J123 at hf
            obtain ⟨r24, I22, hc23, hf⟩ := nm_sd2 hf
            refine nm_calli (nm_runV (X := X) (nl := moN) (k_X12_pair (hf := hc23)) hx hb hml hown hts hs0 hK hZ hH tw_1475 tw_1472 tw_1474 (sw_X12_pair) tw_9 hd_X12_pair mo_n0 mo_k0 (by decide) rfl rfl rfl ⟨Nat.le_trans (Nat.le_of_ble_eq_true rfl) hRf, Nat.le_trans (Nat.le_of_ble_eq_true rfl) hRl⟩ rfl hl.1 rfl (Nat.le_of_ble_eq_true rfl) dX12_pairsUpTo_123 ⟨Nat.zero_le _, Nat.zero_le _⟩) hH (fun H locs hH => ?_)
            have hH : nm_H D Y (fun q => s0 ≤ q) s.heap X moN ad (I22, nJ0, moZ) H locs := hH
            refine lv_pop hx hb dX12_pairsUpTo_126 rfl ?_
            refine lv_aload_n hx hb dX12_pairsUpTo_127 rfl (lv_at hl 0 rfl) ?_
            refine lv_aload_n hx hb dX12_pairsUpTo_128 rfl (lv_at hl 0 rfl) ?_
            refine gf_12_64 hK hx hb hts hown hH mo_n0 mo_k0 (hts _ tw_1019) (fun _ h9 => h9) dX12_pairsUpTo_129 ?_
            refine lv_iload_n hx hb dX12_pairsUpTo_132 rfl (lv_at hl 2 rfl) ?_
            obtain ⟨hi25, hf⟩ := nm_chk hf
            refine nm_iald hx hb hK hH mo_n65 mo_k65 mo_l65 hi25 dX12_pairsUpTo_133 ?_
            refine lv_iload hx hb dX12_pairsUpTo_134 (lv_at hl 4 rfl) ?_
            have hJ154 : ∀ (t154_2 : Int32) (t154_1 : Int32) (H : Heap) (locs : List Loc) (ls : Array Slot), nm_H D Y (fun q => s0 ≤ q) s.heap X moN ad (I22, nJ0, moZ) H locs → lv_has ls 5 [(0, .ref (ad 0)), (1, .int x1), (2, .int x2)] → f_X12_pairsUpTo_J154 x2 t154_2 t154_1 I22 (f_X12_pairsUpTo_L46 x1 n46) = some o46 → W p l e R s m args below meth c H locs 0 0 Q (F0 m 154 ls [.int t154_2, .int t154_1, .ref (ad 0)]) := by
              intro t154_2 t154_1 H locs ls hH hl hf
              unfold f_X12_pairsUpTo_J154 at hf
              obtain ⟨r28, I26, hc27, hf⟩ := nm_sd2 hf
              refine nm_calli (nm_runV (X := X) (nl := moN) (k_X12_pair (hf := hc27)) hx hb hml hown hts hs0 hK hZ hH tw_1475 tw_1472 tw_1474 (sw_X12_pair) tw_9 hd_X12_pair mo_n0 mo_k0 (by decide) rfl rfl rfl ⟨Nat.le_trans (Nat.le_of_ble_eq_true rfl) hRf, Nat.le_trans (Nat.le_of_ble_eq_true rfl) hRl⟩ rfl hl.1 rfl (Nat.le_of_ble_eq_true rfl) dX12_pairsUpTo_154 ⟨Nat.zero_le _, Nat.zero_le _⟩) hH (fun H locs hH => ?_)
              have hH : nm_H D Y (fun q => s0 ≤ q) s.heap X moN ad (I26, nJ0, moZ) H locs := hH
              refine lv_pop hx hb dX12_pairsUpTo_157 rfl ?_
              refine lv_iinc (v := x2 + 1) (lv' := [(2, .int (x2 + 1)), (0, .ref (ad 0)), (1, .int x1)]) hx hb dX12_pairsUpTo_158 hl (k := 2) rfl rfl (by decide) rfl (fun ls hl => ?_)
              refine lv_goto (tgt := 46) hx hb dX12_pairsUpTo_161 (by decide) ?_
              exact ih46 (x2 + 1) I26 _ _ _ _ hH (lv_sub hl [1, 2, 0] rfl) hf hX46
            refine lv_if_eq (tgt := 148) hx hb dX12_pairsUpTo_136 (by decide) (fun c29 => ?_) (fun c29 => ?_)
            · have hf := nm_it c29 hf
              refine lv_aload_n hx hb dX12_pairsUpTo_148 rfl (lv_at hl 0 rfl) ?_
              refine gf_12_68 hK hx hb hts hown hH mo_n0 mo_k0 (hts _ tw_1023) (fun _ h9 => h9) dX12_pairsUpTo_149 ?_
              refine lv_iload_n hx hb dX12_pairsUpTo_152 rfl (lv_at hl 3 rfl) ?_
              obtain ⟨hi30, hf⟩ := nm_chk hf
              refine nm_iald hx hb hK hH mo_n69 mo_k69 mo_l69 hi30 dX12_pairsUpTo_153 ?_
              exact hJ154 (I22 69 v14.toNatClampNeg) (I22 65 x2.toNatClampNeg) _ _ _ hH (lv_sub hl [0, 1, 2] rfl) hf
            · have hf := nm_ie c29 hf
              refine lv_aload_n hx hb dX12_pairsUpTo_139 rfl (lv_at hl 0 rfl) ?_
              refine gf_12_67 hK hx hb hts hown hH mo_n0 mo_k0 (hts _ tw_1022) (fun _ h9 => h9) dX12_pairsUpTo_140 ?_
              refine lv_iload_n hx hb dX12_pairsUpTo_143 rfl (lv_at hl 3 rfl) ?_
              obtain ⟨hi31, hf⟩ := nm_chk hf
              refine nm_iald hx hb hK hH mo_n68 mo_k68 mo_l68 hi31 dX12_pairsUpTo_144 ?_
              refine lv_goto (tgt := 154) hx hb dX12_pairsUpTo_145 (by decide) ?_
              exact hJ154 (I22 68 v14.toNatClampNeg) (I22 65 x2.toNatClampNeg) _ _ _ hH (lv_sub hl [0, 1, 2] rfl) hf
          refine lv_if_eq (tgt := 117) hx hb dX12_pairsUpTo_105 (by decide) (fun c32 => ?_) (fun c32 => ?_)
          · have hf := nm_it c32 hf
            refine lv_aload_n hx hb dX12_pairsUpTo_117 rfl (lv_at hl 1 rfl) ?_
            refine gf_12_67 hK hx hb hts hown hH mo_n0 mo_k0 (hts _ tw_1022) (fun _ h9 => h9) dX12_pairsUpTo_118 ?_
            refine lv_iload_n hx hb dX12_pairsUpTo_121 rfl (lv_at hl 4 rfl) ?_
            obtain ⟨hi33, hf⟩ := nm_chk hf
            refine nm_iald hx hb hK hH mo_n68 mo_k68 mo_l68 hi33 dX12_pairsUpTo_122 ?_
            exact hJ123 (I18 68 v14.toNatClampNeg) (I18 64 x2.toNatClampNeg) _ _ _ hH (lv_sub hl [1, 2, 3, 4, 0] rfl) hf
          · have hf := nm_ie c32 hf
            refine lv_aload_n hx hb dX12_pairsUpTo_108 rfl (lv_at hl 1 rfl) ?_
            refine gf_12_68 hK hx hb hts hown hH mo_n0 mo_k0 (hts _ tw_1023) (fun _ h9 => h9) dX12_pairsUpTo_109 ?_
            refine lv_iload_n hx hb dX12_pairsUpTo_112 rfl (lv_at hl 4 rfl) ?_
            obtain ⟨hi34, hf⟩ := nm_chk hf
            refine nm_iald hx hb hK hH mo_n69 mo_k69 mo_l69 hi34 dX12_pairsUpTo_113 ?_
            refine lv_goto (tgt := 123) hx hb dX12_pairsUpTo_114 (by decide) ?_
            exact hJ123 (I18 69 v14.toNatClampNeg) (I18 64 x2.toNatClampNeg) _ _ _ hH (lv_sub hl [1, 2, 3, 4, 0] rfl) hf
        refine lv_icmp_ne (tgt := 76) hx hb dX12_pairsUpTo_69 (by decide) (fun c35 => ?_) (fun c35 => ?_)
        · have hf := nm_ie c35 hf
          refine lv_iconst (v := 0) hx hb dX12_pairsUpTo_76 (by decide) ?_
          exact hJ77 (0 : Int32) _ _ _ hH (lv_sub hl [1, 2, 3, 0] rfl) hf
        · have hf := nm_it c35 hf
          refine lv_iconst (v := 1) hx hb dX12_pairsUpTo_72 (by decide) ?_
          refine lv_goto (tgt := 77) hx hb dX12_pairsUpTo_73 (by decide) ?_
          exact hJ77 (1 : Int32) _ _ _ hH (lv_sub hl [1, 2, 3, 0] rfl) hf
  obtain ⟨I36, hl37, hf⟩ := nm_sd1 hf
  refine hL46 nm_F (0 : Int32) I10 _ _ _ _ hH (lv_sub hl [1, 2, 0] rfl) hl37 (fun H locs ls hH hl => ?_)
  have hl : lv_has ls 5 [] := hl
  have hH : nm_H D Y (fun q => s0 ≤ q) s.heap X moN ad (I36, nJ0, moZ) H locs := hH
  exact nm_vret hx hb hr hlocks hQ hH (congrArg (fun q => (q, nJ0, moZ)) (Option.some.inj hf)) dX12_pairsUpTo_164
def f_X12_isTaken_J33 (x4 : Int32) (t33_0 : Int32) (I : nm_I) (k : Int32 → Int32 → Option (Int32)) : Option (Int32) :=
k t33_0 (x4 + 1)
def f_X12_isTaken_J28 (x4 : Int32) (I : nm_I) (k : Int32 → Int32 → Option (Int32)) : Option (Int32) :=
f_X12_isTaken_J33 x4 (1 : Int32) I k
def f_X12_isTaken_L5 (x1 : Int32) (x2 : Int32) (I : nm_I) : Nat → Int32 → Int32 → Option (Int32)
  | 0, _, _ => none
  | n5 + 1, x3, x4 =>
    (if x2 ≤ x4 then
    some x3
    else
    (if x3 = 0 then
    nm_c x4 12 (
    (if ((I 74 x4.toNatClampNeg) / (2 : Int32)) = x1 then
    f_X12_isTaken_J28 x4 I (f_X12_isTaken_L5 x1 x2 I n5)
    else
    f_X12_isTaken_J33 x4 (0 : Int32) I (f_X12_isTaken_L5 x1 x2 I n5)))
    else
    f_X12_isTaken_J28 x4 I (f_X12_isTaken_L5 x1 x2 I n5)))
def f_X12_isTaken (x1 : Int32) (x2 : Int32) (I : nm_I) : Option Int32 :=
nm_s1 (f_X12_isTaken_L5 x1 x2 I nm_F (0 : Int32) (0 : Int32)) fun y5 =>
nm_b y5 (some y5)
set_option maxHeartbeats 4000000 in
set_option maxRecDepth 100000 in
theorem k_X12_isTaken {l : Launch} {D : va_G} {Y : nm_Y} {s0 : Nat} {X : va_W} {ad : Nat → Nat}  {x1 : Int32} {x2 : Int32} {I : nm_I} {r0 : Int32} (hf : f_X12_isTaken x1 x2 I = some r0) :
    nm_Met l yX12_isTaken cX12_isTaken 5 (some .boolean) { frames := 0, cells := 0, slots := 0, locals := 0 } [.ref (ad 0), .int x1, .int x2] D Y s0 (nm_W Y X moN ad (I, nJ0, moZ)) (nm_Qi D s0 r0 (nm_W Y X moN ad (I, nJ0, moZ))) 0 0 := by
  refine nm_of (by decide) (Nat.le_of_ble_eq_true rfl) ?_
  intro p e R s m args below meth c Q ls hx hb hr hlocks hml hown hts hs0 hK hZ hRf hRl hRc hRs hQ hP hD hl
  have hH : nm_H D Y (fun q => s0 ≤ q) s.heap X moN ad (I, nJ0, moZ) s.heap [] := ⟨hP, hD, va_S.rf⟩
  have hl : lv_has ls 5 [(0, .ref (ad 0)), (1, .int x1), (2, .int x2)] := hl
  unfold f_X12_isTaken at hf
  refine lv_iconst (v := 0) hx hb dX12_isTaken_0 (by decide) ?_
  refine lv_istore_n (lv' := [(3, .int (0 : Int32)), (0, .ref (ad 0)), (1, .int x1), (2, .int x2)]) hx hb dX12_isTaken_1 rfl hl (by decide) rfl (fun ls hl => ?_)
  refine lv_iconst (v := 0) hx hb dX12_isTaken_2 (by decide) ?_
  refine lv_istore (lv' := [(4, .int (0 : Int32)), (3, .int (0 : Int32)), (0, .ref (ad 0)), (1, .int x1), (2, .int x2)]) hx hb dX12_isTaken_3 hl (by decide) rfl (fun ls hl => ?_)
  have hL5 : ∀ (n5 : Nat) (x3 : Int32) (x4 : Int32) (H : Heap) (locs : List Loc) (ls : Array Slot) (o5 : Int32), nm_H D Y (fun q => s0 ≤ q) s.heap X moN ad (I, nJ0, moZ) H locs → lv_has ls 5 [(0, .ref (ad 0)), (1, .int x1), (2, .int x2), (3, .int x3), (4, .int x4)] → f_X12_isTaken_L5 x1 x2 I n5 x3 x4 = some o5 → (∀ (H : Heap) (locs : List Loc) (ls : Array Slot), nm_H D Y (fun q => s0 ≤ q) s.heap X moN ad (I, nJ0, moZ) H locs → lv_has ls 5 [(3, .int o5)] → W p l e R s m args below meth c H locs 0 0 Q (F0 m 40 ls [])) → W p l e R s m args below meth c H locs 0 0 Q (F0 m 5 ls []) := by
    intro n5
    induction n5 with
    | zero =>
      intro x3 x4 H locs ls o5 hH hl hf hX5
      cases hf
    | succ n5 ih5 =>
      intro x3 x4 H locs ls o5 hH hl hf hX5
      rw [f_X12_isTaken_L5] at hf
      refine lv_iload hx hb dX12_isTaken_5 (lv_at hl 4 rfl) ?_
      refine lv_iload_n hx hb dX12_isTaken_7 rfl (lv_at hl 2 rfl) ?_
      refine lv_icmp_ge (tgt := 40) hx hb dX12_isTaken_8 (by decide) (fun c1 => ?_) (fun c1 => ?_)
      · have hf := nm_it c1 hf
        cases hf
        exact hX5 _ _ _ hH (lv_sub hl [3] rfl)
      · have hf := nm_ie c1 hf
        refine lv_iload_n hx hb dX12_isTaken_11 rfl (lv_at hl 3 rfl) ?_
        have hJ33 : ∀ (t33_0 : Int32) (H : Heap) (locs : List Loc) (ls : Array Slot), nm_H D Y (fun q => s0 ≤ q) s.heap X moN ad (I, nJ0, moZ) H locs → lv_has ls 5 [(0, .ref (ad 0)), (1, .int x1), (2, .int x2), (4, .int x4)] → f_X12_isTaken_J33 x4 t33_0 I (f_X12_isTaken_L5 x1 x2 I n5) = some o5 → W p l e R s m args below meth c H locs 0 0 Q (F0 m 33 ls [.int t33_0]) := by
          intro t33_0 H locs ls hH hl hf
          unfold f_X12_isTaken_J33 at hf
          refine lv_istore_n (lv' := [(3, .int t33_0), (0, .ref (ad 0)), (1, .int x1), (2, .int x2), (4, .int x4)]) hx hb dX12_isTaken_33 rfl hl (by decide) rfl (fun ls hl => ?_)
          refine lv_iinc (v := x4 + 1) (lv' := [(4, .int (x4 + 1)), (3, .int t33_0), (0, .ref (ad 0)), (1, .int x1), (2, .int x2)]) hx hb dX12_isTaken_34 hl (k := 4) rfl rfl (by decide) rfl (fun ls hl => ?_)
          refine lv_goto (tgt := 5) hx hb dX12_isTaken_37 (by decide) ?_
          exact ih5 t33_0 (x4 + 1) _ _ _ _ hH (lv_sub hl [2, 3, 4, 1, 0] rfl) hf hX5
        have hJ28 : ∀  (H : Heap) (locs : List Loc) (ls : Array Slot), nm_H D Y (fun q => s0 ≤ q) s.heap X moN ad (I, nJ0, moZ) H locs → lv_has ls 5 [(0, .ref (ad 0)), (1, .int x1), (2, .int x2), (4, .int x4)] → f_X12_isTaken_J28 x4 I (f_X12_isTaken_L5 x1 x2 I n5) = some o5 → W p l e R s m args below meth c H locs 0 0 Q (F0 m 28 ls []) := by
          intro  H locs ls hH hl hf
          unfold f_X12_isTaken_J28 at hf
          refine lv_iconst (v := 1) hx hb dX12_isTaken_28 (by decide) ?_
          refine lv_goto (tgt := 33) hx hb dX12_isTaken_29 (by decide) ?_
          exact hJ33 (1 : Int32) _ _ _ hH (lv_sub hl [0, 1, 2, 3] rfl) hf
        refine lv_if_ne (tgt := 28) hx hb dX12_isTaken_12 (by decide) (fun c2 => ?_) (fun c2 => ?_)
        · have hf := nm_ie c2 hf
          exact hJ28  _ _ _ hH (lv_sub hl [0, 1, 2, 4] rfl) hf
        · have hf := nm_it c2 hf
          refine lv_aload_n hx hb dX12_isTaken_15 rfl (lv_at hl 0 rfl) ?_
          refine gf_12_73 hK hx hb hts hown hH mo_n0 mo_k0 (hts _ tw_1028) (fun _ h9 => h9) dX12_isTaken_16 ?_
          refine lv_iload hx hb dX12_isTaken_19 (lv_at hl 4 rfl) ?_
          obtain ⟨hi3, hf⟩ := nm_chk hf
          refine nm_iald hx hb hK hH mo_n74 mo_k74 mo_l74 hi3 dX12_isTaken_21 ?_
          refine lv_iconst (v := 2) hx hb dX12_isTaken_22 (by decide) ?_
          refine lv_idiv hx hb dX12_isTaken_23 (by decide) ?_
          refine lv_iload_n hx hb dX12_isTaken_24 rfl (lv_at hl 1 rfl) ?_
          refine lv_icmp_ne (tgt := 32) hx hb dX12_isTaken_25 (by decide) (fun c4 => ?_) (fun c4 => ?_)
          · have hf := nm_ie c4 hf
            refine lv_iconst (v := 0) hx hb dX12_isTaken_32 (by decide) ?_
            exact hJ33 (0 : Int32) _ _ _ hH (lv_sub hl [0, 1, 2, 4] rfl) hf
          · have hf := nm_it c4 hf
            exact hJ28  _ _ _ hH (lv_sub hl [0, 1, 2, 4] rfl) hf
  obtain ⟨y5, hl7, hf⟩ := nm_sd1 hf
  refine hL5 nm_F (0 : Int32) (0 : Int32) _ _ _ _ hH (lv_sub hl [2, 3, 4, 1, 0] rfl) hl7 (fun H locs ls hH hl => ?_)
  have hl : lv_has ls 5 [(3, .int y5)] := hl
  have hH : nm_H D Y (fun q => s0 ≤ q) s.heap X moN ad (I, nJ0, moZ) H locs := hH
  refine lv_iload_n hx hb dX12_isTaken_40 rfl (lv_at hl 0 rfl) ?_
  obtain ⟨hz6, hf⟩ := nm_bool hf
  exact nm_zret hx hb hr hlocks hQ hH hz6.1 (Option.some.inj hf) rfl dX12_isTaken_41
def f_X12_goes_J128 (t128_2 : Int32) (t128_1 : Int32) (I12 : nm_I) : Option (Int32 × nm_I) :=
nm_s2 (f_X12_pair t128_1 t128_2 I12) fun r19 I17 =>
(if r19 = 0 then
some ((0 : Int32), I17)
else
some ((1 : Int32), I17))
def f_X12_goes_J95 (x1 : Int32) (v1 : Int32) (t16_0 : Int32) (t95_2 : Int32) (t95_1 : Int32) (I7 : nm_I) : Option (Int32 × nm_I) :=
nm_s2 (f_X12_pair t95_1 t95_2 I7) fun r14 I12 =>
(if r14 = 0 then
some ((0 : Int32), I12)
else
nm_c x1 4096 (
(if t16_0 = 0 then
nm_c v1 12 (
f_X12_goes_J128 (I12 69 v1.toNatClampNeg) (I12 65 x1.toNatClampNeg) I12)
else
nm_c v1 12 (
f_X12_goes_J128 (I12 68 v1.toNatClampNeg) (I12 65 x1.toNatClampNeg) I12))))
def f_X12_goes_J44 (x1 : Int32) (v1 : Int32) (t16_0 : Int32) (I : nm_I) : Option (Int32 × nm_I) :=
nm_s1 (f_X12_pairsUpTo x1 I) fun I3 =>
nm_c x1 4096 (
nm_c v1 12 (
nm_s2 (f_X12_pair (I3 63 x1.toNatClampNeg) (I3 67 v1.toNatClampNeg) I3) fun r9 I7 =>
(if r9 = 0 then
some ((0 : Int32), I7)
else
nm_c x1 4096 (
(if t16_0 = 0 then
nm_c v1 12 (
f_X12_goes_J95 x1 v1 t16_0 (I7 68 v1.toNatClampNeg) (I7 64 x1.toNatClampNeg) I7)
else
nm_c v1 12 (
f_X12_goes_J95 x1 v1 t16_0 (I7 69 v1.toNatClampNeg) (I7 64 x1.toNatClampNeg) I7))))))
def f_X12_goes_J16 (x1 : Int32) (v1 : Int32) (t16_0 : Int32) (I : nm_I) : Option (Int32 × nm_I) :=
nm_c v1 12 (
(if (I 70 v1.toNatClampNeg) = 0 then
f_X12_goes_J44 x1 v1 t16_0 I
else
nm_c v1 12 (
nm_c x1 4096 (
(if (I 70 v1.toNatClampNeg) = (I 62 x1.toNatClampNeg) then
f_X12_goes_J44 x1 v1 t16_0 I
else
some ((0 : Int32), I))))))
def f_X12_goes (x1 : Int32) (x2 : Int32) (I : nm_I) : Option (Int32 × nm_I) :=
nm_l (x2 / (2 : Int32)) fun v1 =>
(if (x2 - x2 / (2 : Int32) * (2 : Int32)) = (1 : Int32) then
f_X12_goes_J16 x1 v1 (1 : Int32) I
else
f_X12_goes_J16 x1 v1 (0 : Int32) I)
set_option maxHeartbeats 4000000 in
set_option maxRecDepth 100000 in
theorem k_X12_goes {l : Launch} {D : va_G} {Y : nm_Y} {s0 : Nat} {X : va_W} {ad : Nat → Nat}  {x1 : Int32} {x2 : Int32} {I : nm_I} {r0 : Int32} {M0 : nm_I} (hf : f_X12_goes x1 x2 I = some (r0, M0)) :
    nm_Met l yX12_goes cX12_goes 5 (some .boolean) { frames := 2, cells := 0, slots := 0, locals := 46 } [.ref (ad 0), .int x1, .int x2] D Y s0 (nm_W Y X moN ad (I, nJ0, moZ)) (nm_Qi D s0 r0 (nm_W Y X moN ad (M0, nJ0, moZ))) 0 0 := by
  refine nm_of (by decide) (Nat.le_of_ble_eq_true rfl) ?_
  intro p e R s m args below meth c Q ls hx hb hr hlocks hml hown hts hs0 hK hZ hRf hRl hRc hRs hQ hP hD hl
  have hH : nm_H D Y (fun q => s0 ≤ q) s.heap X moN ad (I, nJ0, moZ) s.heap [] := ⟨hP, hD, va_S.rf⟩
  have hl : lv_has ls 5 [(0, .ref (ad 0)), (1, .int x1), (2, .int x2)] := hl
  unfold f_X12_goes at hf
  refine lv_iload_n hx hb dX12_goes_0 rfl (lv_at hl 2 rfl) ?_
  refine lv_iconst (v := 2) hx hb dX12_goes_1 (by decide) ?_
  refine lv_idiv hx hb dX12_goes_2 (by decide) ?_
  obtain ⟨v1, ev1, hf⟩ := nm_let hf
  refine nm_topi ev1 ?_
  refine lv_istore_n (lv' := [(3, .int v1), (0, .ref (ad 0)), (1, .int x1), (2, .int x2)]) hx hb dX12_goes_3 rfl hl (by decide) rfl (fun ls hl => ?_)
  refine lv_iload_n hx hb dX12_goes_4 rfl (lv_at hl 3 rfl) ?_
  refine lv_iconst (v := 2) hx hb dX12_goes_5 (by decide) ?_
  refine lv_irem hx hb dX12_goes_6 (by decide) ?_
  refine lv_iconst (v := 1) hx hb dX12_goes_7 (by decide) ?_
  have hJ16 : ∀ (t16_0 : Int32) (H : Heap) (locs : List Loc) (ls : Array Slot), nm_H D Y (fun q => s0 ≤ q) s.heap X moN ad (I, nJ0, moZ) H locs → lv_has ls 5 [(0, .ref (ad 0)), (1, .int x1), (3, .int v1)] → f_X12_goes_J16 x1 v1 t16_0 I = some (r0, M0) → W p l e R s m args below meth c H locs 0 0 Q (F0 m 16 ls [.int t16_0]) := by
    intro t16_0 H locs ls hH hl hf
    unfold f_X12_goes_J16 at hf
    refine lv_istore (lv' := [(4, .int t16_0), (0, .ref (ad 0)), (1, .int x1), (3, .int v1)]) hx hb dX12_goes_16 hl (by decide) rfl (fun ls hl => ?_)
    refine lv_aload_n hx hb dX12_goes_18 rfl (lv_at hl 1 rfl) ?_
    refine gf_12_69 hK hx hb hts hown hH mo_n0 mo_k0 (hts _ tw_1024) (fun _ h9 => h9) dX12_goes_19 ?_
    refine lv_iload_n hx hb dX12_goes_22 rfl (lv_at hl 3 rfl) ?_
    obtain ⟨hi2, hf⟩ := nm_chk hf
    refine nm_iald hx hb hK hH mo_n70 mo_k70 mo_l70 hi2 dX12_goes_23 ?_
    have hJ44 : ∀  (H : Heap) (locs : List Loc) (ls : Array Slot), nm_H D Y (fun q => s0 ≤ q) s.heap X moN ad (I, nJ0, moZ) H locs → lv_has ls 5 [(0, .ref (ad 0)), (1, .int x1), (3, .int v1), (4, .int t16_0)] → f_X12_goes_J44 x1 v1 t16_0 I = some (r0, M0) → W p l e R s m args below meth c H locs 0 0 Q (F0 m 44 ls []) := by
      intro  H locs ls hH hl hf
      unfold f_X12_goes_J44 at hf
      refine lv_aload_n hx hb dX12_goes_44 rfl (lv_at hl 0 rfl) ?_
      refine lv_iload_n hx hb dX12_goes_45 rfl (lv_at hl 1 rfl) ?_
      obtain ⟨I3, hc4, hf⟩ := nm_sd1 hf
      refine nm_callv (nm_runV (X := X) (nl := moN) (k_X12_pairsUpTo (hf := hc4)) hx hb hml hown hts hs0 hK hZ hH tw_1471 tw_1468 tw_1470 (sw_X12_pairsUpTo) tw_9 hd_X12_pairsUpTo mo_n0 mo_k0 (by decide) rfl rfl rfl ⟨Nat.le_trans (Nat.le_of_ble_eq_true rfl) hRf, Nat.le_trans (Nat.le_of_ble_eq_true rfl) hRl⟩ rfl hl.1 rfl (Nat.le_of_ble_eq_true rfl) dX12_goes_46 ⟨Nat.zero_le _, Nat.zero_le _⟩) hH (fun H locs hH => ?_)
      have hH : nm_H D Y (fun q => s0 ≤ q) s.heap X moN ad (I3, nJ0, moZ) H locs := hH
      refine lv_aload_n hx hb dX12_goes_49 rfl (lv_at hl 0 rfl) ?_
      refine lv_aload_n hx hb dX12_goes_50 rfl (lv_at hl 0 rfl) ?_
      refine gf_12_62 hK hx hb hts hown hH mo_n0 mo_k0 (hts _ tw_1017) (fun _ h9 => h9) dX12_goes_51 ?_
      refine lv_iload_n hx hb dX12_goes_54 rfl (lv_at hl 1 rfl) ?_
      obtain ⟨hi5, hf⟩ := nm_chk hf
      refine nm_iald hx hb hK hH mo_n63 mo_k63 mo_l63 hi5 dX12_goes_55 ?_
      refine lv_aload_n hx hb dX12_goes_56 rfl (lv_at hl 0 rfl) ?_
      refine gf_12_66 hK hx hb hts hown hH mo_n0 mo_k0 (hts _ tw_1021) (fun _ h9 => h9) dX12_goes_57 ?_
      refine lv_iload_n hx hb dX12_goes_60 rfl (lv_at hl 2 rfl) ?_
      obtain ⟨hi6, hf⟩ := nm_chk hf
      refine nm_iald hx hb hK hH mo_n67 mo_k67 mo_l67 hi6 dX12_goes_61 ?_
      obtain ⟨r9, I7, hc8, hf⟩ := nm_sd2 hf
      refine nm_calli (nm_runV (X := X) (nl := moN) (k_X12_pair (hf := hc8)) hx hb hml hown hts hs0 hK hZ hH tw_1475 tw_1472 tw_1474 (sw_X12_pair) tw_9 hd_X12_pair mo_n0 mo_k0 (by decide) rfl rfl rfl ⟨Nat.le_trans (Nat.le_of_ble_eq_true rfl) hRf, Nat.le_trans (Nat.le_of_ble_eq_true rfl) hRl⟩ rfl hl.1 rfl (Nat.le_of_ble_eq_true rfl) dX12_goes_62 ⟨Nat.zero_le _, Nat.zero_le _⟩) hH (fun H locs hH => ?_)
      have hH : nm_H D Y (fun q => s0 ≤ q) s.heap X moN ad (I7, nJ0, moZ) H locs := hH
      refine lv_if_eq (tgt := 138) hx hb dX12_goes_65 (by decide) (fun c10 => ?_) (fun c10 => ?_)
      · have hf := nm_it c10 hf
        refine lv_iconst (v := 0) hx hb dX12_goes_138 (by decide) ?_
        exact nm_zret hx hb hr hlocks hQ hH rfl (congrArg Prod.fst (Option.some.inj hf)) (congrArg (fun q => (q.2, nJ0, moZ)) (Option.some.inj hf)) dX12_goes_139
      · have hf := nm_ie c10 hf
        refine lv_aload_n hx hb dX12_goes_68 rfl (lv_at hl 0 rfl) ?_
        refine lv_aload_n hx hb dX12_goes_69 rfl (lv_at hl 0 rfl) ?_
        refine gf_12_63 hK hx hb hts hown hH mo_n0 mo_k0 (hts _ tw_1018) (fun _ h9 => h9) dX12_goes_70 ?_
        refine lv_iload_n hx hb dX12_goes_73 rfl (lv_at hl 1 rfl) ?_
        obtain ⟨hi11, hf⟩ := nm_chk hf
        refine nm_iald hx hb hK hH mo_n64 mo_k64 mo_l64 hi11 dX12_goes_74 ?_
        refine lv_iload hx hb dX12_goes_75 (lv_at hl 3 rfl) ?_
        have hJ95 : ∀ (t95_2 : Int32) (t95_1 : Int32) (H : Heap) (locs : List Loc) (ls : Array Slot), nm_H D Y (fun q => s0 ≤ q) s.heap X moN ad (I7, nJ0, moZ) H locs → lv_has ls 5 [(0, .ref (ad 0)), (1, .int x1), (3, .int v1), (4, .int t16_0)] → f_X12_goes_J95 x1 v1 t16_0 t95_2 t95_1 I7 = some (r0, M0) → W p l e R s m args below meth c H locs 0 0 Q (F0 m 95 ls [.int t95_2, .int t95_1, .ref (ad 0)]) := by
          intro t95_2 t95_1 H locs ls hH hl hf
          unfold f_X12_goes_J95 at hf
          obtain ⟨r14, I12, hc13, hf⟩ := nm_sd2 hf
          refine nm_calli (nm_runV (X := X) (nl := moN) (k_X12_pair (hf := hc13)) hx hb hml hown hts hs0 hK hZ hH tw_1475 tw_1472 tw_1474 (sw_X12_pair) tw_9 hd_X12_pair mo_n0 mo_k0 (by decide) rfl rfl rfl ⟨Nat.le_trans (Nat.le_of_ble_eq_true rfl) hRf, Nat.le_trans (Nat.le_of_ble_eq_true rfl) hRl⟩ rfl hl.1 rfl (Nat.le_of_ble_eq_true rfl) dX12_goes_95 ⟨Nat.zero_le _, Nat.zero_le _⟩) hH (fun H locs hH => ?_)
          have hH : nm_H D Y (fun q => s0 ≤ q) s.heap X moN ad (I12, nJ0, moZ) H locs := hH
          refine lv_if_eq (tgt := 138) hx hb dX12_goes_98 (by decide) (fun c15 => ?_) (fun c15 => ?_)
          · have hf := nm_it c15 hf
            refine lv_iconst (v := 0) hx hb dX12_goes_138 (by decide) ?_
            exact nm_zret hx hb hr hlocks hQ hH rfl (congrArg Prod.fst (Option.some.inj hf)) (congrArg (fun q => (q.2, nJ0, moZ)) (Option.some.inj hf)) dX12_goes_139
          · have hf := nm_ie c15 hf
            refine lv_aload_n hx hb dX12_goes_101 rfl (lv_at hl 0 rfl) ?_
            refine lv_aload_n hx hb dX12_goes_102 rfl (lv_at hl 0 rfl) ?_
            refine gf_12_64 hK hx hb hts hown hH mo_n0 mo_k0 (hts _ tw_1019) (fun _ h9 => h9) dX12_goes_103 ?_
            refine lv_iload_n hx hb dX12_goes_106 rfl (lv_at hl 1 rfl) ?_
            obtain ⟨hi16, hf⟩ := nm_chk hf
            refine nm_iald hx hb hK hH mo_n65 mo_k65 mo_l65 hi16 dX12_goes_107 ?_
            refine lv_iload hx hb dX12_goes_108 (lv_at hl 3 rfl) ?_
            have hJ128 : ∀ (t128_2 : Int32) (t128_1 : Int32) (H : Heap) (locs : List Loc) (ls : Array Slot), nm_H D Y (fun q => s0 ≤ q) s.heap X moN ad (I12, nJ0, moZ) H locs → lv_has ls 5 [] → f_X12_goes_J128 t128_2 t128_1 I12 = some (r0, M0) → W p l e R s m args below meth c H locs 0 0 Q (F0 m 128 ls [.int t128_2, .int t128_1, .ref (ad 0)]) := by
              intro t128_2 t128_1 H locs ls hH hl hf
              unfold f_X12_goes_J128 at hf
              obtain ⟨r19, I17, hc18, hf⟩ := nm_sd2 hf
              refine nm_calli (nm_runV (X := X) (nl := moN) (k_X12_pair (hf := hc18)) hx hb hml hown hts hs0 hK hZ hH tw_1475 tw_1472 tw_1474 (sw_X12_pair) tw_9 hd_X12_pair mo_n0 mo_k0 (by decide) rfl rfl rfl ⟨Nat.le_trans (Nat.le_of_ble_eq_true rfl) hRf, Nat.le_trans (Nat.le_of_ble_eq_true rfl) hRl⟩ rfl hl.1 rfl (Nat.le_of_ble_eq_true rfl) dX12_goes_128 ⟨Nat.zero_le _, Nat.zero_le _⟩) hH (fun H locs hH => ?_)
              have hH : nm_H D Y (fun q => s0 ≤ q) s.heap X moN ad (I17, nJ0, moZ) H locs := hH
              refine lv_if_eq (tgt := 138) hx hb dX12_goes_131 (by decide) (fun c20 => ?_) (fun c20 => ?_)
              · have hf := nm_it c20 hf
                refine lv_iconst (v := 0) hx hb dX12_goes_138 (by decide) ?_
                exact nm_zret hx hb hr hlocks hQ hH rfl (congrArg Prod.fst (Option.some.inj hf)) (congrArg (fun q => (q.2, nJ0, moZ)) (Option.some.inj hf)) dX12_goes_139
              · have hf := nm_ie c20 hf
                refine lv_iconst (v := 1) hx hb dX12_goes_134 (by decide) ?_
                refine lv_goto (tgt := 139) hx hb dX12_goes_135 (by decide) ?_
                exact nm_zret hx hb hr hlocks hQ hH rfl (congrArg Prod.fst (Option.some.inj hf)) (congrArg (fun q => (q.2, nJ0, moZ)) (Option.some.inj hf)) dX12_goes_139
            refine lv_if_eq (tgt := 122) hx hb dX12_goes_110 (by decide) (fun c21 => ?_) (fun c21 => ?_)
            · have hf := nm_it c21 hf
              refine lv_aload_n hx hb dX12_goes_122 rfl (lv_at hl 0 rfl) ?_
              refine gf_12_68 hK hx hb hts hown hH mo_n0 mo_k0 (hts _ tw_1023) (fun _ h9 => h9) dX12_goes_123 ?_
              refine lv_iload_n hx hb dX12_goes_126 rfl (lv_at hl 2 rfl) ?_
              obtain ⟨hi22, hf⟩ := nm_chk hf
              refine nm_iald hx hb hK hH mo_n69 mo_k69 mo_l69 hi22 dX12_goes_127 ?_
              exact hJ128 (I12 69 v1.toNatClampNeg) (I12 65 x1.toNatClampNeg) _ _ _ hH (lv_sub hl [] rfl) hf
            · have hf := nm_ie c21 hf
              refine lv_aload_n hx hb dX12_goes_113 rfl (lv_at hl 0 rfl) ?_
              refine gf_12_67 hK hx hb hts hown hH mo_n0 mo_k0 (hts _ tw_1022) (fun _ h9 => h9) dX12_goes_114 ?_
              refine lv_iload_n hx hb dX12_goes_117 rfl (lv_at hl 2 rfl) ?_
              obtain ⟨hi23, hf⟩ := nm_chk hf
              refine nm_iald hx hb hK hH mo_n68 mo_k68 mo_l68 hi23 dX12_goes_118 ?_
              refine lv_goto (tgt := 128) hx hb dX12_goes_119 (by decide) ?_
              exact hJ128 (I12 68 v1.toNatClampNeg) (I12 65 x1.toNatClampNeg) _ _ _ hH (lv_sub hl [] rfl) hf
        refine lv_if_eq (tgt := 89) hx hb dX12_goes_77 (by decide) (fun c24 => ?_) (fun c24 => ?_)
        · have hf := nm_it c24 hf
          refine lv_aload_n hx hb dX12_goes_89 rfl (lv_at hl 0 rfl) ?_
          refine gf_12_67 hK hx hb hts hown hH mo_n0 mo_k0 (hts _ tw_1022) (fun _ h9 => h9) dX12_goes_90 ?_
          refine lv_iload_n hx hb dX12_goes_93 rfl (lv_at hl 2 rfl) ?_
          obtain ⟨hi25, hf⟩ := nm_chk hf
          refine nm_iald hx hb hK hH mo_n68 mo_k68 mo_l68 hi25 dX12_goes_94 ?_
          exact hJ95 (I7 68 v1.toNatClampNeg) (I7 64 x1.toNatClampNeg) _ _ _ hH (lv_sub hl [0, 1, 2, 3] rfl) hf
        · have hf := nm_ie c24 hf
          refine lv_aload_n hx hb dX12_goes_80 rfl (lv_at hl 0 rfl) ?_
          refine gf_12_68 hK hx hb hts hown hH mo_n0 mo_k0 (hts _ tw_1023) (fun _ h9 => h9) dX12_goes_81 ?_
          refine lv_iload_n hx hb dX12_goes_84 rfl (lv_at hl 2 rfl) ?_
          obtain ⟨hi26, hf⟩ := nm_chk hf
          refine nm_iald hx hb hK hH mo_n69 mo_k69 mo_l69 hi26 dX12_goes_85 ?_
          refine lv_goto (tgt := 95) hx hb dX12_goes_86 (by decide) ?_
          exact hJ95 (I7 69 v1.toNatClampNeg) (I7 64 x1.toNatClampNeg) _ _ _ hH (lv_sub hl [0, 1, 2, 3] rfl) hf
    refine lv_if_eq (tgt := 44) hx hb dX12_goes_24 (by decide) (fun c27 => ?_) (fun c27 => ?_)
    · have hf := nm_it c27 hf
      exact hJ44  _ _ _ hH (lv_sub hl [1, 2, 3, 0] rfl) hf
    · have hf := nm_ie c27 hf
      refine lv_aload_n hx hb dX12_goes_27 rfl (lv_at hl 1 rfl) ?_
      refine gf_12_69 hK hx hb hts hown hH mo_n0 mo_k0 (hts _ tw_1024) (fun _ h9 => h9) dX12_goes_28 ?_
      refine lv_iload_n hx hb dX12_goes_31 rfl (lv_at hl 3 rfl) ?_
      obtain ⟨hi28, hf⟩ := nm_chk hf
      refine nm_iald hx hb hK hH mo_n70 mo_k70 mo_l70 hi28 dX12_goes_32 ?_
      refine lv_aload_n hx hb dX12_goes_33 rfl (lv_at hl 1 rfl) ?_
      refine gf_12_61 hK hx hb hts hown hH mo_n0 mo_k0 (hts _ tw_1016) (fun _ h9 => h9) dX12_goes_34 ?_
      refine lv_iload_n hx hb dX12_goes_37 rfl (lv_at hl 2 rfl) ?_
      obtain ⟨hi29, hf⟩ := nm_chk hf
      refine nm_iald hx hb hK hH mo_n62 mo_k62 mo_l62 hi29 dX12_goes_38 ?_
      refine lv_icmp_eq (tgt := 44) hx hb dX12_goes_39 (by decide) (fun c30 => ?_) (fun c30 => ?_)
      · have hf := nm_it c30 hf
        exact hJ44  _ _ _ hH (lv_sub hl [1, 2, 3, 0] rfl) hf
      · have hf := nm_ie c30 hf
        refine lv_iconst (v := 0) hx hb dX12_goes_42 (by decide) ?_
        exact nm_zret hx hb hr hlocks hQ hH rfl (congrArg Prod.fst (Option.some.inj hf)) (congrArg (fun q => (q.2, nJ0, moZ)) (Option.some.inj hf)) dX12_goes_43
  refine lv_icmp_ne (tgt := 15) hx hb dX12_goes_8 (by decide) (fun c31 => ?_) (fun c31 => ?_)
  · have hf := nm_ie c31 hf
    refine lv_iconst (v := 0) hx hb dX12_goes_15 (by decide) ?_
    exact hJ16 (0 : Int32) _ _ _ hH (lv_sub hl [1, 2, 0] rfl) hf
  · have hf := nm_it c31 hf
    refine lv_iconst (v := 1) hx hb dX12_goes_11 (by decide) ?_
    refine lv_goto (tgt := 16) hx hb dX12_goes_12 (by decide) ?_
    exact hJ16 (1 : Int32) _ _ _ hH (lv_sub hl [1, 2, 0] rfl) hf
