def f_X12_turns_L28 (x1 : Int32) (I : nm_I) : Nat → Int32 → Int32 → Int32 → Option (Int32 × Int32)
  | 0, _, _, _ => none
  | n28 + 1, x3, x4, x5 =>
    nm_c x1 128 (
    (if (I 4 x1.toNatClampNeg) ≤ x5 then
    some (x3, x4)
    else
    nm_l ((-1 : Int32) - x4) fun v6 =>
    f_X12_turns_L28 x1 I n28 v6 x3 (x5 + 1)))
def f_X12_turns_J25 (x1 : Int32) (x3 : Int32) (v2 : Int32) (I : nm_I) : Option (nm_I) :=
nm_s2 (f_X12_turns_L28 x1 I nm_F x3 v2 (0 : Int32)) fun y7 y8 =>
nm_c x1 128 (
nm_l (nm_up I 0 17 (y7 + ((I 3 x1.toNatClampNeg) - (I 3 x1.toNatClampNeg) / (64 : Int32) * (64 : Int32)))) fun I10 =>
nm_c x1 128 (
nm_l (nm_up I10 0 18 (y8 + ((I10 3 x1.toNatClampNeg) / (64 : Int32)))) fun I12 =>
some I12))
def f_X12_turns (x1 : Int32) (x2 : Int32) (I : nm_I) : Option (nm_I) :=
nm_l (x2 - x2 / (64 : Int32) * (64 : Int32)) fun v1 =>
nm_l (x2 / (64 : Int32)) fun v2 =>
nm_c x1 128 (
(if (I 5 x1.toNatClampNeg) = (1 : Int32) then
nm_l ((-1 : Int32) - v1) fun v15 =>
f_X12_turns_J25 x1 v15 v2 I
else
f_X12_turns_J25 x1 v1 v2 I))
set_option maxHeartbeats 4000000 in
set_option maxRecDepth 100000 in
theorem k_X12_turns {l : Launch} {D : va_G} {Y : nm_Y} {s0 : Nat} {X : va_W} {ad : Nat → Nat}  {x1 : Int32} {x2 : Int32} {I : nm_I} {M0 : nm_I} (hf : f_X12_turns x1 x2 I = some M0) :
    nm_Met l yX12_turns cX12_turns 7 none { frames := 0, cells := 0, slots := 0, locals := 0 } [.ref (ad 0), .int x1, .int x2] D Y s0 (nm_W Y X moN ad (I, nJ0, moZ)) (nm_Qv D s0 (nm_W Y X moN ad (M0, nJ0, moZ))) 0 0 := by
  refine nm_of (by decide) (Nat.le_of_ble_eq_true rfl) ?_
  intro p e R s m args below meth c Q ls hx hb hr hlocks hml hown hts hs0 hK hZ hRf hRl hRc hRs hQ hP hD hl
  have hH : nm_H D Y (fun q => s0 ≤ q) s.heap X moN ad (I, nJ0, moZ) s.heap [] := ⟨hP, hD, va_S.rf⟩
  have hl : lv_has ls 7 [(0, .ref (ad 0)), (1, .int x1), (2, .int x2)] := hl
  unfold f_X12_turns at hf
  refine lv_iload_n hx hb dX12_turns_0 rfl (lv_at hl 2 rfl) ?_
  refine lv_bipush (v := 64) hx hb dX12_turns_1 (by decide) ?_
  refine lv_irem hx hb dX12_turns_3 (by decide) ?_
  obtain ⟨v1, ev1, hf⟩ := nm_let hf
  refine nm_topi ev1 ?_
  refine lv_istore_n (lv' := [(3, .int v1), (0, .ref (ad 0)), (1, .int x1), (2, .int x2)]) hx hb dX12_turns_4 rfl hl (by decide) rfl (fun ls hl => ?_)
  refine lv_iload_n hx hb dX12_turns_5 rfl (lv_at hl 3 rfl) ?_
  refine lv_bipush (v := 64) hx hb dX12_turns_6 (by decide) ?_
  refine lv_idiv hx hb dX12_turns_8 (by decide) ?_
  obtain ⟨v2, ev2, hf⟩ := nm_let hf
  refine nm_topi ev2 ?_
  refine lv_istore (lv' := [(4, .int v2), (3, .int v1), (0, .ref (ad 0)), (1, .int x1), (2, .int x2)]) hx hb dX12_turns_9 hl (by decide) rfl (fun ls hl => ?_)
  refine lv_aload_n hx hb dX12_turns_11 rfl (lv_at hl 2 rfl) ?_
  refine gf_12_4 hK hx hb hts hown hH mo_n0 mo_k0 (hts _ tw_960) (fun _ h9 => h9) dX12_turns_12 ?_
  refine lv_iload_n hx hb dX12_turns_15 rfl (lv_at hl 3 rfl) ?_
  obtain ⟨hi3, hf⟩ := nm_chk hf
  refine nm_iald hx hb hK hH mo_n5 mo_k5 mo_l5 hi3 dX12_turns_16 ?_
  refine lv_iconst (v := 1) hx hb dX12_turns_17 (by decide) ?_
  have hJ25 : ∀ (x3 : Int32) (H : Heap) (locs : List Loc) (ls : Array Slot), nm_H D Y (fun q => s0 ≤ q) s.heap X moN ad (I, nJ0, moZ) H locs → lv_has ls 7 [(0, .ref (ad 0)), (1, .int x1), (3, .int x3), (4, .int v2)] → f_X12_turns_J25 x1 x3 v2 I = some M0 → W p l e R s m args below meth c H locs 0 0 Q (F0 m 25 ls []) := by
    intro x3 H locs ls hH hl hf
    unfold f_X12_turns_J25 at hf
    refine lv_iconst (v := 0) hx hb dX12_turns_25 (by decide) ?_
    refine lv_istore (lv' := [(5, .int (0 : Int32)), (0, .ref (ad 0)), (1, .int x1), (3, .int x3), (4, .int v2)]) hx hb dX12_turns_26 hl (by decide) rfl (fun ls hl => ?_)
    have hL28 : ∀ (n28 : Nat) (x3 : Int32) (x4 : Int32) (x5 : Int32) (H : Heap) (locs : List Loc) (ls : Array Slot) (o28 : Int32 × Int32), nm_H D Y (fun q => s0 ≤ q) s.heap X moN ad (I, nJ0, moZ) H locs → lv_has ls 7 [(0, .ref (ad 0)), (1, .int x1), (3, .int x3), (4, .int x4), (5, .int x5)] → f_X12_turns_L28 x1 I n28 x3 x4 x5 = some o28 → (∀ (H : Heap) (locs : List Loc) (ls : Array Slot), nm_H D Y (fun q => s0 ≤ q) s.heap X moN ad (I, nJ0, moZ) H locs → lv_has ls 7 [(0, .ref (ad 0)), (1, .int x1), (3, .int o28.1), (4, .int o28.2)] → W p l e R s m args below meth c H locs 0 0 Q (F0 m 57 ls [])) → W p l e R s m args below meth c H locs 0 0 Q (F0 m 28 ls []) := by
      intro n28
      induction n28 with
      | zero =>
        intro x3 x4 x5 H locs ls o28 hH hl hf hX28
        cases hf
      | succ n28 ih28 =>
        intro x3 x4 x5 H locs ls o28 hH hl hf hX28
        rw [f_X12_turns_L28] at hf
        refine lv_iload hx hb dX12_turns_28 (lv_at hl 4 rfl) ?_
        refine lv_aload_n hx hb dX12_turns_30 rfl (lv_at hl 0 rfl) ?_
        refine gf_12_3 hK hx hb hts hown hH mo_n0 mo_k0 (hts _ tw_959) (fun _ h9 => h9) dX12_turns_31 ?_
        refine lv_iload_n hx hb dX12_turns_34 rfl (lv_at hl 1 rfl) ?_
        obtain ⟨hi4, hf⟩ := nm_chk hf
        refine nm_iald hx hb hK hH mo_n4 mo_k4 mo_l4 hi4 dX12_turns_35 ?_
        refine lv_icmp_ge (tgt := 57) hx hb dX12_turns_36 (by decide) (fun c5 => ?_) (fun c5 => ?_)
        · have hf := nm_it c5 hf
          cases hf
          exact hX28 _ _ _ hH (lv_sub hl [0, 1, 2, 3] rfl)
        · have hf := nm_ie c5 hf
          refine lv_iload_n hx hb dX12_turns_39 rfl (lv_at hl 2 rfl) ?_
          refine lv_istore (lv' := [(6, .int x3), (0, .ref (ad 0)), (1, .int x1), (3, .int x3), (4, .int x4), (5, .int x5)]) hx hb dX12_turns_40 hl (by decide) rfl (fun ls hl => ?_)
          refine lv_iconst (v := -1) hx hb dX12_turns_42 (by decide) ?_
          refine lv_iload hx hb dX12_turns_43 (lv_at hl 4 rfl) ?_
          refine lv_isub hx hb dX12_turns_45 ?_
          obtain ⟨v6, ev6, hf⟩ := nm_let hf
          refine nm_topi ev6 ?_
          refine lv_istore_n (lv' := [(3, .int v6), (6, .int x3), (0, .ref (ad 0)), (1, .int x1), (4, .int x4), (5, .int x5)]) hx hb dX12_turns_46 rfl hl (by decide) rfl (fun ls hl => ?_)
          refine lv_iload hx hb dX12_turns_47 (lv_at hl 1 rfl) ?_
          refine lv_istore (lv' := [(4, .int x3), (3, .int v6), (6, .int x3), (0, .ref (ad 0)), (1, .int x1), (5, .int x5)]) hx hb dX12_turns_49 hl (by decide) rfl (fun ls hl => ?_)
          refine lv_iinc (v := x5 + 1) (lv' := [(5, .int (x5 + 1)), (4, .int x3), (3, .int v6), (6, .int x3), (0, .ref (ad 0)), (1, .int x1)]) hx hb dX12_turns_51 hl (k := 5) rfl rfl (by decide) rfl (fun ls hl => ?_)
          refine lv_goto (tgt := 28) hx hb dX12_turns_54 (by decide) ?_
          exact ih28 v6 x3 (x5 + 1) _ _ _ _ hH (lv_sub hl [4, 5, 2, 1, 0] rfl) hf hX28
    obtain ⟨y7, y8, hl13, hf⟩ := nm_sd2 hf
    refine hL28 nm_F x3 v2 (0 : Int32) _ _ _ _ hH (lv_sub hl [1, 2, 3, 4, 0] rfl) hl13 (fun H locs ls hH hl => ?_)
    have hl : lv_has ls 7 [(0, .ref (ad 0)), (1, .int x1), (3, .int y7), (4, .int y8)] := hl
    have hH : nm_H D Y (fun q => s0 ≤ q) s.heap X moN ad (I, nJ0, moZ) H locs := hH
    refine lv_aload_n hx hb dX12_turns_57 rfl (lv_at hl 0 rfl) ?_
    refine lv_iload_n hx hb dX12_turns_58 rfl (lv_at hl 2 rfl) ?_
    refine lv_aload_n hx hb dX12_turns_59 rfl (lv_at hl 0 rfl) ?_
    refine gf_12_2 hK hx hb hts hown hH mo_n0 mo_k0 (hts _ tw_958) (fun _ h9 => h9) dX12_turns_60 ?_
    refine lv_iload_n hx hb dX12_turns_63 rfl (lv_at hl 1 rfl) ?_
    obtain ⟨hi9, hf⟩ := nm_chk hf
    refine nm_iald hx hb hK hH mo_n3 mo_k3 mo_l3 hi9 dX12_turns_64 ?_
    refine lv_bipush (v := 64) hx hb dX12_turns_65 (by decide) ?_
    refine lv_irem hx hb dX12_turns_67 (by decide) ?_
    refine lv_iadd hx hb dX12_turns_68 ?_
    obtain ⟨I10, eI10, hf⟩ := nm_let hf
    refine pf_12_17 hK hx hb hts hown hH mo_n0 mo_k0 (hts _ tw_973) (fun _ h9 => h9) dX12_turns_69 (fun H locs hH => ?_)
    have hH : nm_H D Y (fun q => s0 ≤ q) s.heap X moN ad (I10, nJ0, moZ) H locs := by rw [eI10]; exact hH
    refine lv_aload_n hx hb dX12_turns_72 rfl (lv_at hl 0 rfl) ?_
    refine lv_iload hx hb dX12_turns_73 (lv_at hl 3 rfl) ?_
    refine lv_aload_n hx hb dX12_turns_75 rfl (lv_at hl 0 rfl) ?_
    refine gf_12_2 hK hx hb hts hown hH mo_n0 mo_k0 (hts _ tw_958) (fun _ h9 => h9) dX12_turns_76 ?_
    refine lv_iload_n hx hb dX12_turns_79 rfl (lv_at hl 1 rfl) ?_
    obtain ⟨hi11, hf⟩ := nm_chk hf
    refine nm_iald hx hb hK hH mo_n3 mo_k3 mo_l3 hi11 dX12_turns_80 ?_
    refine lv_bipush (v := 64) hx hb dX12_turns_81 (by decide) ?_
    refine lv_idiv hx hb dX12_turns_83 (by decide) ?_
    refine lv_iadd hx hb dX12_turns_84 ?_
    obtain ⟨I12, eI12, hf⟩ := nm_let hf
    refine pf_12_18 hK hx hb hts hown hH mo_n0 mo_k0 (hts _ tw_974) (fun _ h9 => h9) dX12_turns_85 (fun H locs hH => ?_)
    have hH : nm_H D Y (fun q => s0 ≤ q) s.heap X moN ad (I12, nJ0, moZ) H locs := by rw [eI12]; exact hH
    exact nm_vret hx hb hr hlocks hQ hH (congrArg (fun q => (q, nJ0, moZ)) (Option.some.inj hf)) dX12_turns_88
  refine lv_icmp_ne (tgt := 25) hx hb dX12_turns_18 (by decide) (fun c14 => ?_) (fun c14 => ?_)
  · have hf := nm_ie c14 hf
    exact hJ25 v1 _ _ _ hH (lv_sub hl [2, 3, 1, 0] rfl) hf
  · have hf := nm_it c14 hf
    refine lv_iconst (v := -1) hx hb dX12_turns_21 (by decide) ?_
    refine lv_iload_n hx hb dX12_turns_22 rfl (lv_at hl 1 rfl) ?_
    refine lv_isub hx hb dX12_turns_23 ?_
    obtain ⟨v15, ev15, hf⟩ := nm_let hf
    refine nm_topi ev15 ?_
    refine lv_istore_n (lv' := [(3, .int v15), (4, .int v2), (0, .ref (ad 0)), (1, .int x1), (2, .int x2)]) hx hb dX12_turns_24 rfl hl (by decide) rfl (fun ls hl => ?_)
    exact hJ25 v15 _ _ _ hH (lv_sub hl [2, 3, 0, 1] rfl) hf
def f_X12_placed (x1 : Int32) (x2 : Int32) (x3 : Int32) (I : nm_I) : Option Int32 :=
nm_c x1 128 (
nm_l ((I 0 17) + (x2 * (((I 6 x1.toNatClampNeg) - (I 6 x1.toNatClampNeg) / (200 : Int32) * (200 : Int32)) - (100 : Int32)))) fun v2 =>
nm_c x1 128 (
nm_l ((I 0 18) + (x3 * (((I 7 x1.toNatClampNeg) - (I 7 x1.toNatClampNeg) / (200 : Int32) * (200 : Int32)) - (100 : Int32)))) fun v4 =>
(if (f_X12_isIn v2.toInt64 (0 : Int64) (63 : Int64)) = 0 then
some (-1 : Int32)
else
(if (f_X12_isIn v4.toInt64 (0 : Int64) (63 : Int64)) = 0 then
some (-1 : Int32)
else
some (((64 : Int32) * v4) + v2)))))
set_option maxHeartbeats 4000000 in
set_option maxRecDepth 100000 in
theorem k_X12_placed {l : Launch} {D : va_G} {Y : nm_Y} {s0 : Nat} {X : va_W} {ad : Nat → Nat}  {x1 : Int32} {x2 : Int32} {x3 : Int32} {I : nm_I} {r0 : Int32} (hf : f_X12_placed x1 x2 x3 I = some r0) :
    nm_Met l yX12_placed cX12_placed 6 (some .int) { frames := 1, cells := 0, slots := 0, locals := 25 } [.ref (ad 0), .int x1, .int x2, .int x3] D Y s0 (nm_W Y X moN ad (I, nJ0, moZ)) (nm_Qi D s0 r0 (nm_W Y X moN ad (I, nJ0, moZ))) 0 0 := by
  refine nm_of (by decide) (Nat.le_of_ble_eq_true rfl) ?_
  intro p e R s m args below meth c Q ls hx hb hr hlocks hml hown hts hs0 hK hZ hRf hRl hRc hRs hQ hP hD hl
  have hH : nm_H D Y (fun q => s0 ≤ q) s.heap X moN ad (I, nJ0, moZ) s.heap [] := ⟨hP, hD, va_S.rf⟩
  have hl : lv_has ls 6 [(0, .ref (ad 0)), (1, .int x1), (2, .int x2), (3, .int x3)] := hl
  unfold f_X12_placed at hf
  refine lv_aload_n hx hb dX12_placed_0 rfl (lv_at hl 0 rfl) ?_
  refine gf_12_17 hK hx hb hts hown hH mo_n0 mo_k0 (hts _ tw_973) (fun _ h9 => h9) dX12_placed_1 ?_
  refine lv_iload_n hx hb dX12_placed_4 rfl (lv_at hl 2 rfl) ?_
  refine lv_aload_n hx hb dX12_placed_5 rfl (lv_at hl 0 rfl) ?_
  refine gf_12_5 hK hx hb hts hown hH mo_n0 mo_k0 (hts _ tw_961) (fun _ h9 => h9) dX12_placed_6 ?_
  refine lv_iload_n hx hb dX12_placed_9 rfl (lv_at hl 1 rfl) ?_
  obtain ⟨hi1, hf⟩ := nm_chk hf
  refine nm_iald hx hb hK hH mo_n6 mo_k6 mo_l6 hi1 dX12_placed_10 ?_
  refine lv_sipush (v := 200) hx hb dX12_placed_11 (by decide) ?_
  refine lv_irem hx hb dX12_placed_14 (by decide) ?_
  refine lv_bipush (v := 100) hx hb dX12_placed_15 (by decide) ?_
  refine lv_isub hx hb dX12_placed_17 ?_
  refine lv_imul hx hb dX12_placed_18 ?_
  refine lv_iadd hx hb dX12_placed_19 ?_
  obtain ⟨v2, ev2, hf⟩ := nm_let hf
  refine nm_topi ev2 ?_
  refine lv_istore (lv' := [(4, .int v2), (0, .ref (ad 0)), (1, .int x1), (2, .int x2), (3, .int x3)]) hx hb dX12_placed_20 hl (by decide) rfl (fun ls hl => ?_)
  refine lv_aload_n hx hb dX12_placed_22 rfl (lv_at hl 1 rfl) ?_
  refine gf_12_18 hK hx hb hts hown hH mo_n0 mo_k0 (hts _ tw_974) (fun _ h9 => h9) dX12_placed_23 ?_
  refine lv_iload_n hx hb dX12_placed_26 rfl (lv_at hl 4 rfl) ?_
  refine lv_aload_n hx hb dX12_placed_27 rfl (lv_at hl 1 rfl) ?_
  refine gf_12_6 hK hx hb hts hown hH mo_n0 mo_k0 (hts _ tw_962) (fun _ h9 => h9) dX12_placed_28 ?_
  refine lv_iload_n hx hb dX12_placed_31 rfl (lv_at hl 2 rfl) ?_
  obtain ⟨hi3, hf⟩ := nm_chk hf
  refine nm_iald hx hb hK hH mo_n7 mo_k7 mo_l7 hi3 dX12_placed_32 ?_
  refine lv_sipush (v := 200) hx hb dX12_placed_33 (by decide) ?_
  refine lv_irem hx hb dX12_placed_36 (by decide) ?_
  refine lv_bipush (v := 100) hx hb dX12_placed_37 (by decide) ?_
  refine lv_isub hx hb dX12_placed_39 ?_
  refine lv_imul hx hb dX12_placed_40 ?_
  refine lv_iadd hx hb dX12_placed_41 ?_
  obtain ⟨v4, ev4, hf⟩ := nm_let hf
  refine nm_topi ev4 ?_
  refine lv_istore (lv' := [(5, .int v4), (4, .int v2), (0, .ref (ad 0)), (1, .int x1), (2, .int x2), (3, .int x3)]) hx hb dX12_placed_42 hl (by decide) rfl (fun ls hl => ?_)
  refine lv_iload hx hb dX12_placed_44 (lv_at hl 1 rfl) ?_
  refine lv_i2l hx hb dX12_placed_46 rfl ?_
  refine lv_lconst (v := 0) hx hb dX12_placed_47 (by decide) ?_
  refine lv_ldc2 hx hb hown (hts _ tw_1251) dX12_placed_48 ?_
  refine nm_calli (nm_runS (X := X) (nl := moN) (k_X12_isIn (hf := (rfl : f_X12_isIn v2.toInt64 (0 : Int64) (63 : Int64) = _))) hx hb hml hown hts hs0 hK hZ hH tw_1207 tw_1205 tw_1206 tw_9 hd_X12_isIn rfl rfl ⟨Nat.le_trans (Nat.le_of_ble_eq_true rfl) hRf, Nat.le_trans (Nat.le_of_ble_eq_true rfl) hRl⟩ rfl hl.1 rfl (Nat.le_of_ble_eq_true rfl) dX12_placed_51 ⟨Nat.zero_le _, Nat.zero_le _⟩) hH (fun H locs hH => ?_)
  have hH : nm_H D Y (fun q => s0 ≤ q) s.heap X moN ad (I, nJ0, moZ) H locs := hH
  refine lv_if_eq (tgt := 81) hx hb dX12_placed_54 (by decide) (fun c5 => ?_) (fun c5 => ?_)
  · have hf := nm_it c5 hf
    refine lv_iconst (v := -1) hx hb dX12_placed_81 (by decide) ?_
    exact nm_iret hx hb hr hlocks hQ hH (Option.some.inj hf) rfl dX12_placed_82
  · have hf := nm_ie c5 hf
    refine lv_iload hx hb dX12_placed_57 (lv_at hl 0 rfl) ?_
    refine lv_i2l hx hb dX12_placed_59 rfl ?_
    refine lv_lconst (v := 0) hx hb dX12_placed_60 (by decide) ?_
    refine lv_ldc2 hx hb hown (hts _ tw_1251) dX12_placed_61 ?_
    refine nm_calli (nm_runS (X := X) (nl := moN) (k_X12_isIn (hf := (rfl : f_X12_isIn v4.toInt64 (0 : Int64) (63 : Int64) = _))) hx hb hml hown hts hs0 hK hZ hH tw_1207 tw_1205 tw_1206 tw_9 hd_X12_isIn rfl rfl ⟨Nat.le_trans (Nat.le_of_ble_eq_true rfl) hRf, Nat.le_trans (Nat.le_of_ble_eq_true rfl) hRl⟩ rfl hl.1 rfl (Nat.le_of_ble_eq_true rfl) dX12_placed_64 ⟨Nat.zero_le _, Nat.zero_le _⟩) hH (fun H locs hH => ?_)
    have hH : nm_H D Y (fun q => s0 ≤ q) s.heap X moN ad (I, nJ0, moZ) H locs := hH
    refine lv_if_eq (tgt := 81) hx hb dX12_placed_67 (by decide) (fun c6 => ?_) (fun c6 => ?_)
    · have hf := nm_it c6 hf
      refine lv_iconst (v := -1) hx hb dX12_placed_81 (by decide) ?_
      exact nm_iret hx hb hr hlocks hQ hH (Option.some.inj hf) rfl dX12_placed_82
    · have hf := nm_ie c6 hf
      refine lv_bipush (v := 64) hx hb dX12_placed_70 (by decide) ?_
      refine lv_iload hx hb dX12_placed_72 (lv_at hl 0 rfl) ?_
      refine lv_imul hx hb dX12_placed_74 ?_
      refine lv_iload hx hb dX12_placed_75 (lv_at hl 1 rfl) ?_
      refine lv_iadd hx hb dX12_placed_77 ?_
      refine lv_goto (tgt := 82) hx hb dX12_placed_78 (by decide) ?_
      exact nm_iret hx hb hr hlocks hQ hH (Option.some.inj hf) rfl dX12_placed_82
def f_X12_laysPut_J132 (x5 : Int32) (I8 : nm_I) (k : Int32 → nm_I → Option (nm_I)) : Option (nm_I) :=
k (x5 + 1) I8
def f_X12_laysPut_J120 (x7 : Int32) (I20 : nm_I) (k : Int32 → nm_I → Option (nm_I)) : Option (nm_I) :=
k (x7 + 1) I20
def f_X12_laysPut_L75 (x1 : Int32) (x2 : Int32) (x3 : Int32) (x6 : Int32) : Nat → Int32 → nm_I → Option (nm_I)
  | 0, _, _ => none
  | n75 + 1, x7, I15 =>
    nm_c x2 128 (
    (if ((I15 6 x2.toNatClampNeg) / (200 : Int32)) ≤ x7 then
    some I15
    else
    nm_s1 (f_X12_placed x2 x7 x6 I15) fun r18 =>
    (if r18 < 0 then
    f_X12_laysPut_J120 x7 I15 (f_X12_laysPut_L75 x1 x2 x3 x6 n75)
    else
    nm_c ((f_X12_flatAt x1 x3) + r18) 262144 (
    nm_l (nm_up I15 13 (((f_X12_flatAt x1 x3) + r18).toNatClampNeg) (vp_nar .boolean (1 : Int32))) fun I23 =>
    f_X12_laysPut_J120 x7 I23 (f_X12_laysPut_L75 x1 x2 x3 x6 n75)))))
def f_X12_laysPut_L57 (x1 : Int32) (x2 : Int32) (x3 : Int32) : Nat → Int32 → nm_I → Option (nm_I)
  | 0, _, _ => none
  | n57 + 1, x6, I12 =>
    nm_c x2 128 (
    (if ((I12 7 x2.toNatClampNeg) / (200 : Int32)) ≤ x6 then
    some I12
    else
    nm_s1 (f_X12_laysPut_L75 x1 x2 x3 x6 nm_F (0 : Int32) I12) fun I24 =>
    f_X12_laysPut_L57 x1 x2 x3 n57 (x6 + 1) I24))
def f_X12_laysPut_L23 (x1 : Int32) (x2 : Int32) (x3 : Int32) (v4 : Int32) : Nat → Int32 → nm_I → Option (nm_I)
  | 0, _, _ => none
  | n23 + 1, x5, I5 =>
    (if (4096 : Int32) ≤ x5 then
    some I5
    else
    nm_c (v4 + x5) 262144 (
    (if (I5 13 (v4 + x5).toNatClampNeg) = 0 then
    f_X12_laysPut_J132 x5 I5 (f_X12_laysPut_L23 x1 x2 x3 v4 n23)
    else
    nm_s1 (f_X12_turns x2 x5 I5) fun I10 =>
    nm_s1 (f_X12_laysPut_L57 x1 x2 x3 nm_F (0 : Int32) I10) fun I26 =>
    f_X12_laysPut_J132 x5 I26 (f_X12_laysPut_L23 x1 x2 x3 v4 n23))))
def f_X12_laysPut_L2 (x1 : Int32) (x2 : Int32) : Nat → Int32 → nm_I → Option (nm_I)
  | 0, _, _ => none
  | n2 + 1, x3, I1 =>
    (if (8 : Int32) ≤ x3 then
    some I1
    else
    nm_c x2 128 (
    nm_l (f_X12_flatAt (I1 2 x2.toNatClampNeg) x3) fun v4 =>
    nm_s1 (f_X12_laysPut_L23 x1 x2 x3 v4 nm_F (0 : Int32) I1) fun I28 =>
    f_X12_laysPut_L2 x1 x2 n2 (x3 + 1) I28))
def f_X12_laysPut (x1 : Int32) (x2 : Int32) (I : nm_I) : Option (nm_I) :=
nm_s1 (f_X12_laysPut_L2 x1 x2 nm_F (0 : Int32) I) fun I30 =>
some I30
set_option maxHeartbeats 4000000 in
set_option maxRecDepth 100000 in
theorem k_X12_laysPut {l : Launch} {D : va_G} {Y : nm_Y} {s0 : Nat} {X : va_W} {ad : Nat → Nat}  {x1 : Int32} {x2 : Int32} {I : nm_I} {M0 : nm_I} (hf : f_X12_laysPut x1 x2 I = some M0) :
    nm_Met l yX12_laysPut cX12_laysPut 9 none { frames := 2, cells := 0, slots := 0, locals := 50 } [.ref (ad 0), .int x1, .int x2] D Y s0 (nm_W Y X moN ad (I, nJ0, moZ)) (nm_Qv D s0 (nm_W Y X moN ad (M0, nJ0, moZ))) 0 0 := by
  refine nm_of (by decide) (Nat.le_of_ble_eq_true rfl) ?_
  intro p e R s m args below meth c Q ls hx hb hr hlocks hml hown hts hs0 hK hZ hRf hRl hRc hRs hQ hP hD hl
  have hH : nm_H D Y (fun q => s0 ≤ q) s.heap X moN ad (I, nJ0, moZ) s.heap [] := ⟨hP, hD, va_S.rf⟩
  have hl : lv_has ls 9 [(0, .ref (ad 0)), (1, .int x1), (2, .int x2)] := hl
  unfold f_X12_laysPut at hf
  refine lv_iconst (v := 0) hx hb dX12_laysPut_0 (by decide) ?_
  refine lv_istore_n (lv' := [(3, .int (0 : Int32)), (0, .ref (ad 0)), (1, .int x1), (2, .int x2)]) hx hb dX12_laysPut_1 rfl hl (by decide) rfl (fun ls hl => ?_)
  have hL2 : ∀ (n2 : Nat) (x3 : Int32) (I1 : nm_I) (H : Heap) (locs : List Loc) (ls : Array Slot) (o2 : nm_I), nm_H D Y (fun q => s0 ≤ q) s.heap X moN ad (I1, nJ0, moZ) H locs → lv_has ls 9 [(0, .ref (ad 0)), (1, .int x1), (2, .int x2), (3, .int x3)] → f_X12_laysPut_L2 x1 x2 n2 x3 I1 = some o2 → (∀ (H : Heap) (locs : List Loc) (ls : Array Slot), nm_H D Y (fun q => s0 ≤ q) s.heap X moN ad (o2, nJ0, moZ) H locs → lv_has ls 9 [] → W p l e R s m args below meth c H locs 0 0 Q (F0 m 144 ls [])) → W p l e R s m args below meth c H locs 0 0 Q (F0 m 2 ls []) := by
    intro n2
    induction n2 with
    | zero =>
      intro x3 I1 H locs ls o2 hH hl hf hX2
      cases hf
    | succ n2 ih2 =>
      intro x3 I1 H locs ls o2 hH hl hf hX2
      rw [f_X12_laysPut_L2] at hf
      refine lv_iload_n hx hb dX12_laysPut_2 rfl (lv_at hl 3 rfl) ?_
      refine lv_bipush (v := 8) hx hb dX12_laysPut_3 (by decide) ?_
      refine lv_icmp_ge (tgt := 144) hx hb dX12_laysPut_5 (by decide) (fun c2 => ?_) (fun c2 => ?_)
      · have hf := nm_it c2 hf
        cases hf
        exact hX2 _ _ _ hH (lv_sub hl [] rfl)
      · have hf := nm_ie c2 hf
        refine lv_aload_n hx hb dX12_laysPut_8 rfl (lv_at hl 0 rfl) ?_
        refine gf_12_1 hK hx hb hts hown hH mo_n0 mo_k0 (hts _ tw_957) (fun _ h9 => h9) dX12_laysPut_9 ?_
        refine lv_iload_n hx hb dX12_laysPut_12 rfl (lv_at hl 2 rfl) ?_
        obtain ⟨hi3, hf⟩ := nm_chk hf
        refine nm_iald hx hb hK hH mo_n2 mo_k2 mo_l2 hi3 dX12_laysPut_13 ?_
        refine lv_iload_n hx hb dX12_laysPut_14 rfl (lv_at hl 3 rfl) ?_
        refine nm_calli (nm_runS (X := X) (nl := moN) (k_X12_flatAt (hf := (rfl : f_X12_flatAt (I1 2 x2.toNatClampNeg) x3 = _))) hx hb hml hown hts hs0 hK hZ hH tw_1281 tw_1279 tw_1280 tw_9 hd_X12_flatAt rfl rfl ⟨Nat.le_trans (Nat.le_of_ble_eq_true rfl) hRf, Nat.le_trans (Nat.le_of_ble_eq_true rfl) hRl⟩ rfl hl.1 rfl (Nat.le_of_ble_eq_true rfl) dX12_laysPut_15 ⟨Nat.zero_le _, Nat.zero_le _⟩) hH (fun H locs hH => ?_)
        have hH : nm_H D Y (fun q => s0 ≤ q) s.heap X moN ad (I1, nJ0, moZ) H locs := hH
        obtain ⟨v4, ev4, hf⟩ := nm_let hf
        refine nm_topi ev4 ?_
        refine lv_istore (lv' := [(4, .int v4), (0, .ref (ad 0)), (1, .int x1), (2, .int x2), (3, .int x3)]) hx hb dX12_laysPut_18 hl (by decide) rfl (fun ls hl => ?_)
        refine lv_iconst (v := 0) hx hb dX12_laysPut_20 (by decide) ?_
        refine lv_istore (lv' := [(5, .int (0 : Int32)), (4, .int v4), (0, .ref (ad 0)), (1, .int x1), (2, .int x2), (3, .int x3)]) hx hb dX12_laysPut_21 hl (by decide) rfl (fun ls hl => ?_)
        have hL23 : ∀ (n23 : Nat) (x5 : Int32) (I5 : nm_I) (H : Heap) (locs : List Loc) (ls : Array Slot) (o23 : nm_I), nm_H D Y (fun q => s0 ≤ q) s.heap X moN ad (I5, nJ0, moZ) H locs → lv_has ls 9 [(0, .ref (ad 0)), (1, .int x1), (2, .int x2), (3, .int x3), (4, .int v4), (5, .int x5)] → f_X12_laysPut_L23 x1 x2 x3 v4 n23 x5 I5 = some o23 → (∀ (H : Heap) (locs : List Loc) (ls : Array Slot), nm_H D Y (fun q => s0 ≤ q) s.heap X moN ad (o23, nJ0, moZ) H locs → lv_has ls 9 [(0, .ref (ad 0)), (1, .int x1), (2, .int x2), (3, .int x3)] → W p l e R s m args below meth c H locs 0 0 Q (F0 m 138 ls [])) → W p l e R s m args below meth c H locs 0 0 Q (F0 m 23 ls []) := by
          intro n23
          induction n23 with
          | zero =>
            intro x5 I5 H locs ls o23 hH hl hf hX23
            cases hf
          | succ n23 ih23 =>
            intro x5 I5 H locs ls o23 hH hl hf hX23
            rw [f_X12_laysPut_L23] at hf
            refine lv_iload hx hb dX12_laysPut_23 (lv_at hl 5 rfl) ?_
            refine lv_sipush (v := 4096) hx hb dX12_laysPut_25 (by decide) ?_
            refine lv_icmp_ge (tgt := 138) hx hb dX12_laysPut_28 (by decide) (fun c6 => ?_) (fun c6 => ?_)
            · have hf := nm_it c6 hf
              cases hf
              exact hX23 _ _ _ hH (lv_sub hl [0, 1, 2, 3] rfl)
            · have hf := nm_ie c6 hf
              refine lv_aload_n hx hb dX12_laysPut_31 rfl (lv_at hl 0 rfl) ?_
              refine gf_12_12 hK hx hb hts hown hH mo_n0 mo_k0 (hts _ tw_968) (fun _ h9 => h9) dX12_laysPut_32 ?_
              refine lv_iload hx hb dX12_laysPut_35 (lv_at hl 4 rfl) ?_
              refine lv_iload hx hb dX12_laysPut_37 (lv_at hl 5 rfl) ?_
              refine lv_iadd hx hb dX12_laysPut_39 ?_
              obtain ⟨hi7, hf⟩ := nm_chk hf
              refine nm_zald hx hb hK hH mo_n13 mo_k13 mo_l13 hi7 dX12_laysPut_40 ?_
              have hJ132 : ∀ (I8 : nm_I) (H : Heap) (locs : List Loc) (ls : Array Slot), nm_H D Y (fun q => s0 ≤ q) s.heap X moN ad (I8, nJ0, moZ) H locs → lv_has ls 9 [(0, .ref (ad 0)), (1, .int x1), (2, .int x2), (3, .int x3), (4, .int v4), (5, .int x5)] → f_X12_laysPut_J132 x5 I8 (f_X12_laysPut_L23 x1 x2 x3 v4 n23) = some o23 → W p l e R s m args below meth c H locs 0 0 Q (F0 m 132 ls []) := by
                intro I8 H locs ls hH hl hf
                unfold f_X12_laysPut_J132 at hf
                refine lv_iinc (v := x5 + 1) (lv' := [(5, .int (x5 + 1)), (0, .ref (ad 0)), (1, .int x1), (2, .int x2), (3, .int x3), (4, .int v4)]) hx hb dX12_laysPut_132 hl (k := 5) rfl rfl (by decide) rfl (fun ls hl => ?_)
                refine lv_goto (tgt := 23) hx hb dX12_laysPut_135 (by decide) ?_
                exact ih23 (x5 + 1) I8 _ _ _ _ hH (lv_sub hl [1, 2, 3, 4, 5, 0] rfl) hf hX23
              refine lv_if_ne (tgt := 47) hx hb dX12_laysPut_41 (by decide) (fun c9 => ?_) (fun c9 => ?_)
              · have hf := nm_ie c9 hf
                refine lv_aload_n hx hb dX12_laysPut_47 rfl (lv_at hl 0 rfl) ?_
                refine lv_iload_n hx hb dX12_laysPut_48 rfl (lv_at hl 2 rfl) ?_
                refine lv_iload hx hb dX12_laysPut_49 (lv_at hl 5 rfl) ?_
                obtain ⟨I10, hc11, hf⟩ := nm_sd1 hf
                refine nm_callv (nm_runV (X := X) (nl := moN) (k_X12_turns (hf := hc11)) hx hb hml hown hts hs0 hK hZ hH tw_1301 tw_1298 tw_1300 (sw_X12_turns) tw_9 hd_X12_turns mo_n0 mo_k0 (by decide) rfl rfl rfl ⟨Nat.le_trans (Nat.le_of_ble_eq_true rfl) hRf, Nat.le_trans (Nat.le_of_ble_eq_true rfl) hRl⟩ rfl hl.1 rfl (Nat.le_of_ble_eq_true rfl) dX12_laysPut_51 ⟨Nat.zero_le _, Nat.zero_le _⟩) hH (fun H locs hH => ?_)
                have hH : nm_H D Y (fun q => s0 ≤ q) s.heap X moN ad (I10, nJ0, moZ) H locs := hH
                refine lv_iconst (v := 0) hx hb dX12_laysPut_54 (by decide) ?_
                refine lv_istore (lv' := [(6, .int (0 : Int32)), (0, .ref (ad 0)), (1, .int x1), (2, .int x2), (3, .int x3), (4, .int v4), (5, .int x5)]) hx hb dX12_laysPut_55 hl (by decide) rfl (fun ls hl => ?_)
                have hL57 : ∀ (n57 : Nat) (x6 : Int32) (I12 : nm_I) (H : Heap) (locs : List Loc) (ls : Array Slot) (o57 : nm_I), nm_H D Y (fun q => s0 ≤ q) s.heap X moN ad (I12, nJ0, moZ) H locs → lv_has ls 9 [(0, .ref (ad 0)), (1, .int x1), (2, .int x2), (3, .int x3), (4, .int v4), (5, .int x5), (6, .int x6)] → f_X12_laysPut_L57 x1 x2 x3 n57 x6 I12 = some o57 → (∀ (H : Heap) (locs : List Loc) (ls : Array Slot), nm_H D Y (fun q => s0 ≤ q) s.heap X moN ad (o57, nJ0, moZ) H locs → lv_has ls 9 [(0, .ref (ad 0)), (1, .int x1), (2, .int x2), (3, .int x3), (4, .int v4), (5, .int x5)] → W p l e R s m args below meth c H locs 0 0 Q (F0 m 132 ls [])) → W p l e R s m args below meth c H locs 0 0 Q (F0 m 57 ls []) := by
                  intro n57
                  induction n57 with
                  | zero =>
                    intro x6 I12 H locs ls o57 hH hl hf hX57
                    cases hf
                  | succ n57 ih57 =>
                    intro x6 I12 H locs ls o57 hH hl hf hX57
                    rw [f_X12_laysPut_L57] at hf
                    refine lv_iload hx hb dX12_laysPut_57 (lv_at hl 6 rfl) ?_
                    refine lv_aload_n hx hb dX12_laysPut_59 rfl (lv_at hl 0 rfl) ?_
                    refine gf_12_6 hK hx hb hts hown hH mo_n0 mo_k0 (hts _ tw_962) (fun _ h9 => h9) dX12_laysPut_60 ?_
                    refine lv_iload_n hx hb dX12_laysPut_63 rfl (lv_at hl 2 rfl) ?_
                    obtain ⟨hi13, hf⟩ := nm_chk hf
                    refine nm_iald hx hb hK hH mo_n7 mo_k7 mo_l7 hi13 dX12_laysPut_64 ?_
                    refine lv_sipush (v := 200) hx hb dX12_laysPut_65 (by decide) ?_
                    refine lv_idiv hx hb dX12_laysPut_68 (by decide) ?_
                    refine lv_icmp_ge (tgt := 132) hx hb dX12_laysPut_69 (by decide) (fun c14 => ?_) (fun c14 => ?_)
                    · have hf := nm_it c14 hf
                      cases hf
                      exact hX57 _ _ _ hH (lv_sub hl [0, 1, 2, 3, 4, 5] rfl)
                    · have hf := nm_ie c14 hf
                      refine lv_iconst (v := 0) hx hb dX12_laysPut_72 (by decide) ?_
                      refine lv_istore (lv' := [(7, .int (0 : Int32)), (0, .ref (ad 0)), (1, .int x1), (2, .int x2), (3, .int x3), (4, .int v4), (5, .int x5), (6, .int x6)]) hx hb dX12_laysPut_73 hl (by decide) rfl (fun ls hl => ?_)
                      have hL75 : ∀ (n75 : Nat) (x7 : Int32) (I15 : nm_I) (H : Heap) (locs : List Loc) (ls : Array Slot) (o75 : nm_I), nm_H D Y (fun q => s0 ≤ q) s.heap X moN ad (I15, nJ0, moZ) H locs → lv_has ls 9 [(0, .ref (ad 0)), (1, .int x1), (2, .int x2), (3, .int x3), (4, .int v4), (5, .int x5), (6, .int x6), (7, .int x7)] → f_X12_laysPut_L75 x1 x2 x3 x6 n75 x7 I15 = some o75 → (∀ (H : Heap) (locs : List Loc) (ls : Array Slot), nm_H D Y (fun q => s0 ≤ q) s.heap X moN ad (o75, nJ0, moZ) H locs → lv_has ls 9 [(0, .ref (ad 0)), (1, .int x1), (2, .int x2), (3, .int x3), (4, .int v4), (5, .int x5), (6, .int x6)] → W p l e R s m args below meth c H locs 0 0 Q (F0 m 126 ls [])) → W p l e R s m args below meth c H locs 0 0 Q (F0 m 75 ls []) := by
                        intro n75
                        induction n75 with
                        | zero =>
                          intro x7 I15 H locs ls o75 hH hl hf hX75
                          cases hf
                        | succ n75 ih75 =>
                          intro x7 I15 H locs ls o75 hH hl hf hX75
                          rw [f_X12_laysPut_L75] at hf
                          refine lv_iload hx hb dX12_laysPut_75 (lv_at hl 7 rfl) ?_
                          refine lv_aload_n hx hb dX12_laysPut_77 rfl (lv_at hl 0 rfl) ?_
                          refine gf_12_5 hK hx hb hts hown hH mo_n0 mo_k0 (hts _ tw_961) (fun _ h9 => h9) dX12_laysPut_78 ?_
                          refine lv_iload_n hx hb dX12_laysPut_81 rfl (lv_at hl 2 rfl) ?_
                          obtain ⟨hi16, hf⟩ := nm_chk hf
                          refine nm_iald hx hb hK hH mo_n6 mo_k6 mo_l6 hi16 dX12_laysPut_82 ?_
                          refine lv_sipush (v := 200) hx hb dX12_laysPut_83 (by decide) ?_
                          refine lv_idiv hx hb dX12_laysPut_86 (by decide) ?_
                          refine lv_icmp_ge (tgt := 126) hx hb dX12_laysPut_87 (by decide) (fun c17 => ?_) (fun c17 => ?_)
                          · have hf := nm_it c17 hf
                            cases hf
                            exact hX75 _ _ _ hH (lv_sub hl [0, 1, 2, 3, 4, 5, 6] rfl)
                          · have hf := nm_ie c17 hf
                            refine lv_aload_n hx hb dX12_laysPut_90 rfl (lv_at hl 0 rfl) ?_
                            refine lv_iload_n hx hb dX12_laysPut_91 rfl (lv_at hl 2 rfl) ?_
                            refine lv_iload hx hb dX12_laysPut_92 (lv_at hl 7 rfl) ?_
                            refine lv_iload hx hb dX12_laysPut_94 (lv_at hl 6 rfl) ?_
                            obtain ⟨r18, hc19, hf⟩ := nm_sd1 hf
                            refine nm_calli (nm_runV (X := X) (nl := moN) (k_X12_placed (hf := hc19)) hx hb hml hown hts hs0 hK hZ hH tw_1305 tw_1302 tw_1304 (sw_X12_placed) tw_9 hd_X12_placed mo_n0 mo_k0 (by decide) rfl rfl rfl ⟨Nat.le_trans (Nat.le_of_ble_eq_true rfl) hRf, Nat.le_trans (Nat.le_of_ble_eq_true rfl) hRl⟩ rfl hl.1 rfl (Nat.le_of_ble_eq_true rfl) dX12_laysPut_96 ⟨Nat.zero_le _, Nat.zero_le _⟩) hH (fun H locs hH => ?_)
                            have hH : nm_H D Y (fun q => s0 ≤ q) s.heap X moN ad (I15, nJ0, moZ) H locs := hH
                            refine lv_istore (lv' := [(8, .int r18), (0, .ref (ad 0)), (1, .int x1), (2, .int x2), (3, .int x3), (4, .int v4), (5, .int x5), (6, .int x6), (7, .int x7)]) hx hb dX12_laysPut_99 hl (by decide) rfl (fun ls hl => ?_)
                            refine lv_iload hx hb dX12_laysPut_101 (lv_at hl 0 rfl) ?_
                            have hJ120 : ∀ (I20 : nm_I) (H : Heap) (locs : List Loc) (ls : Array Slot), nm_H D Y (fun q => s0 ≤ q) s.heap X moN ad (I20, nJ0, moZ) H locs → lv_has ls 9 [(0, .ref (ad 0)), (1, .int x1), (2, .int x2), (3, .int x3), (4, .int v4), (5, .int x5), (6, .int x6), (7, .int x7)] → f_X12_laysPut_J120 x7 I20 (f_X12_laysPut_L75 x1 x2 x3 x6 n75) = some o75 → W p l e R s m args below meth c H locs 0 0 Q (F0 m 120 ls []) := by
                              intro I20 H locs ls hH hl hf
                              unfold f_X12_laysPut_J120 at hf
                              refine lv_iinc (v := x7 + 1) (lv' := [(7, .int (x7 + 1)), (0, .ref (ad 0)), (1, .int x1), (2, .int x2), (3, .int x3), (4, .int v4), (5, .int x5), (6, .int x6)]) hx hb dX12_laysPut_120 hl (k := 7) rfl rfl (by decide) rfl (fun ls hl => ?_)
                              refine lv_goto (tgt := 75) hx hb dX12_laysPut_123 (by decide) ?_
                              exact ih75 (x7 + 1) I20 _ _ _ _ hH (lv_sub hl [1, 2, 3, 4, 5, 6, 7, 0] rfl) hf hX75
                            refine lv_if_lt (tgt := 120) hx hb dX12_laysPut_103 (by decide) (fun c21 => ?_) (fun c21 => ?_)
                            · have hf := nm_it c21 hf
                              exact hJ120  I15 _ _ _ hH (lv_sub hl [1, 2, 3, 4, 5, 6, 7, 8] rfl) hf
                            · have hf := nm_ie c21 hf
                              refine lv_aload_n hx hb dX12_laysPut_106 rfl (lv_at hl 1 rfl) ?_
                              refine gf_12_12 hK hx hb hts hown hH mo_n0 mo_k0 (hts _ tw_968) (fun _ h9 => h9) dX12_laysPut_107 ?_
                              refine lv_iload_n hx hb dX12_laysPut_110 rfl (lv_at hl 2 rfl) ?_
                              refine lv_iload_n hx hb dX12_laysPut_111 rfl (lv_at hl 4 rfl) ?_
                              refine nm_calli (nm_runS (X := X) (nl := moN) (k_X12_flatAt (hf := (rfl : f_X12_flatAt x1 x3 = _))) hx hb hml hown hts hs0 hK hZ hH tw_1281 tw_1279 tw_1280 tw_9 hd_X12_flatAt rfl rfl ⟨Nat.le_trans (Nat.le_of_ble_eq_true rfl) hRf, Nat.le_trans (Nat.le_of_ble_eq_true rfl) hRl⟩ rfl hl.1 rfl (Nat.le_of_ble_eq_true rfl) dX12_laysPut_112 ⟨Nat.zero_le _, Nat.zero_le _⟩) hH (fun H locs hH => ?_)
                              have hH : nm_H D Y (fun q => s0 ≤ q) s.heap X moN ad (I15, nJ0, moZ) H locs := hH
                              refine lv_iload hx hb dX12_laysPut_115 (lv_at hl 0 rfl) ?_
                              refine lv_iadd hx hb dX12_laysPut_117 ?_
                              refine lv_iconst (v := 1) hx hb dX12_laysPut_118 (by decide) ?_
                              obtain ⟨hi22, hf⟩ := nm_chk hf
                              obtain ⟨I23, eI23, hf⟩ := nm_let hf
                              refine nm_zast hx hb hK hH mo_n13 mo_k13 mo_l13 hi22 dX12_laysPut_119 (fun H locs hH => ?_)
                              have hH : nm_H D Y (fun q => s0 ≤ q) s.heap X moN ad (I23, nJ0, moZ) H locs := by rw [eI23]; exact hH
                              exact hJ120  I23 _ _ _ hH (lv_sub hl [1, 2, 3, 4, 5, 6, 7, 8] rfl) hf
                      obtain ⟨I24, hl25, hf⟩ := nm_sd1 hf
                      refine hL75 nm_F (0 : Int32) I12 _ _ _ _ hH (lv_sub hl [1, 2, 3, 4, 5, 6, 7, 0] rfl) hl25 (fun H locs ls hH hl => ?_)
                      have hl : lv_has ls 9 [(0, .ref (ad 0)), (1, .int x1), (2, .int x2), (3, .int x3), (4, .int v4), (5, .int x5), (6, .int x6)] := hl
                      have hH : nm_H D Y (fun q => s0 ≤ q) s.heap X moN ad (I24, nJ0, moZ) H locs := hH
                      refine lv_iinc (v := x6 + 1) (lv' := [(6, .int (x6 + 1)), (0, .ref (ad 0)), (1, .int x1), (2, .int x2), (3, .int x3), (4, .int v4), (5, .int x5)]) hx hb dX12_laysPut_126 hl (k := 6) rfl rfl (by decide) rfl (fun ls hl => ?_)
                      refine lv_goto (tgt := 57) hx hb dX12_laysPut_129 (by decide) ?_
                      exact ih57 (x6 + 1) I24 _ _ _ _ hH (lv_sub hl [1, 2, 3, 4, 5, 6, 0] rfl) hf hX57
                obtain ⟨I26, hl27, hf⟩ := nm_sd1 hf
                refine hL57 nm_F (0 : Int32) I10 _ _ _ _ hH (lv_sub hl [1, 2, 3, 4, 5, 6, 0] rfl) hl27 (fun H locs ls hH hl => ?_)
                have hl : lv_has ls 9 [(0, .ref (ad 0)), (1, .int x1), (2, .int x2), (3, .int x3), (4, .int v4), (5, .int x5)] := hl
                have hH : nm_H D Y (fun q => s0 ≤ q) s.heap X moN ad (I26, nJ0, moZ) H locs := hH
                exact hJ132  I26 _ _ _ hH (lv_sub hl [0, 1, 2, 3, 4, 5] rfl) hf
              · have hf := nm_it c9 hf
                refine lv_goto (tgt := 132) hx hb dX12_laysPut_44 (by decide) ?_
                exact hJ132  I5 _ _ _ hH (lv_sub hl [0, 1, 2, 3, 4, 5] rfl) hf
        obtain ⟨I28, hl29, hf⟩ := nm_sd1 hf
        refine hL23 nm_F (0 : Int32) I1 _ _ _ _ hH (lv_sub hl [2, 3, 4, 5, 1, 0] rfl) hl29 (fun H locs ls hH hl => ?_)
        have hl : lv_has ls 9 [(0, .ref (ad 0)), (1, .int x1), (2, .int x2), (3, .int x3)] := hl
        have hH : nm_H D Y (fun q => s0 ≤ q) s.heap X moN ad (I28, nJ0, moZ) H locs := hH
        refine lv_iinc (v := x3 + 1) (lv' := [(3, .int (x3 + 1)), (0, .ref (ad 0)), (1, .int x1), (2, .int x2)]) hx hb dX12_laysPut_138 hl (k := 3) rfl rfl (by decide) rfl (fun ls hl => ?_)
        refine lv_goto (tgt := 2) hx hb dX12_laysPut_141 (by decide) ?_
        exact ih2 (x3 + 1) I28 _ _ _ _ hH (lv_sub hl [1, 2, 3, 0] rfl) hf hX2
  obtain ⟨I30, hl31, hf⟩ := nm_sd1 hf
  refine hL2 nm_F (0 : Int32) I _ _ _ _ hH (lv_sub hl [1, 2, 3, 0] rfl) hl31 (fun H locs ls hH hl => ?_)
  have hl : lv_has ls 9 [] := hl
  have hH : nm_H D Y (fun q => s0 ≤ q) s.heap X moN ad (I30, nJ0, moZ) H locs := hH
  exact nm_vret hx hb hr hlocks hQ hH (congrArg (fun q => (q, nJ0, moZ)) (Option.some.inj hf)) dX12_laysPut_144
def f_X12_addText (x1 : Int32) (x2 : Int32) (x3 : Int32) (x4 : Int32) (I : nm_I) : Option (nm_I) :=
nm_c x1 8 (
(if (I 17 x1.toNatClampNeg) = (200 : Int32) then
some I
else
nm_c x1 8 (
nm_l (((200 : Int32) * x1) + (I 17 x1.toNatClampNeg)) fun v4 =>
nm_c v4 1600 (
nm_l (nm_up I 14 v4.toNatClampNeg x2) fun I6 =>
nm_c v4 1600 (
nm_l (nm_up I6 15 v4.toNatClampNeg x3) fun I8 =>
nm_c v4 1600 (
nm_l (nm_up I8 16 v4.toNatClampNeg x4) fun I10 =>
nm_c x1 8 (
nm_c x1 8 (
nm_l (nm_up I10 17 x1.toNatClampNeg ((I10 17 x1.toNatClampNeg) + (1 : Int32))) fun I13 =>
some I13))))))))
set_option maxHeartbeats 4000000 in
set_option maxRecDepth 100000 in
theorem k_X12_addText {l : Launch} {D : va_G} {Y : nm_Y} {s0 : Nat} {X : va_W} {ad : Nat → Nat}  {x1 : Int32} {x2 : Int32} {x3 : Int32} {x4 : Int32} {I : nm_I} {M0 : nm_I} (hf : f_X12_addText x1 x2 x3 x4 I = some M0) :
    nm_Met l yX12_addText cX12_addText 6 none { frames := 0, cells := 0, slots := 0, locals := 0 } [.ref (ad 0), .int x1, .int x2, .int x3, .int x4] D Y s0 (nm_W Y X moN ad (I, nJ0, moZ)) (nm_Qv D s0 (nm_W Y X moN ad (M0, nJ0, moZ))) 0 0 := by
  refine nm_of (by decide) (Nat.le_of_ble_eq_true rfl) ?_
  intro p e R s m args below meth c Q ls hx hb hr hlocks hml hown hts hs0 hK hZ hRf hRl hRc hRs hQ hP hD hl
  have hH : nm_H D Y (fun q => s0 ≤ q) s.heap X moN ad (I, nJ0, moZ) s.heap [] := ⟨hP, hD, va_S.rf⟩
  have hl : lv_has ls 6 [(0, .ref (ad 0)), (1, .int x1), (2, .int x2), (3, .int x3), (4, .int x4)] := hl
  unfold f_X12_addText at hf
  refine lv_aload_n hx hb dX12_addText_0 rfl (lv_at hl 0 rfl) ?_
  refine gf_12_16 hK hx hb hts hown hH mo_n0 mo_k0 (hts _ tw_972) (fun _ h9 => h9) dX12_addText_1 ?_
  refine lv_iload_n hx hb dX12_addText_4 rfl (lv_at hl 1 rfl) ?_
  obtain ⟨hi1, hf⟩ := nm_chk hf
  refine nm_iald hx hb hK hH mo_n17 mo_k17 mo_l17 hi1 dX12_addText_5 ?_
  refine lv_sipush (v := 200) hx hb dX12_addText_6 (by decide) ?_
  refine lv_icmp_ne (tgt := 13) hx hb dX12_addText_9 (by decide) (fun c2 => ?_) (fun c2 => ?_)
  · have hf := nm_ie c2 hf
    refine lv_sipush (v := 200) hx hb dX12_addText_13 (by decide) ?_
    refine lv_iload_n hx hb dX12_addText_16 rfl (lv_at hl 1 rfl) ?_
    refine lv_imul hx hb dX12_addText_17 ?_
    refine lv_aload_n hx hb dX12_addText_18 rfl (lv_at hl 0 rfl) ?_
    refine gf_12_16 hK hx hb hts hown hH mo_n0 mo_k0 (hts _ tw_972) (fun _ h9 => h9) dX12_addText_19 ?_
    refine lv_iload_n hx hb dX12_addText_22 rfl (lv_at hl 1 rfl) ?_
    obtain ⟨hi3, hf⟩ := nm_chk hf
    refine nm_iald hx hb hK hH mo_n17 mo_k17 mo_l17 hi3 dX12_addText_23 ?_
    refine lv_iadd hx hb dX12_addText_24 ?_
    obtain ⟨v4, ev4, hf⟩ := nm_let hf
    refine nm_topi ev4 ?_
    refine lv_istore (lv' := [(5, .int v4), (0, .ref (ad 0)), (1, .int x1), (2, .int x2), (3, .int x3), (4, .int x4)]) hx hb dX12_addText_25 hl (by decide) rfl (fun ls hl => ?_)
    refine lv_aload_n hx hb dX12_addText_27 rfl (lv_at hl 1 rfl) ?_
    refine gf_12_13 hK hx hb hts hown hH mo_n0 mo_k0 (hts _ tw_969) (fun _ h9 => h9) dX12_addText_28 ?_
    refine lv_iload hx hb dX12_addText_31 (lv_at hl 0 rfl) ?_
    refine lv_iload_n hx hb dX12_addText_33 rfl (lv_at hl 3 rfl) ?_
    obtain ⟨hi5, hf⟩ := nm_chk hf
    obtain ⟨I6, eI6, hf⟩ := nm_let hf
    refine nm_iast hx hb hK hH mo_n14 mo_k14 mo_l14 hi5 dX12_addText_34 (fun H locs hH => ?_)
    have hH : nm_H D Y (fun q => s0 ≤ q) s.heap X moN ad (I6, nJ0, moZ) H locs := by rw [eI6]; exact hH
    refine lv_aload_n hx hb dX12_addText_35 rfl (lv_at hl 1 rfl) ?_
    refine gf_12_14 hK hx hb hts hown hH mo_n0 mo_k0 (hts _ tw_970) (fun _ h9 => h9) dX12_addText_36 ?_
    refine lv_iload hx hb dX12_addText_39 (lv_at hl 0 rfl) ?_
    refine lv_iload_n hx hb dX12_addText_41 rfl (lv_at hl 4 rfl) ?_
    obtain ⟨hi7, hf⟩ := nm_chk hf
    obtain ⟨I8, eI8, hf⟩ := nm_let hf
    refine nm_iast hx hb hK hH mo_n15 mo_k15 mo_l15 hi7 dX12_addText_42 (fun H locs hH => ?_)
    have hH : nm_H D Y (fun q => s0 ≤ q) s.heap X moN ad (I8, nJ0, moZ) H locs := by rw [eI8]; exact hH
    refine lv_aload_n hx hb dX12_addText_43 rfl (lv_at hl 1 rfl) ?_
    refine gf_12_15 hK hx hb hts hown hH mo_n0 mo_k0 (hts _ tw_971) (fun _ h9 => h9) dX12_addText_44 ?_
    refine lv_iload hx hb dX12_addText_47 (lv_at hl 0 rfl) ?_
    refine lv_iload hx hb dX12_addText_49 (lv_at hl 5 rfl) ?_
    obtain ⟨hi9, hf⟩ := nm_chk hf
    obtain ⟨I10, eI10, hf⟩ := nm_let hf
    refine nm_iast hx hb hK hH mo_n16 mo_k16 mo_l16 hi9 dX12_addText_51 (fun H locs hH => ?_)
    have hH : nm_H D Y (fun q => s0 ≤ q) s.heap X moN ad (I10, nJ0, moZ) H locs := by rw [eI10]; exact hH
    refine lv_aload_n hx hb dX12_addText_52 rfl (lv_at hl 1 rfl) ?_
    refine gf_12_16 hK hx hb hts hown hH mo_n0 mo_k0 (hts _ tw_972) (fun _ h9 => h9) dX12_addText_53 ?_
    refine lv_iload_n hx hb dX12_addText_56 rfl (lv_at hl 2 rfl) ?_
    refine lv_dup2_11 hx hb dX12_addText_57 rfl rfl ?_
    obtain ⟨hi11, hf⟩ := nm_chk hf
    refine nm_iald hx hb hK hH mo_n17 mo_k17 mo_l17 hi11 dX12_addText_58 ?_
    refine lv_iconst (v := 1) hx hb dX12_addText_59 (by decide) ?_
    refine lv_iadd hx hb dX12_addText_60 ?_
    obtain ⟨hi12, hf⟩ := nm_chk hf
    obtain ⟨I13, eI13, hf⟩ := nm_let hf
    refine nm_iast hx hb hK hH mo_n17 mo_k17 mo_l17 hi12 dX12_addText_61 (fun H locs hH => ?_)
    have hH : nm_H D Y (fun q => s0 ≤ q) s.heap X moN ad (I13, nJ0, moZ) H locs := by rw [eI13]; exact hH
    exact nm_vret hx hb hr hlocks hQ hH (congrArg (fun q => (q, nJ0, moZ)) (Option.some.inj hf)) dX12_addText_62
  · have hf := nm_it c2 hf
    exact nm_vret hx hb hr hlocks hQ hH (congrArg (fun q => (q, nJ0, moZ)) (Option.some.inj hf)) dX12_addText_12
def f_X12_textsOf_J116 (x6 : Int32) (I18 : nm_I) (k : Int32 → nm_I → Option (nm_I)) : Option (nm_I) :=
k (x6 + 1) I18
def f_X12_textsOf_L50 (x1 : Int32) (x2 : Int32) (v2 : Int32) (x4 : Int32) (x5 : Int32) : Nat → Int32 → nm_I → Option (nm_I)
  | 0, _, _ => none
  | n50 + 1, x6, I10 =>
    nm_c v2 8 (
    (if (((200 : Int32) * v2) + (I10 17 v2.toNatClampNeg)) ≤ x6 then
    some I10
    else
    nm_c x6 1600 (
    nm_s1 (f_X12_turns x2 (I10 15 x6.toNatClampNeg) I10) fun I14 =>
    nm_s1 (f_X12_placed x2 x5 x4 I14) fun r16 =>
    (if r16 < 0 then
    f_X12_textsOf_J116 x6 I14 (f_X12_textsOf_L50 x1 x2 v2 x4 x5 n50)
    else
    nm_c x6 1600 (
    nm_c x6 1600 (
    nm_s1 (f_X12_addText x1 (I14 14 x6.toNatClampNeg) r16 (I14 16 x6.toNatClampNeg) I14) fun I22 =>
    f_X12_textsOf_J116 x6 I22 (f_X12_textsOf_L50 x1 x2 v2 x4 x5 n50)))))))
def f_X12_textsOf_L28 (x1 : Int32) (x2 : Int32) (v2 : Int32) (x4 : Int32) : Nat → Int32 → nm_I → Option (nm_I)
  | 0, _, _ => none
  | n28 + 1, x5, I6 =>
    nm_c x2 128 (
    (if ((I6 6 x2.toNatClampNeg) / (200 : Int32)) ≤ x5 then
    some I6
    else
    nm_l ((200 : Int32) * v2) fun v9 =>
    nm_s1 (f_X12_textsOf_L50 x1 x2 v2 x4 x5 nm_F v9 I6) fun I24 =>
    f_X12_textsOf_L28 x1 x2 v2 x4 n28 (x5 + 1) I24))
def f_X12_textsOf_L10 (x1 : Int32) (x2 : Int32) (v2 : Int32) : Nat → Int32 → nm_I → Option (nm_I)
  | 0, _, _ => none
  | n10 + 1, x4, I3 =>
    nm_c x2 128 (
    (if ((I3 7 x2.toNatClampNeg) / (200 : Int32)) ≤ x4 then
    some I3
    else
    nm_s1 (f_X12_textsOf_L28 x1 x2 v2 x4 nm_F (0 : Int32) I3) fun I26 =>
    f_X12_textsOf_L10 x1 x2 v2 n10 (x4 + 1) I26))
def f_X12_textsOf (x1 : Int32) (x2 : Int32) (I : nm_I) : Option (nm_I) :=
nm_c x2 128 (
nm_l (I 2 x2.toNatClampNeg) fun v2 =>
nm_s1 (f_X12_textsOf_L10 x1 x2 v2 nm_F (0 : Int32) I) fun I28 =>
some I28)
set_option maxHeartbeats 4000000 in
set_option maxRecDepth 100000 in
theorem k_X12_textsOf {l : Launch} {D : va_G} {Y : nm_Y} {s0 : Nat} {X : va_W} {ad : Nat → Nat}  {x1 : Int32} {x2 : Int32} {I : nm_I} {M0 : nm_I} (hf : f_X12_textsOf x1 x2 I = some M0) :
    nm_Met l yX12_textsOf cX12_textsOf 8 none { frames := 2, cells := 0, slots := 0, locals := 50 } [.ref (ad 0), .int x1, .int x2] D Y s0 (nm_W Y X moN ad (I, nJ0, moZ)) (nm_Qv D s0 (nm_W Y X moN ad (M0, nJ0, moZ))) 0 0 := by
  refine nm_of (by decide) (Nat.le_of_ble_eq_true rfl) ?_
  intro p e R s m args below meth c Q ls hx hb hr hlocks hml hown hts hs0 hK hZ hRf hRl hRc hRs hQ hP hD hl
  have hH : nm_H D Y (fun q => s0 ≤ q) s.heap X moN ad (I, nJ0, moZ) s.heap [] := ⟨hP, hD, va_S.rf⟩
  have hl : lv_has ls 8 [(0, .ref (ad 0)), (1, .int x1), (2, .int x2)] := hl
  unfold f_X12_textsOf at hf
  refine lv_aload_n hx hb dX12_textsOf_0 rfl (lv_at hl 0 rfl) ?_
  refine gf_12_1 hK hx hb hts hown hH mo_n0 mo_k0 (hts _ tw_957) (fun _ h9 => h9) dX12_textsOf_1 ?_
  refine lv_iload_n hx hb dX12_textsOf_4 rfl (lv_at hl 2 rfl) ?_
  obtain ⟨hi1, hf⟩ := nm_chk hf
  refine nm_iald hx hb hK hH mo_n2 mo_k2 mo_l2 hi1 dX12_textsOf_5 ?_
  obtain ⟨v2, ev2, hf⟩ := nm_let hf
  refine nm_topi ev2 ?_
  refine lv_istore_n (lv' := [(3, .int v2), (0, .ref (ad 0)), (1, .int x1), (2, .int x2)]) hx hb dX12_textsOf_6 rfl hl (by decide) rfl (fun ls hl => ?_)
  refine lv_iconst (v := 0) hx hb dX12_textsOf_7 (by decide) ?_
  refine lv_istore (lv' := [(4, .int (0 : Int32)), (3, .int v2), (0, .ref (ad 0)), (1, .int x1), (2, .int x2)]) hx hb dX12_textsOf_8 hl (by decide) rfl (fun ls hl => ?_)
  have hL10 : ∀ (n10 : Nat) (x4 : Int32) (I3 : nm_I) (H : Heap) (locs : List Loc) (ls : Array Slot) (o10 : nm_I), nm_H D Y (fun q => s0 ≤ q) s.heap X moN ad (I3, nJ0, moZ) H locs → lv_has ls 8 [(0, .ref (ad 0)), (1, .int x1), (2, .int x2), (3, .int v2), (4, .int x4)] → f_X12_textsOf_L10 x1 x2 v2 n10 x4 I3 = some o10 → (∀ (H : Heap) (locs : List Loc) (ls : Array Slot), nm_H D Y (fun q => s0 ≤ q) s.heap X moN ad (o10, nJ0, moZ) H locs → lv_has ls 8 [] → W p l e R s m args below meth c H locs 0 0 Q (F0 m 134 ls [])) → W p l e R s m args below meth c H locs 0 0 Q (F0 m 10 ls []) := by
    intro n10
    induction n10 with
    | zero =>
      intro x4 I3 H locs ls o10 hH hl hf hX10
      cases hf
    | succ n10 ih10 =>
      intro x4 I3 H locs ls o10 hH hl hf hX10
      rw [f_X12_textsOf_L10] at hf
      refine lv_iload hx hb dX12_textsOf_10 (lv_at hl 4 rfl) ?_
      refine lv_aload_n hx hb dX12_textsOf_12 rfl (lv_at hl 0 rfl) ?_
      refine gf_12_6 hK hx hb hts hown hH mo_n0 mo_k0 (hts _ tw_962) (fun _ h9 => h9) dX12_textsOf_13 ?_
      refine lv_iload_n hx hb dX12_textsOf_16 rfl (lv_at hl 2 rfl) ?_
      obtain ⟨hi4, hf⟩ := nm_chk hf
      refine nm_iald hx hb hK hH mo_n7 mo_k7 mo_l7 hi4 dX12_textsOf_17 ?_
      refine lv_sipush (v := 200) hx hb dX12_textsOf_18 (by decide) ?_
      refine lv_idiv hx hb dX12_textsOf_21 (by decide) ?_
      refine lv_icmp_ge (tgt := 134) hx hb dX12_textsOf_22 (by decide) (fun c5 => ?_) (fun c5 => ?_)
      · have hf := nm_it c5 hf
        cases hf
        exact hX10 _ _ _ hH (lv_sub hl [] rfl)
      · have hf := nm_ie c5 hf
        refine lv_iconst (v := 0) hx hb dX12_textsOf_25 (by decide) ?_
        refine lv_istore (lv' := [(5, .int (0 : Int32)), (0, .ref (ad 0)), (1, .int x1), (2, .int x2), (3, .int v2), (4, .int x4)]) hx hb dX12_textsOf_26 hl (by decide) rfl (fun ls hl => ?_)
        have hL28 : ∀ (n28 : Nat) (x5 : Int32) (I6 : nm_I) (H : Heap) (locs : List Loc) (ls : Array Slot) (o28 : nm_I), nm_H D Y (fun q => s0 ≤ q) s.heap X moN ad (I6, nJ0, moZ) H locs → lv_has ls 8 [(0, .ref (ad 0)), (1, .int x1), (2, .int x2), (3, .int v2), (4, .int x4), (5, .int x5)] → f_X12_textsOf_L28 x1 x2 v2 x4 n28 x5 I6 = some o28 → (∀ (H : Heap) (locs : List Loc) (ls : Array Slot), nm_H D Y (fun q => s0 ≤ q) s.heap X moN ad (o28, nJ0, moZ) H locs → lv_has ls 8 [(0, .ref (ad 0)), (1, .int x1), (2, .int x2), (3, .int v2), (4, .int x4)] → W p l e R s m args below meth c H locs 0 0 Q (F0 m 128 ls [])) → W p l e R s m args below meth c H locs 0 0 Q (F0 m 28 ls []) := by
          intro n28
          induction n28 with
          | zero =>
            intro x5 I6 H locs ls o28 hH hl hf hX28
            cases hf
          | succ n28 ih28 =>
            intro x5 I6 H locs ls o28 hH hl hf hX28
            rw [f_X12_textsOf_L28] at hf
            refine lv_iload hx hb dX12_textsOf_28 (lv_at hl 5 rfl) ?_
            refine lv_aload_n hx hb dX12_textsOf_30 rfl (lv_at hl 0 rfl) ?_
            refine gf_12_5 hK hx hb hts hown hH mo_n0 mo_k0 (hts _ tw_961) (fun _ h9 => h9) dX12_textsOf_31 ?_
            refine lv_iload_n hx hb dX12_textsOf_34 rfl (lv_at hl 2 rfl) ?_
            obtain ⟨hi7, hf⟩ := nm_chk hf
            refine nm_iald hx hb hK hH mo_n6 mo_k6 mo_l6 hi7 dX12_textsOf_35 ?_
            refine lv_sipush (v := 200) hx hb dX12_textsOf_36 (by decide) ?_
            refine lv_idiv hx hb dX12_textsOf_39 (by decide) ?_
            refine lv_icmp_ge (tgt := 128) hx hb dX12_textsOf_40 (by decide) (fun c8 => ?_) (fun c8 => ?_)
            · have hf := nm_it c8 hf
              cases hf
              exact hX28 _ _ _ hH (lv_sub hl [0, 1, 2, 3, 4] rfl)
            · have hf := nm_ie c8 hf
              refine lv_sipush (v := 200) hx hb dX12_textsOf_43 (by decide) ?_
              refine lv_iload_n hx hb dX12_textsOf_46 rfl (lv_at hl 3 rfl) ?_
              refine lv_imul hx hb dX12_textsOf_47 ?_
              obtain ⟨v9, ev9, hf⟩ := nm_let hf
              refine nm_topi ev9 ?_
              refine lv_istore (lv' := [(6, .int v9), (0, .ref (ad 0)), (1, .int x1), (2, .int x2), (3, .int v2), (4, .int x4), (5, .int x5)]) hx hb dX12_textsOf_48 hl (by decide) rfl (fun ls hl => ?_)
              have hL50 : ∀ (n50 : Nat) (x6 : Int32) (I10 : nm_I) (H : Heap) (locs : List Loc) (ls : Array Slot) (o50 : nm_I), nm_H D Y (fun q => s0 ≤ q) s.heap X moN ad (I10, nJ0, moZ) H locs → lv_has ls 8 [(0, .ref (ad 0)), (1, .int x1), (2, .int x2), (3, .int v2), (4, .int x4), (5, .int x5), (6, .int x6)] → f_X12_textsOf_L50 x1 x2 v2 x4 x5 n50 x6 I10 = some o50 → (∀ (H : Heap) (locs : List Loc) (ls : Array Slot), nm_H D Y (fun q => s0 ≤ q) s.heap X moN ad (o50, nJ0, moZ) H locs → lv_has ls 8 [(0, .ref (ad 0)), (1, .int x1), (2, .int x2), (3, .int v2), (4, .int x4), (5, .int x5)] → W p l e R s m args below meth c H locs 0 0 Q (F0 m 122 ls [])) → W p l e R s m args below meth c H locs 0 0 Q (F0 m 50 ls []) := by
                intro n50
                induction n50 with
                | zero =>
                  intro x6 I10 H locs ls o50 hH hl hf hX50
                  cases hf
                | succ n50 ih50 =>
                  intro x6 I10 H locs ls o50 hH hl hf hX50
                  rw [f_X12_textsOf_L50] at hf
                  refine lv_iload hx hb dX12_textsOf_50 (lv_at hl 6 rfl) ?_
                  refine lv_sipush (v := 200) hx hb dX12_textsOf_52 (by decide) ?_
                  refine lv_iload_n hx hb dX12_textsOf_55 rfl (lv_at hl 3 rfl) ?_
                  refine lv_imul hx hb dX12_textsOf_56 ?_
                  refine lv_aload_n hx hb dX12_textsOf_57 rfl (lv_at hl 0 rfl) ?_
                  refine gf_12_16 hK hx hb hts hown hH mo_n0 mo_k0 (hts _ tw_972) (fun _ h9 => h9) dX12_textsOf_58 ?_
                  refine lv_iload_n hx hb dX12_textsOf_61 rfl (lv_at hl 3 rfl) ?_
                  obtain ⟨hi11, hf⟩ := nm_chk hf
                  refine nm_iald hx hb hK hH mo_n17 mo_k17 mo_l17 hi11 dX12_textsOf_62 ?_
                  refine lv_iadd hx hb dX12_textsOf_63 ?_
                  refine lv_icmp_ge (tgt := 122) hx hb dX12_textsOf_64 (by decide) (fun c12 => ?_) (fun c12 => ?_)
                  · have hf := nm_it c12 hf
                    cases hf
                    exact hX50 _ _ _ hH (lv_sub hl [0, 1, 2, 3, 4, 5] rfl)
                  · have hf := nm_ie c12 hf
                    refine lv_aload_n hx hb dX12_textsOf_67 rfl (lv_at hl 0 rfl) ?_
                    refine lv_iload_n hx hb dX12_textsOf_68 rfl (lv_at hl 2 rfl) ?_
                    refine lv_aload_n hx hb dX12_textsOf_69 rfl (lv_at hl 0 rfl) ?_
                    refine gf_12_14 hK hx hb hts hown hH mo_n0 mo_k0 (hts _ tw_970) (fun _ h9 => h9) dX12_textsOf_70 ?_
                    refine lv_iload hx hb dX12_textsOf_73 (lv_at hl 6 rfl) ?_
                    obtain ⟨hi13, hf⟩ := nm_chk hf
                    refine nm_iald hx hb hK hH mo_n15 mo_k15 mo_l15 hi13 dX12_textsOf_75 ?_
                    obtain ⟨I14, hc15, hf⟩ := nm_sd1 hf
                    refine nm_callv (nm_runV (X := X) (nl := moN) (k_X12_turns (hf := hc15)) hx hb hml hown hts hs0 hK hZ hH tw_1301 tw_1298 tw_1300 (sw_X12_turns) tw_9 hd_X12_turns mo_n0 mo_k0 (by decide) rfl rfl rfl ⟨Nat.le_trans (Nat.le_of_ble_eq_true rfl) hRf, Nat.le_trans (Nat.le_of_ble_eq_true rfl) hRl⟩ rfl hl.1 rfl (Nat.le_of_ble_eq_true rfl) dX12_textsOf_76 ⟨Nat.zero_le _, Nat.zero_le _⟩) hH (fun H locs hH => ?_)
                    have hH : nm_H D Y (fun q => s0 ≤ q) s.heap X moN ad (I14, nJ0, moZ) H locs := hH
                    refine lv_aload_n hx hb dX12_textsOf_79 rfl (lv_at hl 0 rfl) ?_
                    refine lv_iload_n hx hb dX12_textsOf_80 rfl (lv_at hl 2 rfl) ?_
                    refine lv_iload hx hb dX12_textsOf_81 (lv_at hl 5 rfl) ?_
                    refine lv_iload hx hb dX12_textsOf_83 (lv_at hl 4 rfl) ?_
                    obtain ⟨r16, hc17, hf⟩ := nm_sd1 hf
                    refine nm_calli (nm_runV (X := X) (nl := moN) (k_X12_placed (hf := hc17)) hx hb hml hown hts hs0 hK hZ hH tw_1305 tw_1302 tw_1304 (sw_X12_placed) tw_9 hd_X12_placed mo_n0 mo_k0 (by decide) rfl rfl rfl ⟨Nat.le_trans (Nat.le_of_ble_eq_true rfl) hRf, Nat.le_trans (Nat.le_of_ble_eq_true rfl) hRl⟩ rfl hl.1 rfl (Nat.le_of_ble_eq_true rfl) dX12_textsOf_85 ⟨Nat.zero_le _, Nat.zero_le _⟩) hH (fun H locs hH => ?_)
                    have hH : nm_H D Y (fun q => s0 ≤ q) s.heap X moN ad (I14, nJ0, moZ) H locs := hH
                    refine lv_istore (lv' := [(7, .int r16), (0, .ref (ad 0)), (1, .int x1), (2, .int x2), (3, .int v2), (4, .int x4), (5, .int x5), (6, .int x6)]) hx hb dX12_textsOf_88 hl (by decide) rfl (fun ls hl => ?_)
                    refine lv_iload hx hb dX12_textsOf_90 (lv_at hl 0 rfl) ?_
                    have hJ116 : ∀ (I18 : nm_I) (H : Heap) (locs : List Loc) (ls : Array Slot), nm_H D Y (fun q => s0 ≤ q) s.heap X moN ad (I18, nJ0, moZ) H locs → lv_has ls 8 [(0, .ref (ad 0)), (1, .int x1), (2, .int x2), (3, .int v2), (4, .int x4), (5, .int x5), (6, .int x6)] → f_X12_textsOf_J116 x6 I18 (f_X12_textsOf_L50 x1 x2 v2 x4 x5 n50) = some o50 → W p l e R s m args below meth c H locs 0 0 Q (F0 m 116 ls []) := by
                      intro I18 H locs ls hH hl hf
                      unfold f_X12_textsOf_J116 at hf
                      refine lv_iinc (v := x6 + 1) (lv' := [(6, .int (x6 + 1)), (0, .ref (ad 0)), (1, .int x1), (2, .int x2), (3, .int v2), (4, .int x4), (5, .int x5)]) hx hb dX12_textsOf_116 hl (k := 6) rfl rfl (by decide) rfl (fun ls hl => ?_)
                      refine lv_goto (tgt := 50) hx hb dX12_textsOf_119 (by decide) ?_
                      exact ih50 (x6 + 1) I18 _ _ _ _ hH (lv_sub hl [1, 2, 3, 4, 5, 6, 0] rfl) hf hX50
                    refine lv_if_lt (tgt := 116) hx hb dX12_textsOf_92 (by decide) (fun c19 => ?_) (fun c19 => ?_)
                    · have hf := nm_it c19 hf
                      exact hJ116  I14 _ _ _ hH (lv_sub hl [1, 2, 3, 4, 5, 6, 7] rfl) hf
                    · have hf := nm_ie c19 hf
                      refine lv_aload_n hx hb dX12_textsOf_95 rfl (lv_at hl 1 rfl) ?_
                      refine lv_iload_n hx hb dX12_textsOf_96 rfl (lv_at hl 2 rfl) ?_
                      refine lv_aload_n hx hb dX12_textsOf_97 rfl (lv_at hl 1 rfl) ?_
                      refine gf_12_13 hK hx hb hts hown hH mo_n0 mo_k0 (hts _ tw_969) (fun _ h9 => h9) dX12_textsOf_98 ?_
                      refine lv_iload hx hb dX12_textsOf_101 (lv_at hl 7 rfl) ?_
                      obtain ⟨hi20, hf⟩ := nm_chk hf
                      refine nm_iald hx hb hK hH mo_n14 mo_k14 mo_l14 hi20 dX12_textsOf_103 ?_
                      refine lv_iload hx hb dX12_textsOf_104 (lv_at hl 0 rfl) ?_
                      refine lv_aload_n hx hb dX12_textsOf_106 rfl (lv_at hl 1 rfl) ?_
                      refine gf_12_15 hK hx hb hts hown hH mo_n0 mo_k0 (hts _ tw_971) (fun _ h9 => h9) dX12_textsOf_107 ?_
                      refine lv_iload hx hb dX12_textsOf_110 (lv_at hl 7 rfl) ?_
                      obtain ⟨hi21, hf⟩ := nm_chk hf
                      refine nm_iald hx hb hK hH mo_n16 mo_k16 mo_l16 hi21 dX12_textsOf_112 ?_
                      obtain ⟨I22, hc23, hf⟩ := nm_sd1 hf
                      refine nm_callv (nm_runV (X := X) (nl := moN) (k_X12_addText (hf := hc23)) hx hb hml hown hts hs0 hK hZ hH tw_1293 tw_1290 tw_1292 (sw_X12_addText) tw_9 hd_X12_addText mo_n0 mo_k0 (by decide) rfl rfl rfl ⟨Nat.le_trans (Nat.le_of_ble_eq_true rfl) hRf, Nat.le_trans (Nat.le_of_ble_eq_true rfl) hRl⟩ rfl hl.1 rfl (Nat.le_of_ble_eq_true rfl) dX12_textsOf_113 ⟨Nat.zero_le _, Nat.zero_le _⟩) hH (fun H locs hH => ?_)
                      have hH : nm_H D Y (fun q => s0 ≤ q) s.heap X moN ad (I22, nJ0, moZ) H locs := hH
                      exact hJ116  I22 _ _ _ hH (lv_sub hl [1, 2, 3, 4, 5, 6, 7] rfl) hf
              obtain ⟨I24, hl25, hf⟩ := nm_sd1 hf
              refine hL50 nm_F v9 I6 _ _ _ _ hH (lv_sub hl [1, 2, 3, 4, 5, 6, 0] rfl) hl25 (fun H locs ls hH hl => ?_)
              have hl : lv_has ls 8 [(0, .ref (ad 0)), (1, .int x1), (2, .int x2), (3, .int v2), (4, .int x4), (5, .int x5)] := hl
              have hH : nm_H D Y (fun q => s0 ≤ q) s.heap X moN ad (I24, nJ0, moZ) H locs := hH
              refine lv_iinc (v := x5 + 1) (lv' := [(5, .int (x5 + 1)), (0, .ref (ad 0)), (1, .int x1), (2, .int x2), (3, .int v2), (4, .int x4)]) hx hb dX12_textsOf_122 hl (k := 5) rfl rfl (by decide) rfl (fun ls hl => ?_)
              refine lv_goto (tgt := 28) hx hb dX12_textsOf_125 (by decide) ?_
              exact ih28 (x5 + 1) I24 _ _ _ _ hH (lv_sub hl [1, 2, 3, 4, 5, 0] rfl) hf hX28
        obtain ⟨I26, hl27, hf⟩ := nm_sd1 hf
        refine hL28 nm_F (0 : Int32) I3 _ _ _ _ hH (lv_sub hl [1, 2, 3, 4, 5, 0] rfl) hl27 (fun H locs ls hH hl => ?_)
        have hl : lv_has ls 8 [(0, .ref (ad 0)), (1, .int x1), (2, .int x2), (3, .int v2), (4, .int x4)] := hl
        have hH : nm_H D Y (fun q => s0 ≤ q) s.heap X moN ad (I26, nJ0, moZ) H locs := hH
        refine lv_iinc (v := x4 + 1) (lv' := [(4, .int (x4 + 1)), (0, .ref (ad 0)), (1, .int x1), (2, .int x2), (3, .int v2)]) hx hb dX12_textsOf_128 hl (k := 4) rfl rfl (by decide) rfl (fun ls hl => ?_)
        refine lv_goto (tgt := 10) hx hb dX12_textsOf_131 (by decide) ?_
        exact ih10 (x4 + 1) I26 _ _ _ _ hH (lv_sub hl [1, 2, 3, 4, 0] rfl) hf hX10
  obtain ⟨I28, hl29, hf⟩ := nm_sd1 hf
  refine hL10 nm_F (0 : Int32) I _ _ _ _ hH (lv_sub hl [2, 3, 4, 1, 0] rfl) hl29 (fun H locs ls hH hl => ?_)
  have hl : lv_has ls 8 [] := hl
  have hH : nm_H D Y (fun q => s0 ≤ q) s.heap X moN ad (I28, nJ0, moZ) H locs := hH
  exact nm_vret hx hb hr hlocks hQ hH (congrArg (fun q => (q, nJ0, moZ)) (Option.some.inj hf)) dX12_textsOf_134
def f_X12_lays_J64 (x3 : Int32) (I10 : nm_I) (k : Int32 → nm_I → Option (nm_I)) : Option (nm_I) :=
k (x3 + 1) I10
def f_X12_lays_L19 (x1 : Int32) (v5 : Int32) : Nat → Int32 → nm_I → Option (nm_I)
  | 0, _, _ => none
  | n19 + 1, x3, I6 =>
    nm_c x1 8 (
    (if (v5 + (I6 8 x1.toNatClampNeg)) ≤ x3 then
    some I6
    else
    nm_c x3 128 (
    (if (I6 1 x3.toNatClampNeg) = (3 : Int32) then
    nm_c x3 128 (
    nm_c x3 128 (
    nm_c x3 128 (
    nm_s1 (f_X12_addText x1 (I6 2 x3.toNatClampNeg) (I6 3 x3.toNatClampNeg) (I6 4 x3.toNatClampNeg) I6) fun I15 =>
    f_X12_lays_J64 x3 I15 (f_X12_lays_L19 x1 v5 n19))))
    else
    f_X12_lays_J64 x3 I6 (f_X12_lays_L19 x1 v5 n19)))))
def f_X12_lays_J109 (x3 : Int32) (I22 : nm_I) (k : Int32 → nm_I → Option (nm_I)) : Option (nm_I) :=
k (x3 + 1) I22
def f_X12_lays_L72 (x1 : Int32) (v5 : Int32) : Nat → Int32 → nm_I → Option (nm_I)
  | 0, _, _ => none
  | n72 + 1, x3, I18 =>
    nm_c x1 8 (
    (if (v5 + (I18 8 x1.toNatClampNeg)) ≤ x3 then
    some I18
    else
    nm_c x3 128 (
    (if (I18 1 x3.toNatClampNeg) = (4 : Int32) then
    nm_s1 (f_X12_laysPut x1 x3 I18) fun I24 =>
    nm_s1 (f_X12_textsOf x1 x3 I24) fun I26 =>
    f_X12_lays_J109 x3 I26 (f_X12_lays_L72 x1 v5 n72)
    else
    f_X12_lays_J109 x3 I18 (f_X12_lays_L72 x1 v5 n72)))))
def f_X12_lays (x1 : Int32) (I : nm_I) : Option (nm_I) :=
nm_s1 (f_X12_laysOwn x1 I) fun I1 =>
nm_c x1 8 (
nm_l (nm_up I1 17 x1.toNatClampNeg (0 : Int32)) fun I4 =>
nm_l ((16 : Int32) * x1) fun v5 =>
nm_s1 (f_X12_lays_L19 x1 v5 nm_F v5 I4) fun I17 =>
nm_s1 (f_X12_lays_L72 x1 v5 nm_F v5 I17) fun I28 =>
some I28)
set_option maxHeartbeats 4000000 in
set_option maxRecDepth 100000 in
theorem k_X12_lays {l : Launch} {D : va_G} {Y : nm_Y} {s0 : Nat} {X : va_W} {ad : Nat → Nat}  {x1 : Int32} {I : nm_I} {M0 : nm_I} (hf : f_X12_lays x1 I = some M0) :
    nm_Met l yX12_lays cX12_lays 4 none { frames := 3, cells := 0, slots := 0, locals := 81 } [.ref (ad 0), .int x1] D Y s0 (nm_W Y X moN ad (I, nJ0, moZ)) (nm_Qv D s0 (nm_W Y X moN ad (M0, nJ0, moZ))) 0 0 := by
  refine nm_of (by decide) (Nat.le_of_ble_eq_true rfl) ?_
  intro p e R s m args below meth c Q ls hx hb hr hlocks hml hown hts hs0 hK hZ hRf hRl hRc hRs hQ hP hD hl
  have hH : nm_H D Y (fun q => s0 ≤ q) s.heap X moN ad (I, nJ0, moZ) s.heap [] := ⟨hP, hD, va_S.rf⟩
  have hl : lv_has ls 4 [(0, .ref (ad 0)), (1, .int x1)] := hl
  unfold f_X12_lays at hf
  refine lv_aload_n hx hb dX12_lays_0 rfl (lv_at hl 0 rfl) ?_
  refine lv_iload_n hx hb dX12_lays_1 rfl (lv_at hl 1 rfl) ?_
  obtain ⟨I1, hc2, hf⟩ := nm_sd1 hf
  refine nm_callv (nm_runV (X := X) (nl := moN) (k_X12_laysOwn (hf := hc2)) hx hb hml hown hts hs0 hK hZ hH tw_1278 tw_1275 tw_1277 (sw_X12_laysOwn) tw_9 hd_X12_laysOwn mo_n0 mo_k0 (by decide) rfl rfl rfl ⟨Nat.le_trans (Nat.le_of_ble_eq_true rfl) hRf, Nat.le_trans (Nat.le_of_ble_eq_true rfl) hRl⟩ rfl hl.1 rfl (Nat.le_of_ble_eq_true rfl) dX12_lays_2 ⟨Nat.zero_le _, Nat.zero_le _⟩) hH (fun H locs hH => ?_)
  have hH : nm_H D Y (fun q => s0 ≤ q) s.heap X moN ad (I1, nJ0, moZ) H locs := hH
  refine lv_aload_n hx hb dX12_lays_5 rfl (lv_at hl 0 rfl) ?_
  refine gf_12_16 hK hx hb hts hown hH mo_n0 mo_k0 (hts _ tw_972) (fun _ h9 => h9) dX12_lays_6 ?_
  refine lv_iload_n hx hb dX12_lays_9 rfl (lv_at hl 1 rfl) ?_
  refine lv_iconst (v := 0) hx hb dX12_lays_10 (by decide) ?_
  obtain ⟨hi3, hf⟩ := nm_chk hf
  obtain ⟨I4, eI4, hf⟩ := nm_let hf
  refine nm_iast hx hb hK hH mo_n17 mo_k17 mo_l17 hi3 dX12_lays_11 (fun H locs hH => ?_)
  have hH : nm_H D Y (fun q => s0 ≤ q) s.heap X moN ad (I4, nJ0, moZ) H locs := by rw [eI4]; exact hH
  refine lv_bipush (v := 16) hx hb dX12_lays_12 (by decide) ?_
  refine lv_iload_n hx hb dX12_lays_14 rfl (lv_at hl 1 rfl) ?_
  refine lv_imul hx hb dX12_lays_15 ?_
  obtain ⟨v5, ev5, hf⟩ := nm_let hf
  refine nm_topi ev5 ?_
  refine lv_istore_n (lv' := [(2, .int v5), (0, .ref (ad 0)), (1, .int x1)]) hx hb dX12_lays_16 rfl hl (by decide) rfl (fun ls hl => ?_)
  refine lv_iload_n hx hb dX12_lays_17 rfl (lv_at hl 0 rfl) ?_
  refine lv_istore_n (lv' := [(3, .int v5), (2, .int v5), (0, .ref (ad 0)), (1, .int x1)]) hx hb dX12_lays_18 rfl hl (by decide) rfl (fun ls hl => ?_)
  have hL19 : ∀ (n19 : Nat) (x3 : Int32) (I6 : nm_I) (H : Heap) (locs : List Loc) (ls : Array Slot) (o19 : nm_I), nm_H D Y (fun q => s0 ≤ q) s.heap X moN ad (I6, nJ0, moZ) H locs → lv_has ls 4 [(0, .ref (ad 0)), (1, .int x1), (2, .int v5), (3, .int x3)] → f_X12_lays_L19 x1 v5 n19 x3 I6 = some o19 → (∀ (H : Heap) (locs : List Loc) (ls : Array Slot), nm_H D Y (fun q => s0 ≤ q) s.heap X moN ad (o19, nJ0, moZ) H locs → lv_has ls 4 [(0, .ref (ad 0)), (1, .int x1), (2, .int v5)] → W p l e R s m args below meth c H locs 0 0 Q (F0 m 70 ls [])) → W p l e R s m args below meth c H locs 0 0 Q (F0 m 19 ls []) := by
    intro n19
    induction n19 with
    | zero =>
      intro x3 I6 H locs ls o19 hH hl hf hX19
      cases hf
    | succ n19 ih19 =>
      intro x3 I6 H locs ls o19 hH hl hf hX19
      rw [f_X12_lays_L19] at hf
      refine lv_iload_n hx hb dX12_lays_19 rfl (lv_at hl 3 rfl) ?_
      refine lv_iload_n hx hb dX12_lays_20 rfl (lv_at hl 2 rfl) ?_
      refine lv_aload_n hx hb dX12_lays_21 rfl (lv_at hl 0 rfl) ?_
      refine gf_12_7 hK hx hb hts hown hH mo_n0 mo_k0 (hts _ tw_963) (fun _ h9 => h9) dX12_lays_22 ?_
      refine lv_iload_n hx hb dX12_lays_25 rfl (lv_at hl 1 rfl) ?_
      obtain ⟨hi7, hf⟩ := nm_chk hf
      refine nm_iald hx hb hK hH mo_n8 mo_k8 mo_l8 hi7 dX12_lays_26 ?_
      refine lv_iadd hx hb dX12_lays_27 ?_
      refine lv_icmp_ge (tgt := 70) hx hb dX12_lays_28 (by decide) (fun c8 => ?_) (fun c8 => ?_)
      · have hf := nm_it c8 hf
        cases hf
        exact hX19 _ _ _ hH (lv_sub hl [0, 1, 2] rfl)
      · have hf := nm_ie c8 hf
        refine lv_aload_n hx hb dX12_lays_31 rfl (lv_at hl 0 rfl) ?_
        refine gf_12_0 hK hx hb hts hown hH mo_n0 mo_k0 (hts _ tw_956) (fun _ h9 => h9) dX12_lays_32 ?_
        refine lv_iload_n hx hb dX12_lays_35 rfl (lv_at hl 3 rfl) ?_
        obtain ⟨hi9, hf⟩ := nm_chk hf
        refine nm_iald hx hb hK hH mo_n1 mo_k1 mo_l1 hi9 dX12_lays_36 ?_
        refine lv_iconst (v := 3) hx hb dX12_lays_37 (by decide) ?_
        have hJ64 : ∀ (I10 : nm_I) (H : Heap) (locs : List Loc) (ls : Array Slot), nm_H D Y (fun q => s0 ≤ q) s.heap X moN ad (I10, nJ0, moZ) H locs → lv_has ls 4 [(0, .ref (ad 0)), (1, .int x1), (2, .int v5), (3, .int x3)] → f_X12_lays_J64 x3 I10 (f_X12_lays_L19 x1 v5 n19) = some o19 → W p l e R s m args below meth c H locs 0 0 Q (F0 m 64 ls []) := by
          intro I10 H locs ls hH hl hf
          unfold f_X12_lays_J64 at hf
          refine lv_iinc (v := x3 + 1) (lv' := [(3, .int (x3 + 1)), (0, .ref (ad 0)), (1, .int x1), (2, .int v5)]) hx hb dX12_lays_64 hl (k := 3) rfl rfl (by decide) rfl (fun ls hl => ?_)
          refine lv_goto (tgt := 19) hx hb dX12_lays_67 (by decide) ?_
          exact ih19 (x3 + 1) I10 _ _ _ _ hH (lv_sub hl [1, 2, 3, 0] rfl) hf hX19
        refine lv_icmp_ne (tgt := 64) hx hb dX12_lays_38 (by decide) (fun c11 => ?_) (fun c11 => ?_)
        · have hf := nm_ie c11 hf
          exact hJ64  I6 _ _ _ hH (lv_sub hl [0, 1, 2, 3] rfl) hf
        · have hf := nm_it c11 hf
          refine lv_aload_n hx hb dX12_lays_41 rfl (lv_at hl 0 rfl) ?_
          refine lv_iload_n hx hb dX12_lays_42 rfl (lv_at hl 1 rfl) ?_
          refine lv_aload_n hx hb dX12_lays_43 rfl (lv_at hl 0 rfl) ?_
          refine gf_12_1 hK hx hb hts hown hH mo_n0 mo_k0 (hts _ tw_957) (fun _ h9 => h9) dX12_lays_44 ?_
          refine lv_iload_n hx hb dX12_lays_47 rfl (lv_at hl 3 rfl) ?_
          obtain ⟨hi12, hf⟩ := nm_chk hf
          refine nm_iald hx hb hK hH mo_n2 mo_k2 mo_l2 hi12 dX12_lays_48 ?_
          refine lv_aload_n hx hb dX12_lays_49 rfl (lv_at hl 0 rfl) ?_
          refine gf_12_2 hK hx hb hts hown hH mo_n0 mo_k0 (hts _ tw_958) (fun _ h9 => h9) dX12_lays_50 ?_
          refine lv_iload_n hx hb dX12_lays_53 rfl (lv_at hl 3 rfl) ?_
          obtain ⟨hi13, hf⟩ := nm_chk hf
          refine nm_iald hx hb hK hH mo_n3 mo_k3 mo_l3 hi13 dX12_lays_54 ?_
          refine lv_aload_n hx hb dX12_lays_55 rfl (lv_at hl 0 rfl) ?_
          refine gf_12_3 hK hx hb hts hown hH mo_n0 mo_k0 (hts _ tw_959) (fun _ h9 => h9) dX12_lays_56 ?_
          refine lv_iload_n hx hb dX12_lays_59 rfl (lv_at hl 3 rfl) ?_
          obtain ⟨hi14, hf⟩ := nm_chk hf
          refine nm_iald hx hb hK hH mo_n4 mo_k4 mo_l4 hi14 dX12_lays_60 ?_
          obtain ⟨I15, hc16, hf⟩ := nm_sd1 hf
          refine nm_callv (nm_runV (X := X) (nl := moN) (k_X12_addText (hf := hc16)) hx hb hml hown hts hs0 hK hZ hH tw_1293 tw_1290 tw_1292 (sw_X12_addText) tw_9 hd_X12_addText mo_n0 mo_k0 (by decide) rfl rfl rfl ⟨Nat.le_trans (Nat.le_of_ble_eq_true rfl) hRf, Nat.le_trans (Nat.le_of_ble_eq_true rfl) hRl⟩ rfl hl.1 rfl (Nat.le_of_ble_eq_true rfl) dX12_lays_61 ⟨Nat.zero_le _, Nat.zero_le _⟩) hH (fun H locs hH => ?_)
          have hH : nm_H D Y (fun q => s0 ≤ q) s.heap X moN ad (I15, nJ0, moZ) H locs := hH
          exact hJ64  I15 _ _ _ hH (lv_sub hl [0, 1, 2, 3] rfl) hf
  obtain ⟨I17, hl30, hf⟩ := nm_sd1 hf
  refine hL19 nm_F v5 I4 _ _ _ _ hH (lv_sub hl [2, 3, 1, 0] rfl) hl30 (fun H locs ls hH hl => ?_)
  have hl : lv_has ls 4 [(0, .ref (ad 0)), (1, .int x1), (2, .int v5)] := hl
  have hH : nm_H D Y (fun q => s0 ≤ q) s.heap X moN ad (I17, nJ0, moZ) H locs := hH
  refine lv_iload_n hx hb dX12_lays_70 rfl (lv_at hl 2 rfl) ?_
  refine lv_istore_n (lv' := [(3, .int v5), (0, .ref (ad 0)), (1, .int x1), (2, .int v5)]) hx hb dX12_lays_71 rfl hl (by decide) rfl (fun ls hl => ?_)
  have hL72 : ∀ (n72 : Nat) (x3 : Int32) (I18 : nm_I) (H : Heap) (locs : List Loc) (ls : Array Slot) (o72 : nm_I), nm_H D Y (fun q => s0 ≤ q) s.heap X moN ad (I18, nJ0, moZ) H locs → lv_has ls 4 [(0, .ref (ad 0)), (1, .int x1), (2, .int v5), (3, .int x3)] → f_X12_lays_L72 x1 v5 n72 x3 I18 = some o72 → (∀ (H : Heap) (locs : List Loc) (ls : Array Slot), nm_H D Y (fun q => s0 ≤ q) s.heap X moN ad (o72, nJ0, moZ) H locs → lv_has ls 4 [] → W p l e R s m args below meth c H locs 0 0 Q (F0 m 115 ls [])) → W p l e R s m args below meth c H locs 0 0 Q (F0 m 72 ls []) := by
    intro n72
    induction n72 with
    | zero =>
      intro x3 I18 H locs ls o72 hH hl hf hX72
      cases hf
    | succ n72 ih72 =>
      intro x3 I18 H locs ls o72 hH hl hf hX72
      rw [f_X12_lays_L72] at hf
      refine lv_iload_n hx hb dX12_lays_72 rfl (lv_at hl 3 rfl) ?_
      refine lv_iload_n hx hb dX12_lays_73 rfl (lv_at hl 2 rfl) ?_
      refine lv_aload_n hx hb dX12_lays_74 rfl (lv_at hl 0 rfl) ?_
      refine gf_12_7 hK hx hb hts hown hH mo_n0 mo_k0 (hts _ tw_963) (fun _ h9 => h9) dX12_lays_75 ?_
      refine lv_iload_n hx hb dX12_lays_78 rfl (lv_at hl 1 rfl) ?_
      obtain ⟨hi19, hf⟩ := nm_chk hf
      refine nm_iald hx hb hK hH mo_n8 mo_k8 mo_l8 hi19 dX12_lays_79 ?_
      refine lv_iadd hx hb dX12_lays_80 ?_
      refine lv_icmp_ge (tgt := 115) hx hb dX12_lays_81 (by decide) (fun c20 => ?_) (fun c20 => ?_)
      · have hf := nm_it c20 hf
        cases hf
        exact hX72 _ _ _ hH (lv_sub hl [] rfl)
      · have hf := nm_ie c20 hf
        refine lv_aload_n hx hb dX12_lays_84 rfl (lv_at hl 0 rfl) ?_
        refine gf_12_0 hK hx hb hts hown hH mo_n0 mo_k0 (hts _ tw_956) (fun _ h9 => h9) dX12_lays_85 ?_
        refine lv_iload_n hx hb dX12_lays_88 rfl (lv_at hl 3 rfl) ?_
        obtain ⟨hi21, hf⟩ := nm_chk hf
        refine nm_iald hx hb hK hH mo_n1 mo_k1 mo_l1 hi21 dX12_lays_89 ?_
        refine lv_iconst (v := 4) hx hb dX12_lays_90 (by decide) ?_
        have hJ109 : ∀ (I22 : nm_I) (H : Heap) (locs : List Loc) (ls : Array Slot), nm_H D Y (fun q => s0 ≤ q) s.heap X moN ad (I22, nJ0, moZ) H locs → lv_has ls 4 [(0, .ref (ad 0)), (1, .int x1), (2, .int v5), (3, .int x3)] → f_X12_lays_J109 x3 I22 (f_X12_lays_L72 x1 v5 n72) = some o72 → W p l e R s m args below meth c H locs 0 0 Q (F0 m 109 ls []) := by
          intro I22 H locs ls hH hl hf
          unfold f_X12_lays_J109 at hf
          refine lv_iinc (v := x3 + 1) (lv' := [(3, .int (x3 + 1)), (0, .ref (ad 0)), (1, .int x1), (2, .int v5)]) hx hb dX12_lays_109 hl (k := 3) rfl rfl (by decide) rfl (fun ls hl => ?_)
          refine lv_goto (tgt := 72) hx hb dX12_lays_112 (by decide) ?_
          exact ih72 (x3 + 1) I22 _ _ _ _ hH (lv_sub hl [1, 2, 3, 0] rfl) hf hX72
        refine lv_icmp_eq (tgt := 97) hx hb dX12_lays_91 (by decide) (fun c23 => ?_) (fun c23 => ?_)
        · have hf := nm_it c23 hf
          refine lv_aload_n hx hb dX12_lays_97 rfl (lv_at hl 0 rfl) ?_
          refine lv_iload_n hx hb dX12_lays_98 rfl (lv_at hl 1 rfl) ?_
          refine lv_iload_n hx hb dX12_lays_99 rfl (lv_at hl 3 rfl) ?_
          obtain ⟨I24, hc25, hf⟩ := nm_sd1 hf
          refine nm_callv (nm_runV (X := X) (nl := moN) (k_X12_laysPut (hf := hc25)) hx hb hml hown hts hs0 hK hZ hH tw_1297 tw_1294 tw_1296 (sw_X12_laysPut) tw_9 hd_X12_laysPut mo_n0 mo_k0 (by decide) rfl rfl rfl ⟨Nat.le_trans (Nat.le_of_ble_eq_true rfl) hRf, Nat.le_trans (Nat.le_of_ble_eq_true rfl) hRl⟩ rfl hl.1 rfl (Nat.le_of_ble_eq_true rfl) dX12_lays_100 ⟨Nat.zero_le _, Nat.zero_le _⟩) hH (fun H locs hH => ?_)
          have hH : nm_H D Y (fun q => s0 ≤ q) s.heap X moN ad (I24, nJ0, moZ) H locs := hH
          refine lv_aload_n hx hb dX12_lays_103 rfl (lv_at hl 0 rfl) ?_
          refine lv_iload_n hx hb dX12_lays_104 rfl (lv_at hl 1 rfl) ?_
          refine lv_iload_n hx hb dX12_lays_105 rfl (lv_at hl 3 rfl) ?_
          obtain ⟨I26, hc27, hf⟩ := nm_sd1 hf
          refine nm_callv (nm_runV (X := X) (nl := moN) (k_X12_textsOf (hf := hc27)) hx hb hml hown hts hs0 hK hZ hH tw_1309 tw_1306 tw_1308 (sw_X12_textsOf) tw_9 hd_X12_textsOf mo_n0 mo_k0 (by decide) rfl rfl rfl ⟨Nat.le_trans (Nat.le_of_ble_eq_true rfl) hRf, Nat.le_trans (Nat.le_of_ble_eq_true rfl) hRl⟩ rfl hl.1 rfl (Nat.le_of_ble_eq_true rfl) dX12_lays_106 ⟨Nat.zero_le _, Nat.zero_le _⟩) hH (fun H locs hH => ?_)
          have hH : nm_H D Y (fun q => s0 ≤ q) s.heap X moN ad (I26, nJ0, moZ) H locs := hH
          exact hJ109  I26 _ _ _ hH (lv_sub hl [0, 1, 2, 3] rfl) hf
        · have hf := nm_ie c23 hf
          refine lv_goto (tgt := 109) hx hb dX12_lays_94 (by decide) ?_
          exact hJ109  I18 _ _ _ hH (lv_sub hl [0, 1, 2, 3] rfl) hf
  obtain ⟨I28, hl29, hf⟩ := nm_sd1 hf
  refine hL72 nm_F v5 I17 _ _ _ _ hH (lv_sub hl [1, 2, 3, 0] rfl) hl29 (fun H locs ls hH hl => ?_)
  have hl : lv_has ls 4 [] := hl
  have hH : nm_H D Y (fun q => s0 ≤ q) s.heap X moN ad (I28, nJ0, moZ) H locs := hH
  exact nm_vret hx hb hr hlocks hQ hH (congrArg (fun q => (q, nJ0, moZ)) (Option.some.inj hf)) dX12_lays_115
def f_X12_made_J116 (x1 : Int32) (x2 : Int32) (x3 : Int32) (x4 : Int32) (I : nm_I) : Option (Int32 × nm_I) :=
nm_c x1 16 (
nm_l (nm_up I 9 x1.toNatClampNeg x2) fun I14 =>
nm_c x1 16 (
nm_l (nm_up I14 10 x1.toNatClampNeg x3) fun I16 =>
nm_c x1 16 (
nm_l (nm_up I16 11 x1.toNatClampNeg x4) fun I18 =>
some ((1 : Int32), I18))))
def f_X12_made_J79 (x1 : Int32) (x2 : Int32) (x3 : Int32) (x4 : Int32) (t24_0 : Int32) (I : nm_I) : Option (Int32 × nm_I) :=
(if (f_X12_isIn x2.toInt64 (0 : Int64) (5 : Int64)) = 0 then
nm_s2 (f_X12_no (-7 : Int32) I) fun r12 I10 =>
some (r12, I10)
else
(if t24_0 = 0 then
(if (f_X12_isIn x4.toInt64 (0 : Int64) (9 : Int64)) = 0 then
nm_s2 (f_X12_no (-7 : Int32) I) fun r23 I21 =>
some (r23, I21)
else
f_X12_made_J116 x1 x2 x3 x4 I)
else
f_X12_made_J116 x1 x2 x3 x4 I))
def f_X12_made_J24 (x1 : Int32) (x2 : Int32) (x3 : Int32) (x4 : Int32) (t24_0 : Int32) (I : nm_I) : Option (Int32 × nm_I) :=
(if (f_X12_isIn x1.toInt64 (8 : Int64) (15 : Int64)) = 0 then
nm_s2 (f_X12_no (-3 : Int32) I) fun r4 I2 =>
some (r4, I2)
else
(if (f_X12_isIn x3.toInt64 (0 : Int64) ((x1 - (1 : Int32)).toInt64)) = 0 then
nm_s2 (f_X12_no (-3 : Int32) I) fun r8 I6 =>
some (r8, I6)
else
(if t24_0 = 0 then
f_X12_made_J79 x1 x2 x3 x4 t24_0 I
else
(if (f_X12_isIn x4.toInt64 (0 : Int64) ((x1 - (1 : Int32)).toInt64)) = 0 then
nm_s2 (f_X12_no (-3 : Int32) I) fun r28 I26 =>
some (r28, I26)
else
f_X12_made_J79 x1 x2 x3 x4 t24_0 I))))
def f_X12_made_J19 (x1 : Int32) (x2 : Int32) (x3 : Int32) (x4 : Int32) (I : nm_I) : Option (Int32 × nm_I) :=
f_X12_made_J24 x1 x2 x3 x4 (1 : Int32) I
def f_X12_made (x1 : Int32) (x2 : Int32) (x3 : Int32) (x4 : Int32) (I : nm_I) : Option (Int32 × nm_I) :=
(if x2 = 0 then
f_X12_made_J19 x1 x2 x3 x4 I
else
(if x2 = (1 : Int32) then
f_X12_made_J19 x1 x2 x3 x4 I
else
(if x2 = (2 : Int32) then
f_X12_made_J19 x1 x2 x3 x4 I
else
(if x2 = (5 : Int32) then
f_X12_made_J19 x1 x2 x3 x4 I
else
f_X12_made_J24 x1 x2 x3 x4 (0 : Int32) I))))
set_option maxHeartbeats 4000000 in
set_option maxRecDepth 100000 in
theorem k_X12_made {l : Launch} {D : va_G} {Y : nm_Y} {s0 : Nat} {X : va_W} {ad : Nat → Nat}  {x1 : Int32} {x2 : Int32} {x3 : Int32} {x4 : Int32} {I : nm_I} {r0 : Int32} {M0 : nm_I} (hf : f_X12_made x1 x2 x3 x4 I = some (r0, M0)) :
    nm_Met l yX12_made cX12_made 6 (some .int) { frames := 1, cells := 0, slots := 0, locals := 25 } [.ref (ad 0), .int x1, .int x2, .int x3, .int x4] D Y s0 (nm_W Y X moN ad (I, nJ0, moZ)) (nm_Qi D s0 r0 (nm_W Y X moN ad (M0, nJ0, moZ))) 0 0 := by
  refine nm_of (by decide) (Nat.le_of_ble_eq_true rfl) ?_
  intro p e R s m args below meth c Q ls hx hb hr hlocks hml hown hts hs0 hK hZ hRf hRl hRc hRs hQ hP hD hl
  have hH : nm_H D Y (fun q => s0 ≤ q) s.heap X moN ad (I, nJ0, moZ) s.heap [] := ⟨hP, hD, va_S.rf⟩
  have hl : lv_has ls 6 [(0, .ref (ad 0)), (1, .int x1), (2, .int x2), (3, .int x3), (4, .int x4)] := hl
  unfold f_X12_made at hf
  refine lv_iload_n hx hb dX12_made_0 rfl (lv_at hl 2 rfl) ?_
  have hJ24 : ∀ (t24_0 : Int32) (H : Heap) (locs : List Loc) (ls : Array Slot), nm_H D Y (fun q => s0 ≤ q) s.heap X moN ad (I, nJ0, moZ) H locs → lv_has ls 6 [(0, .ref (ad 0)), (1, .int x1), (2, .int x2), (3, .int x3), (4, .int x4)] → f_X12_made_J24 x1 x2 x3 x4 t24_0 I = some (r0, M0) → W p l e R s m args below meth c H locs 0 0 Q (F0 m 24 ls [.int t24_0]) := by
    intro t24_0 H locs ls hH hl hf
    unfold f_X12_made_J24 at hf
    refine lv_istore (lv' := [(5, .int t24_0), (0, .ref (ad 0)), (1, .int x1), (2, .int x2), (3, .int x3), (4, .int x4)]) hx hb dX12_made_24 hl (by decide) rfl (fun ls hl => ?_)
    refine lv_iload_n hx hb dX12_made_26 rfl (lv_at hl 2 rfl) ?_
    refine lv_i2l hx hb dX12_made_27 rfl ?_
    refine lv_ldc2 hx hb hown (hts _ tw_1264) dX12_made_28 ?_
    refine lv_ldc2 hx hb hown (hts _ tw_1265) dX12_made_31 ?_
    refine nm_calli (nm_runS (X := X) (nl := moN) (k_X12_isIn (hf := (rfl : f_X12_isIn x1.toInt64 (8 : Int64) (15 : Int64) = _))) hx hb hml hown hts hs0 hK hZ hH tw_1207 tw_1205 tw_1206 tw_9 hd_X12_isIn rfl rfl ⟨Nat.le_trans (Nat.le_of_ble_eq_true rfl) hRf, Nat.le_trans (Nat.le_of_ble_eq_true rfl) hRl⟩ rfl hl.1 rfl (Nat.le_of_ble_eq_true rfl) dX12_made_34 ⟨Nat.zero_le _, Nat.zero_le _⟩) hH (fun H locs hH => ?_)
    have hH : nm_H D Y (fun q => s0 ≤ q) s.heap X moN ad (I, nJ0, moZ) H locs := hH
    refine lv_if_eq (tgt := 72) hx hb dX12_made_37 (by decide) (fun c1 => ?_) (fun c1 => ?_)
    · have hf := nm_it c1 hf
      refine lv_aload_n hx hb dX12_made_72 rfl (lv_at hl 1 rfl) ?_
      refine lv_bipush (v := -3) hx hb dX12_made_73 (by decide) ?_
      obtain ⟨r4, I2, hc3, hf⟩ := nm_sd2 hf
      refine nm_calli (nm_runV (X := X) (nl := moN) (k_X12_no (hf := hc3)) hx hb hml hown hts hs0 hK hZ hH tw_1214 tw_1211 tw_1213 (sw_X12_no) tw_9 hd_X12_no mo_n0 mo_k0 (by decide) rfl rfl rfl ⟨Nat.le_trans (Nat.le_of_ble_eq_true rfl) hRf, Nat.le_trans (Nat.le_of_ble_eq_true rfl) hRl⟩ rfl hl.1 rfl (Nat.le_of_ble_eq_true rfl) dX12_made_75 ⟨Nat.zero_le _, Nat.zero_le _⟩) hH (fun H locs hH => ?_)
      have hH : nm_H D Y (fun q => s0 ≤ q) s.heap X moN ad (I2, nJ0, moZ) H locs := hH
      exact nm_iret hx hb hr hlocks hQ hH (congrArg Prod.fst (Option.some.inj hf)) (congrArg (fun q => (q.2, nJ0, moZ)) (Option.some.inj hf)) dX12_made_78
    · have hf := nm_ie c1 hf
      refine lv_iload_n hx hb dX12_made_40 rfl (lv_at hl 4 rfl) ?_
      refine lv_i2l hx hb dX12_made_41 rfl ?_
      refine lv_lconst (v := 0) hx hb dX12_made_42 (by decide) ?_
      refine lv_iload_n hx hb dX12_made_43 rfl (lv_at hl 2 rfl) ?_
      refine lv_iconst (v := 1) hx hb dX12_made_44 (by decide) ?_
      refine lv_isub hx hb dX12_made_45 ?_
      refine lv_i2l hx hb dX12_made_46 rfl ?_
      refine nm_calli (nm_runS (X := X) (nl := moN) (k_X12_isIn (hf := (rfl : f_X12_isIn x3.toInt64 (0 : Int64) ((x1 - (1 : Int32)).toInt64) = _))) hx hb hml hown hts hs0 hK hZ hH tw_1207 tw_1205 tw_1206 tw_9 hd_X12_isIn rfl rfl ⟨Nat.le_trans (Nat.le_of_ble_eq_true rfl) hRf, Nat.le_trans (Nat.le_of_ble_eq_true rfl) hRl⟩ rfl hl.1 rfl (Nat.le_of_ble_eq_true rfl) dX12_made_47 ⟨Nat.zero_le _, Nat.zero_le _⟩) hH (fun H locs hH => ?_)
      have hH : nm_H D Y (fun q => s0 ≤ q) s.heap X moN ad (I, nJ0, moZ) H locs := hH
      refine lv_if_eq (tgt := 72) hx hb dX12_made_50 (by decide) (fun c5 => ?_) (fun c5 => ?_)
      · have hf := nm_it c5 hf
        refine lv_aload_n hx hb dX12_made_72 rfl (lv_at hl 1 rfl) ?_
        refine lv_bipush (v := -3) hx hb dX12_made_73 (by decide) ?_
        obtain ⟨r8, I6, hc7, hf⟩ := nm_sd2 hf
        refine nm_calli (nm_runV (X := X) (nl := moN) (k_X12_no (hf := hc7)) hx hb hml hown hts hs0 hK hZ hH tw_1214 tw_1211 tw_1213 (sw_X12_no) tw_9 hd_X12_no mo_n0 mo_k0 (by decide) rfl rfl rfl ⟨Nat.le_trans (Nat.le_of_ble_eq_true rfl) hRf, Nat.le_trans (Nat.le_of_ble_eq_true rfl) hRl⟩ rfl hl.1 rfl (Nat.le_of_ble_eq_true rfl) dX12_made_75 ⟨Nat.zero_le _, Nat.zero_le _⟩) hH (fun H locs hH => ?_)
        have hH : nm_H D Y (fun q => s0 ≤ q) s.heap X moN ad (I6, nJ0, moZ) H locs := hH
        exact nm_iret hx hb hr hlocks hQ hH (congrArg Prod.fst (Option.some.inj hf)) (congrArg (fun q => (q.2, nJ0, moZ)) (Option.some.inj hf)) dX12_made_78
      · have hf := nm_ie c5 hf
        refine lv_iload hx hb dX12_made_53 (lv_at hl 0 rfl) ?_
        have hJ79 : ∀  (H : Heap) (locs : List Loc) (ls : Array Slot), nm_H D Y (fun q => s0 ≤ q) s.heap X moN ad (I, nJ0, moZ) H locs → lv_has ls 6 [(0, .ref (ad 0)), (1, .int x1), (2, .int x2), (3, .int x3), (4, .int x4), (5, .int t24_0)] → f_X12_made_J79 x1 x2 x3 x4 t24_0 I = some (r0, M0) → W p l e R s m args below meth c H locs 0 0 Q (F0 m 79 ls []) := by
          intro  H locs ls hH hl hf
          unfold f_X12_made_J79 at hf
          refine lv_iload_n hx hb dX12_made_79 rfl (lv_at hl 2 rfl) ?_
          refine lv_i2l hx hb dX12_made_80 rfl ?_
          refine lv_lconst (v := 0) hx hb dX12_made_81 (by decide) ?_
          refine lv_ldc2 hx hb hown (hts _ tw_1266) dX12_made_82 ?_
          refine nm_calli (nm_runS (X := X) (nl := moN) (k_X12_isIn (hf := (rfl : f_X12_isIn x2.toInt64 (0 : Int64) (5 : Int64) = _))) hx hb hml hown hts hs0 hK hZ hH tw_1207 tw_1205 tw_1206 tw_9 hd_X12_isIn rfl rfl ⟨Nat.le_trans (Nat.le_of_ble_eq_true rfl) hRf, Nat.le_trans (Nat.le_of_ble_eq_true rfl) hRl⟩ rfl hl.1 rfl (Nat.le_of_ble_eq_true rfl) dX12_made_85 ⟨Nat.zero_le _, Nat.zero_le _⟩) hH (fun H locs hH => ?_)
          have hH : nm_H D Y (fun q => s0 ≤ q) s.heap X moN ad (I, nJ0, moZ) H locs := hH
          refine lv_if_eq (tgt := 109) hx hb dX12_made_88 (by decide) (fun c9 => ?_) (fun c9 => ?_)
          · have hf := nm_it c9 hf
            refine lv_aload_n hx hb dX12_made_109 rfl (lv_at hl 0 rfl) ?_
            refine lv_bipush (v := -7) hx hb dX12_made_110 (by decide) ?_
            obtain ⟨r12, I10, hc11, hf⟩ := nm_sd2 hf
            refine nm_calli (nm_runV (X := X) (nl := moN) (k_X12_no (hf := hc11)) hx hb hml hown hts hs0 hK hZ hH tw_1214 tw_1211 tw_1213 (sw_X12_no) tw_9 hd_X12_no mo_n0 mo_k0 (by decide) rfl rfl rfl ⟨Nat.le_trans (Nat.le_of_ble_eq_true rfl) hRf, Nat.le_trans (Nat.le_of_ble_eq_true rfl) hRl⟩ rfl hl.1 rfl (Nat.le_of_ble_eq_true rfl) dX12_made_112 ⟨Nat.zero_le _, Nat.zero_le _⟩) hH (fun H locs hH => ?_)
            have hH : nm_H D Y (fun q => s0 ≤ q) s.heap X moN ad (I10, nJ0, moZ) H locs := hH
            exact nm_iret hx hb hr hlocks hQ hH (congrArg Prod.fst (Option.some.inj hf)) (congrArg (fun q => (q.2, nJ0, moZ)) (Option.some.inj hf)) dX12_made_115
          · have hf := nm_ie c9 hf
            refine lv_iload hx hb dX12_made_91 (lv_at hl 5 rfl) ?_
            have hJ116 : ∀  (H : Heap) (locs : List Loc) (ls : Array Slot), nm_H D Y (fun q => s0 ≤ q) s.heap X moN ad (I, nJ0, moZ) H locs → lv_has ls 6 [(0, .ref (ad 0)), (1, .int x1), (2, .int x2), (3, .int x3), (4, .int x4)] → f_X12_made_J116 x1 x2 x3 x4 I = some (r0, M0) → W p l e R s m args below meth c H locs 0 0 Q (F0 m 116 ls []) := by
              intro  H locs ls hH hl hf
              unfold f_X12_made_J116 at hf
              refine lv_aload_n hx hb dX12_made_116 rfl (lv_at hl 0 rfl) ?_
              refine gf_12_8 hK hx hb hts hown hH mo_n0 mo_k0 (hts _ tw_964) (fun _ h9 => h9) dX12_made_117 ?_
              refine lv_iload_n hx hb dX12_made_120 rfl (lv_at hl 1 rfl) ?_
              refine lv_iload_n hx hb dX12_made_121 rfl (lv_at hl 2 rfl) ?_
              obtain ⟨hi13, hf⟩ := nm_chk hf
              obtain ⟨I14, eI14, hf⟩ := nm_let hf
              refine nm_iast hx hb hK hH mo_n9 mo_k9 mo_l9 hi13 dX12_made_122 (fun H locs hH => ?_)
              have hH : nm_H D Y (fun q => s0 ≤ q) s.heap X moN ad (I14, nJ0, moZ) H locs := by rw [eI14]; exact hH
              refine lv_aload_n hx hb dX12_made_123 rfl (lv_at hl 0 rfl) ?_
              refine gf_12_9 hK hx hb hts hown hH mo_n0 mo_k0 (hts _ tw_965) (fun _ h9 => h9) dX12_made_124 ?_
              refine lv_iload_n hx hb dX12_made_127 rfl (lv_at hl 1 rfl) ?_
              refine lv_iload_n hx hb dX12_made_128 rfl (lv_at hl 3 rfl) ?_
              obtain ⟨hi15, hf⟩ := nm_chk hf
              obtain ⟨I16, eI16, hf⟩ := nm_let hf
              refine nm_iast hx hb hK hH mo_n10 mo_k10 mo_l10 hi15 dX12_made_129 (fun H locs hH => ?_)
              have hH : nm_H D Y (fun q => s0 ≤ q) s.heap X moN ad (I16, nJ0, moZ) H locs := by rw [eI16]; exact hH
              refine lv_aload_n hx hb dX12_made_130 rfl (lv_at hl 0 rfl) ?_
              refine gf_12_10 hK hx hb hts hown hH mo_n0 mo_k0 (hts _ tw_966) (fun _ h9 => h9) dX12_made_131 ?_
              refine lv_iload_n hx hb dX12_made_134 rfl (lv_at hl 1 rfl) ?_
              refine lv_iload hx hb dX12_made_135 (lv_at hl 4 rfl) ?_
              obtain ⟨hi17, hf⟩ := nm_chk hf
              obtain ⟨I18, eI18, hf⟩ := nm_let hf
              refine nm_iast hx hb hK hH mo_n11 mo_k11 mo_l11 hi17 dX12_made_137 (fun H locs hH => ?_)
              have hH : nm_H D Y (fun q => s0 ≤ q) s.heap X moN ad (I18, nJ0, moZ) H locs := by rw [eI18]; exact hH
              refine lv_iconst (v := 1) hx hb dX12_made_138 (by decide) ?_
              exact nm_iret hx hb hr hlocks hQ hH (congrArg Prod.fst (Option.some.inj hf)) (congrArg (fun q => (q.2, nJ0, moZ)) (Option.some.inj hf)) dX12_made_139
            refine lv_if_ne (tgt := 116) hx hb dX12_made_93 (by decide) (fun c19 => ?_) (fun c19 => ?_)
            · have hf := nm_ie c19 hf
              exact hJ116  _ _ _ hH (lv_sub hl [0, 1, 2, 3, 4] rfl) hf
            · have hf := nm_it c19 hf
              refine lv_iload hx hb dX12_made_96 (lv_at hl 4 rfl) ?_
              refine lv_i2l hx hb dX12_made_98 rfl ?_
              refine lv_lconst (v := 0) hx hb dX12_made_99 (by decide) ?_
              refine lv_ldc2 hx hb hown (hts _ tw_1224) dX12_made_100 ?_
              refine nm_calli (nm_runS (X := X) (nl := moN) (k_X12_isIn (hf := (rfl : f_X12_isIn x4.toInt64 (0 : Int64) (9 : Int64) = _))) hx hb hml hown hts hs0 hK hZ hH tw_1207 tw_1205 tw_1206 tw_9 hd_X12_isIn rfl rfl ⟨Nat.le_trans (Nat.le_of_ble_eq_true rfl) hRf, Nat.le_trans (Nat.le_of_ble_eq_true rfl) hRl⟩ rfl hl.1 rfl (Nat.le_of_ble_eq_true rfl) dX12_made_103 ⟨Nat.zero_le _, Nat.zero_le _⟩) hH (fun H locs hH => ?_)
              have hH : nm_H D Y (fun q => s0 ≤ q) s.heap X moN ad (I, nJ0, moZ) H locs := hH
              refine lv_if_ne (tgt := 116) hx hb dX12_made_106 (by decide) (fun c20 => ?_) (fun c20 => ?_)
              · have hf := nm_ie c20 hf
                exact hJ116  _ _ _ hH (lv_sub hl [0, 1, 2, 3, 4] rfl) hf
              · have hf := nm_it c20 hf
                refine lv_aload_n hx hb dX12_made_109 rfl (lv_at hl 0 rfl) ?_
                refine lv_bipush (v := -7) hx hb dX12_made_110 (by decide) ?_
                obtain ⟨r23, I21, hc22, hf⟩ := nm_sd2 hf
                refine nm_calli (nm_runV (X := X) (nl := moN) (k_X12_no (hf := hc22)) hx hb hml hown hts hs0 hK hZ hH tw_1214 tw_1211 tw_1213 (sw_X12_no) tw_9 hd_X12_no mo_n0 mo_k0 (by decide) rfl rfl rfl ⟨Nat.le_trans (Nat.le_of_ble_eq_true rfl) hRf, Nat.le_trans (Nat.le_of_ble_eq_true rfl) hRl⟩ rfl hl.1 rfl (Nat.le_of_ble_eq_true rfl) dX12_made_112 ⟨Nat.zero_le _, Nat.zero_le _⟩) hH (fun H locs hH => ?_)
                have hH : nm_H D Y (fun q => s0 ≤ q) s.heap X moN ad (I21, nJ0, moZ) H locs := hH
                exact nm_iret hx hb hr hlocks hQ hH (congrArg Prod.fst (Option.some.inj hf)) (congrArg (fun q => (q.2, nJ0, moZ)) (Option.some.inj hf)) dX12_made_115
        refine lv_if_eq (tgt := 79) hx hb dX12_made_55 (by decide) (fun c24 => ?_) (fun c24 => ?_)
        · have hf := nm_it c24 hf
          exact hJ79  _ _ _ hH (lv_sub hl [1, 2, 3, 4, 5, 0] rfl) hf
        · have hf := nm_ie c24 hf
          refine lv_iload hx hb dX12_made_58 (lv_at hl 5 rfl) ?_
          refine lv_i2l hx hb dX12_made_60 rfl ?_
          refine lv_lconst (v := 0) hx hb dX12_made_61 (by decide) ?_
          refine lv_iload_n hx hb dX12_made_62 rfl (lv_at hl 2 rfl) ?_
          refine lv_iconst (v := 1) hx hb dX12_made_63 (by decide) ?_
          refine lv_isub hx hb dX12_made_64 ?_
          refine lv_i2l hx hb dX12_made_65 rfl ?_
          refine nm_calli (nm_runS (X := X) (nl := moN) (k_X12_isIn (hf := (rfl : f_X12_isIn x4.toInt64 (0 : Int64) ((x1 - (1 : Int32)).toInt64) = _))) hx hb hml hown hts hs0 hK hZ hH tw_1207 tw_1205 tw_1206 tw_9 hd_X12_isIn rfl rfl ⟨Nat.le_trans (Nat.le_of_ble_eq_true rfl) hRf, Nat.le_trans (Nat.le_of_ble_eq_true rfl) hRl⟩ rfl hl.1 rfl (Nat.le_of_ble_eq_true rfl) dX12_made_66 ⟨Nat.zero_le _, Nat.zero_le _⟩) hH (fun H locs hH => ?_)
          have hH : nm_H D Y (fun q => s0 ≤ q) s.heap X moN ad (I, nJ0, moZ) H locs := hH
          refine lv_if_ne (tgt := 79) hx hb dX12_made_69 (by decide) (fun c25 => ?_) (fun c25 => ?_)
          · have hf := nm_ie c25 hf
            exact hJ79  _ _ _ hH (lv_sub hl [1, 2, 3, 4, 5, 0] rfl) hf
          · have hf := nm_it c25 hf
            refine lv_aload_n hx hb dX12_made_72 rfl (lv_at hl 1 rfl) ?_
            refine lv_bipush (v := -3) hx hb dX12_made_73 (by decide) ?_
            obtain ⟨r28, I26, hc27, hf⟩ := nm_sd2 hf
            refine nm_calli (nm_runV (X := X) (nl := moN) (k_X12_no (hf := hc27)) hx hb hml hown hts hs0 hK hZ hH tw_1214 tw_1211 tw_1213 (sw_X12_no) tw_9 hd_X12_no mo_n0 mo_k0 (by decide) rfl rfl rfl ⟨Nat.le_trans (Nat.le_of_ble_eq_true rfl) hRf, Nat.le_trans (Nat.le_of_ble_eq_true rfl) hRl⟩ rfl hl.1 rfl (Nat.le_of_ble_eq_true rfl) dX12_made_75 ⟨Nat.zero_le _, Nat.zero_le _⟩) hH (fun H locs hH => ?_)
            have hH : nm_H D Y (fun q => s0 ≤ q) s.heap X moN ad (I26, nJ0, moZ) H locs := hH
            exact nm_iret hx hb hr hlocks hQ hH (congrArg Prod.fst (Option.some.inj hf)) (congrArg (fun q => (q.2, nJ0, moZ)) (Option.some.inj hf)) dX12_made_78
  have hJ19 : ∀  (H : Heap) (locs : List Loc) (ls : Array Slot), nm_H D Y (fun q => s0 ≤ q) s.heap X moN ad (I, nJ0, moZ) H locs → lv_has ls 6 [(0, .ref (ad 0)), (1, .int x1), (2, .int x2), (3, .int x3), (4, .int x4)] → f_X12_made_J19 x1 x2 x3 x4 I = some (r0, M0) → W p l e R s m args below meth c H locs 0 0 Q (F0 m 19 ls []) := by
    intro  H locs ls hH hl hf
    unfold f_X12_made_J19 at hf
    refine lv_iconst (v := 1) hx hb dX12_made_19 (by decide) ?_
    refine lv_goto (tgt := 24) hx hb dX12_made_20 (by decide) ?_
    exact hJ24 (1 : Int32) _ _ _ hH (lv_sub hl [0, 1, 2, 3, 4] rfl) hf
  refine lv_if_eq (tgt := 19) hx hb dX12_made_1 (by decide) (fun c29 => ?_) (fun c29 => ?_)
  · have hf := nm_it c29 hf
    exact hJ19  _ _ _ hH (lv_sub hl [0, 1, 2, 3, 4] rfl) hf
  · have hf := nm_ie c29 hf
    refine lv_iload_n hx hb dX12_made_4 rfl (lv_at hl 2 rfl) ?_
    refine lv_iconst (v := 1) hx hb dX12_made_5 (by decide) ?_
    refine lv_icmp_eq (tgt := 19) hx hb dX12_made_6 (by decide) (fun c30 => ?_) (fun c30 => ?_)
    · have hf := nm_it c30 hf
      exact hJ19  _ _ _ hH (lv_sub hl [0, 1, 2, 3, 4] rfl) hf
    · have hf := nm_ie c30 hf
      refine lv_iload_n hx hb dX12_made_9 rfl (lv_at hl 2 rfl) ?_
      refine lv_iconst (v := 2) hx hb dX12_made_10 (by decide) ?_
      refine lv_icmp_eq (tgt := 19) hx hb dX12_made_11 (by decide) (fun c31 => ?_) (fun c31 => ?_)
      · have hf := nm_it c31 hf
        exact hJ19  _ _ _ hH (lv_sub hl [0, 1, 2, 3, 4] rfl) hf
      · have hf := nm_ie c31 hf
        refine lv_iload_n hx hb dX12_made_14 rfl (lv_at hl 2 rfl) ?_
        refine lv_iconst (v := 5) hx hb dX12_made_15 (by decide) ?_
        refine lv_icmp_ne (tgt := 23) hx hb dX12_made_16 (by decide) (fun c32 => ?_) (fun c32 => ?_)
        · have hf := nm_ie c32 hf
          refine lv_iconst (v := 0) hx hb dX12_made_23 (by decide) ?_
          exact hJ24 (0 : Int32) _ _ _ hH (lv_sub hl [0, 1, 2, 3, 4] rfl) hf
        · have hf := nm_it c32 hf
          exact hJ19  _ _ _ hH (lv_sub hl [0, 1, 2, 3, 4] rfl) hf
def f_X12_around_J91 (x4 : Int32) (x6 : Int32) (t91_0 : Int32) (I : nm_I) (k : Int32 → Option Int32) (kx27 : Unit → Option Int32) : Option Int32 :=
(if t91_0 = x4 then
k (x6 + 1)
else
nm_b t91_0 (some t91_0))
def f_X12_around_J90 (x4 : Int32) (x6 : Int32) (I : nm_I) (k : Int32 → Option Int32) (kx27 : Unit → Option Int32) : Option Int32 :=
f_X12_around_J91 x4 x6 (0 : Int32) I k kx27
def f_X12_around_L27 (x1 : Int32) (x2 : Int32) (x3 : Int32) (x4 : Int32) (x5 : Int32) (I : nm_I) (kx27 : Unit → Option Int32) : Nat → Int32 → Option Int32
  | 0, _ => none
  | n27 + 1, x6 =>
    (if ((x2 - x2 / (64 : Int32) * (64 : Int32)) + x3) < x6 then
    kx27 ()
    else
    (if (f_X12_isIn x6.toInt64 (0 : Int64) (63 : Int64)) = 0 then
    f_X12_around_J90 x4 x6 I (f_X12_around_L27 x1 x2 x3 x4 x5 I kx27 n27) kx27
    else
    (if (f_X12_isIn x5.toInt64 (0 : Int64) (63 : Int64)) = 0 then
    f_X12_around_J90 x4 x6 I (f_X12_around_L27 x1 x2 x3 x4 x5 I kx27 n27) kx27
    else
    nm_c ((((4096 : Int32) * x1) + ((64 : Int32) * x5)) + x6) 65536 (
    (if (I 20 ((((4096 : Int32) * x1) + ((64 : Int32) * x5)) + x6).toNatClampNeg) = 0 then
    f_X12_around_J90 x4 x6 I (f_X12_around_L27 x1 x2 x3 x4 x5 I kx27 n27) kx27
    else
    f_X12_around_J91 x4 x6 (1 : Int32) I (f_X12_around_L27 x1 x2 x3 x4 x5 I kx27 n27) kx27)))))
def f_X12_around_L8 (x1 : Int32) (x2 : Int32) (x3 : Int32) (x4 : Int32) (I : nm_I) (kx8 : Unit → Option Int32) : Nat → Int32 → Option Int32
  | 0, _ => none
  | n8 + 1, x5 =>
    (if ((x2 / (64 : Int32)) + x3) < x5 then
    kx8 ()
    else
    nm_l ((x2 - x2 / (64 : Int32) * (64 : Int32)) - x3) fun v3 =>
    nm_l (fun (_ : Unit) =>
    f_X12_around_L8 x1 x2 x3 x4 I kx8 n8 (x5 + 1)) fun kx27 =>
    f_X12_around_L27 x1 x2 x3 x4 x5 I kx27 nm_F v3)
def f_X12_around (x1 : Int32) (x2 : Int32) (x3 : Int32) (x4 : Int32) (I : nm_I) : Option Int32 :=
nm_l ((x2 / (64 : Int32)) - x3) fun v1 =>
nm_l (fun (_ : Unit) =>
nm_b x4 (some x4)) fun kx8 =>
f_X12_around_L8 x1 x2 x3 x4 I kx8 nm_F v1
set_option maxHeartbeats 4000000 in
set_option maxRecDepth 100000 in
theorem k_X12_around {l : Launch} {D : va_G} {Y : nm_Y} {s0 : Nat} {X : va_W} {ad : Nat → Nat}  {x1 : Int32} {x2 : Int32} {x3 : Int32} {x4 : Int32} {I : nm_I} {r0 : Int32} (hf : f_X12_around x1 x2 x3 x4 I = some r0) :
    nm_Met l yX12_around cX12_around 8 (some .boolean) { frames := 1, cells := 0, slots := 0, locals := 25 } [.ref (ad 0), .int x1, .int x2, .int x3, .int x4] D Y s0 (nm_W Y X moN ad (I, nJ0, moZ)) (nm_Qi D s0 r0 (nm_W Y X moN ad (I, nJ0, moZ))) 0 0 := by
  refine nm_of (by decide) (Nat.le_of_ble_eq_true rfl) ?_
  intro p e R s m args below meth c Q ls hx hb hr hlocks hml hown hts hs0 hK hZ hRf hRl hRc hRs hQ hP hD hl
  have hH : nm_H D Y (fun q => s0 ≤ q) s.heap X moN ad (I, nJ0, moZ) s.heap [] := ⟨hP, hD, va_S.rf⟩
  have hl : lv_has ls 8 [(0, .ref (ad 0)), (1, .int x1), (2, .int x2), (3, .int x3), (4, .int x4)] := hl
  unfold f_X12_around at hf
  refine lv_iload_n hx hb dX12_around_0 rfl (lv_at hl 2 rfl) ?_
  refine lv_bipush (v := 64) hx hb dX12_around_1 (by decide) ?_
  refine lv_idiv hx hb dX12_around_3 (by decide) ?_
  refine lv_iload_n hx hb dX12_around_4 rfl (lv_at hl 3 rfl) ?_
  refine lv_isub hx hb dX12_around_5 ?_
  obtain ⟨v1, ev1, hf⟩ := nm_let hf
  refine nm_topi ev1 ?_
  refine lv_istore (lv' := [(5, .int v1), (0, .ref (ad 0)), (1, .int x1), (2, .int x2), (3, .int x3), (4, .int x4)]) hx hb dX12_around_6 hl (by decide) rfl (fun ls hl => ?_)
  obtain ⟨kx8, hkx8, hf⟩ := nm_let hf
  have hX8 : ∀  (H : Heap) (locs : List Loc) (ls : Array Slot), nm_H D Y (fun q => s0 ≤ q) s.heap X moN ad (I, nJ0, moZ) H locs → lv_has ls 8 [(4, .int x4)] → kx8 () = some r0 → W p l e R s m args below meth c H locs 0 0 Q (F0 m 115 ls []) := by
    intro  H locs ls hH hl hf
    rw [hkx8] at hf
    refine lv_iload hx hb dX12_around_115 (lv_at hl 0 rfl) ?_
    obtain ⟨hz11, hf⟩ := nm_bool hf
    exact nm_zret hx hb hr hlocks hQ hH hz11.1 (Option.some.inj hf) rfl dX12_around_117
  have hL8 : ∀ (n8 : Nat) (x5 : Int32) (H : Heap) (locs : List Loc) (ls : Array Slot), nm_H D Y (fun q => s0 ≤ q) s.heap X moN ad (I, nJ0, moZ) H locs → lv_has ls 8 [(0, .ref (ad 0)), (1, .int x1), (2, .int x2), (3, .int x3), (4, .int x4), (5, .int x5)] → f_X12_around_L8 x1 x2 x3 x4 I kx8 n8 x5 = some r0 → W p l e R s m args below meth c H locs 0 0 Q (F0 m 8 ls []) := by
    intro n8
    induction n8 with
    | zero =>
      intro x5 H locs ls hH hl hf
      cases hf
    | succ n8 ih8 =>
      intro x5 H locs ls hH hl hf
      rw [f_X12_around_L8] at hf
      refine lv_iload hx hb dX12_around_8 (lv_at hl 5 rfl) ?_
      refine lv_iload_n hx hb dX12_around_10 rfl (lv_at hl 2 rfl) ?_
      refine lv_bipush (v := 64) hx hb dX12_around_11 (by decide) ?_
      refine lv_idiv hx hb dX12_around_13 (by decide) ?_
      refine lv_iload_n hx hb dX12_around_14 rfl (lv_at hl 3 rfl) ?_
      refine lv_iadd hx hb dX12_around_15 ?_
      refine lv_icmp_gt (tgt := 115) hx hb dX12_around_16 (by decide) (fun c2 => ?_) (fun c2 => ?_)
      · have hf := nm_it c2 hf
        exact hX8  _ _ _ hH (lv_sub hl [4] rfl) hf
      · have hf := nm_ie c2 hf
        refine lv_iload_n hx hb dX12_around_19 rfl (lv_at hl 2 rfl) ?_
        refine lv_bipush (v := 64) hx hb dX12_around_20 (by decide) ?_
        refine lv_irem hx hb dX12_around_22 (by decide) ?_
        refine lv_iload_n hx hb dX12_around_23 rfl (lv_at hl 3 rfl) ?_
        refine lv_isub hx hb dX12_around_24 ?_
        obtain ⟨v3, ev3, hf⟩ := nm_let hf
        refine nm_topi ev3 ?_
        refine lv_istore (lv' := [(6, .int v3), (0, .ref (ad 0)), (1, .int x1), (2, .int x2), (3, .int x3), (4, .int x4), (5, .int x5)]) hx hb dX12_around_25 hl (by decide) rfl (fun ls hl => ?_)
        obtain ⟨kx27, hkx27, hf⟩ := nm_let hf
        have hX27 : ∀  (H : Heap) (locs : List Loc) (ls : Array Slot), nm_H D Y (fun q => s0 ≤ q) s.heap X moN ad (I, nJ0, moZ) H locs → lv_has ls 8 [(0, .ref (ad 0)), (1, .int x1), (2, .int x2), (3, .int x3), (4, .int x4), (5, .int x5)] → kx27 () = some r0 → W p l e R s m args below meth c H locs 0 0 Q (F0 m 109 ls []) := by
          intro  H locs ls hH hl hf
          rw [hkx27] at hf
          refine lv_iinc (v := x5 + 1) (lv' := [(5, .int (x5 + 1)), (0, .ref (ad 0)), (1, .int x1), (2, .int x2), (3, .int x3), (4, .int x4)]) hx hb dX12_around_109 hl (k := 5) rfl rfl (by decide) rfl (fun ls hl => ?_)
          refine lv_goto (tgt := 8) hx hb dX12_around_112 (by decide) ?_
          exact ih8 (x5 + 1) _ _ _ hH (lv_sub hl [1, 2, 3, 4, 5, 0] rfl) hf
        have hL27 : ∀ (n27 : Nat) (x6 : Int32) (H : Heap) (locs : List Loc) (ls : Array Slot), nm_H D Y (fun q => s0 ≤ q) s.heap X moN ad (I, nJ0, moZ) H locs → lv_has ls 8 [(0, .ref (ad 0)), (1, .int x1), (2, .int x2), (3, .int x3), (4, .int x4), (5, .int x5), (6, .int x6)] → f_X12_around_L27 x1 x2 x3 x4 x5 I kx27 n27 x6 = some r0 → W p l e R s m args below meth c H locs 0 0 Q (F0 m 27 ls []) := by
          intro n27
          induction n27 with
          | zero =>
            intro x6 H locs ls hH hl hf
            cases hf
          | succ n27 ih27 =>
            intro x6 H locs ls hH hl hf
            rw [f_X12_around_L27] at hf
            refine lv_iload hx hb dX12_around_27 (lv_at hl 6 rfl) ?_
            refine lv_iload_n hx hb dX12_around_29 rfl (lv_at hl 2 rfl) ?_
            refine lv_bipush (v := 64) hx hb dX12_around_30 (by decide) ?_
            refine lv_irem hx hb dX12_around_32 (by decide) ?_
            refine lv_iload_n hx hb dX12_around_33 rfl (lv_at hl 3 rfl) ?_
            refine lv_iadd hx hb dX12_around_34 ?_
            refine lv_icmp_gt (tgt := 109) hx hb dX12_around_35 (by decide) (fun c4 => ?_) (fun c4 => ?_)
            · have hf := nm_it c4 hf
              exact hX27  _ _ _ hH (lv_sub hl [0, 1, 2, 3, 4, 5] rfl) hf
            · have hf := nm_ie c4 hf
              refine lv_iload hx hb dX12_around_38 (lv_at hl 6 rfl) ?_
              refine lv_i2l hx hb dX12_around_40 rfl ?_
              refine lv_lconst (v := 0) hx hb dX12_around_41 (by decide) ?_
              refine lv_ldc2 hx hb hown (hts _ tw_1251) dX12_around_42 ?_
              refine nm_calli (nm_runS (X := X) (nl := moN) (k_X12_isIn (hf := (rfl : f_X12_isIn x6.toInt64 (0 : Int64) (63 : Int64) = _))) hx hb hml hown hts hs0 hK hZ hH tw_1207 tw_1205 tw_1206 tw_9 hd_X12_isIn rfl rfl ⟨Nat.le_trans (Nat.le_of_ble_eq_true rfl) hRf, Nat.le_trans (Nat.le_of_ble_eq_true rfl) hRl⟩ rfl hl.1 rfl (Nat.le_of_ble_eq_true rfl) dX12_around_45 ⟨Nat.zero_le _, Nat.zero_le _⟩) hH (fun H locs hH => ?_)
              have hH : nm_H D Y (fun q => s0 ≤ q) s.heap X moN ad (I, nJ0, moZ) H locs := hH
              have hJ91 : ∀ (t91_0 : Int32) (H : Heap) (locs : List Loc) (ls : Array Slot), nm_H D Y (fun q => s0 ≤ q) s.heap X moN ad (I, nJ0, moZ) H locs → lv_has ls 8 [(0, .ref (ad 0)), (1, .int x1), (2, .int x2), (3, .int x3), (4, .int x4), (5, .int x5), (6, .int x6)] → f_X12_around_J91 x4 x6 t91_0 I (f_X12_around_L27 x1 x2 x3 x4 x5 I kx27 n27) kx27 = some r0 → W p l e R s m args below meth c H locs 0 0 Q (F0 m 91 ls [.int t91_0]) := by
                intro t91_0 H locs ls hH hl hf
                unfold f_X12_around_J91 at hf
                refine lv_istore (lv' := [(7, .int t91_0), (0, .ref (ad 0)), (1, .int x1), (2, .int x2), (3, .int x3), (4, .int x4), (5, .int x5), (6, .int x6)]) hx hb dX12_around_91 hl (by decide) rfl (fun ls hl => ?_)
                refine lv_iload hx hb dX12_around_93 (lv_at hl 0 rfl) ?_
                refine lv_iload hx hb dX12_around_95 (lv_at hl 5 rfl) ?_
                refine lv_icmp_eq (tgt := 103) hx hb dX12_around_97 (by decide) (fun c5 => ?_) (fun c5 => ?_)
                · have hf := nm_it c5 hf
                  refine lv_iinc (v := x6 + 1) (lv' := [(6, .int (x6 + 1)), (7, .int t91_0), (0, .ref (ad 0)), (1, .int x1), (2, .int x2), (3, .int x3), (4, .int x4), (5, .int x5)]) hx hb dX12_around_103 hl (k := 7) rfl rfl (by decide) rfl (fun ls hl => ?_)
                  refine lv_goto (tgt := 27) hx hb dX12_around_106 (by decide) ?_
                  exact ih27 (x6 + 1) _ _ _ hH (lv_sub hl [2, 3, 4, 5, 6, 7, 0] rfl) hf
                · have hf := nm_ie c5 hf
                  refine lv_iload hx hb dX12_around_100 (lv_at hl 0 rfl) ?_
                  obtain ⟨hz6, hf⟩ := nm_bool hf
                  exact nm_zret hx hb hr hlocks hQ hH hz6.1 (Option.some.inj hf) rfl dX12_around_102
              have hJ90 : ∀  (H : Heap) (locs : List Loc) (ls : Array Slot), nm_H D Y (fun q => s0 ≤ q) s.heap X moN ad (I, nJ0, moZ) H locs → lv_has ls 8 [(0, .ref (ad 0)), (1, .int x1), (2, .int x2), (3, .int x3), (4, .int x4), (5, .int x5), (6, .int x6)] → f_X12_around_J90 x4 x6 I (f_X12_around_L27 x1 x2 x3 x4 x5 I kx27 n27) kx27 = some r0 → W p l e R s m args below meth c H locs 0 0 Q (F0 m 90 ls []) := by
                intro  H locs ls hH hl hf
                unfold f_X12_around_J90 at hf
                refine lv_iconst (v := 0) hx hb dX12_around_90 (by decide) ?_
                exact hJ91 (0 : Int32) _ _ _ hH (lv_sub hl [0, 1, 2, 3, 4, 5, 6] rfl) hf
              refine lv_if_eq (tgt := 90) hx hb dX12_around_48 (by decide) (fun c7 => ?_) (fun c7 => ?_)
              · have hf := nm_it c7 hf
                exact hJ90  _ _ _ hH (lv_sub hl [0, 1, 2, 3, 4, 5, 6] rfl) hf
              · have hf := nm_ie c7 hf
                refine lv_iload hx hb dX12_around_51 (lv_at hl 5 rfl) ?_
                refine lv_i2l hx hb dX12_around_53 rfl ?_
                refine lv_lconst (v := 0) hx hb dX12_around_54 (by decide) ?_
                refine lv_ldc2 hx hb hown (hts _ tw_1251) dX12_around_55 ?_
                refine nm_calli (nm_runS (X := X) (nl := moN) (k_X12_isIn (hf := (rfl : f_X12_isIn x5.toInt64 (0 : Int64) (63 : Int64) = _))) hx hb hml hown hts hs0 hK hZ hH tw_1207 tw_1205 tw_1206 tw_9 hd_X12_isIn rfl rfl ⟨Nat.le_trans (Nat.le_of_ble_eq_true rfl) hRf, Nat.le_trans (Nat.le_of_ble_eq_true rfl) hRl⟩ rfl hl.1 rfl (Nat.le_of_ble_eq_true rfl) dX12_around_58 ⟨Nat.zero_le _, Nat.zero_le _⟩) hH (fun H locs hH => ?_)
                have hH : nm_H D Y (fun q => s0 ≤ q) s.heap X moN ad (I, nJ0, moZ) H locs := hH
                refine lv_if_eq (tgt := 90) hx hb dX12_around_61 (by decide) (fun c8 => ?_) (fun c8 => ?_)
                · have hf := nm_it c8 hf
                  exact hJ90  _ _ _ hH (lv_sub hl [0, 1, 2, 3, 4, 5, 6] rfl) hf
                · have hf := nm_ie c8 hf
                  refine lv_aload_n hx hb dX12_around_64 rfl (lv_at hl 0 rfl) ?_
                  refine gf_12_19 hK hx hb hts hown hH mo_n0 mo_k0 (hts _ tw_975) (fun _ h9 => h9) dX12_around_65 ?_
                  refine lv_sipush (v := 4096) hx hb dX12_around_68 (by decide) ?_
                  refine lv_iload_n hx hb dX12_around_71 rfl (lv_at hl 1 rfl) ?_
                  refine lv_imul hx hb dX12_around_72 ?_
                  refine lv_bipush (v := 64) hx hb dX12_around_73 (by decide) ?_
                  refine lv_iload hx hb dX12_around_75 (lv_at hl 5 rfl) ?_
                  refine lv_imul hx hb dX12_around_77 ?_
                  refine lv_iadd hx hb dX12_around_78 ?_
                  refine lv_iload hx hb dX12_around_79 (lv_at hl 6 rfl) ?_
                  refine lv_iadd hx hb dX12_around_81 ?_
                  obtain ⟨hi9, hf⟩ := nm_chk hf
                  refine nm_zald hx hb hK hH mo_n20 mo_k20 mo_l20 hi9 dX12_around_82 ?_
                  refine lv_if_eq (tgt := 90) hx hb dX12_around_83 (by decide) (fun c10 => ?_) (fun c10 => ?_)
                  · have hf := nm_it c10 hf
                    exact hJ90  _ _ _ hH (lv_sub hl [0, 1, 2, 3, 4, 5, 6] rfl) hf
                  · have hf := nm_ie c10 hf
                    refine lv_iconst (v := 1) hx hb dX12_around_86 (by decide) ?_
                    refine lv_goto (tgt := 91) hx hb dX12_around_87 (by decide) ?_
                    exact hJ91 (1 : Int32) _ _ _ hH (lv_sub hl [0, 1, 2, 3, 4, 5, 6] rfl) hf
        exact hL27 nm_F v3 _ _ _ hH (lv_sub hl [1, 2, 3, 4, 5, 6, 0] rfl) hf
  exact hL8 nm_F v1 _ _ _ hH (lv_sub hl [1, 2, 3, 4, 5, 0] rfl) hf
def f_X12_meets (x1 : Int32) (x2 : Int32) (x3 : Int32) (x4 : Int32) (I : nm_I) : Option (nm_I) :=
nm_c (x1 + x3) 65536 (
(if (I 20 (x1 + x3).toNatClampNeg) = 0 then
some I
else
nm_c (((4096 : Int32) * x2) + x3) 65536 (
(if (I 20 (((4096 : Int32) * x2) + x3).toNatClampNeg) = 0 then
some I
else
nm_c x3 4096 (
(if (I 28 x3.toNatClampNeg) < 0 then
nm_c x3 4096 (
nm_l (nm_up I 28 x3.toNatClampNeg x4) fun I8 =>
nm_c (I8 0 34) 4096 (
nm_l (nm_up I8 32 ((I8 0 34).toNatClampNeg) x3) fun I10 =>
nm_l (nm_up I10 0 34 ((I10 0 34) + (1 : Int32))) fun I11 =>
some I11))
else
some I))))))
set_option maxHeartbeats 4000000 in
set_option maxRecDepth 100000 in
theorem k_X12_meets {l : Launch} {D : va_G} {Y : nm_Y} {s0 : Nat} {X : va_W} {ad : Nat → Nat}  {x1 : Int32} {x2 : Int32} {x3 : Int32} {x4 : Int32} {I : nm_I} {M0 : nm_I} (hf : f_X12_meets x1 x2 x3 x4 I = some M0) :
    nm_Met l yX12_meets cX12_meets 5 none { frames := 0, cells := 0, slots := 0, locals := 0 } [.ref (ad 0), .int x1, .int x2, .int x3, .int x4] D Y s0 (nm_W Y X moN ad (I, nJ0, moZ)) (nm_Qv D s0 (nm_W Y X moN ad (M0, nJ0, moZ))) 0 0 := by
  refine nm_of (by decide) (Nat.le_of_ble_eq_true rfl) ?_
  intro p e R s m args below meth c Q ls hx hb hr hlocks hml hown hts hs0 hK hZ hRf hRl hRc hRs hQ hP hD hl
  have hH : nm_H D Y (fun q => s0 ≤ q) s.heap X moN ad (I, nJ0, moZ) s.heap [] := ⟨hP, hD, va_S.rf⟩
  have hl : lv_has ls 5 [(0, .ref (ad 0)), (1, .int x1), (2, .int x2), (3, .int x3), (4, .int x4)] := hl
  unfold f_X12_meets at hf
  refine lv_aload_n hx hb dX12_meets_0 rfl (lv_at hl 0 rfl) ?_
  refine gf_12_19 hK hx hb hts hown hH mo_n0 mo_k0 (hts _ tw_975) (fun _ h9 => h9) dX12_meets_1 ?_
  refine lv_iload_n hx hb dX12_meets_4 rfl (lv_at hl 1 rfl) ?_
  refine lv_iload_n hx hb dX12_meets_5 rfl (lv_at hl 3 rfl) ?_
  refine lv_iadd hx hb dX12_meets_6 ?_
  obtain ⟨hi1, hf⟩ := nm_chk hf
  refine nm_zald hx hb hK hH mo_n20 mo_k20 mo_l20 hi1 dX12_meets_7 ?_
  refine lv_if_eq (tgt := 35) hx hb dX12_meets_8 (by decide) (fun c2 => ?_) (fun c2 => ?_)
  · have hf := nm_it c2 hf
    exact nm_vret hx hb hr hlocks hQ hH (congrArg (fun q => (q, nJ0, moZ)) (Option.some.inj hf)) dX12_meets_35
  · have hf := nm_ie c2 hf
    refine lv_aload_n hx hb dX12_meets_11 rfl (lv_at hl 0 rfl) ?_
    refine gf_12_19 hK hx hb hts hown hH mo_n0 mo_k0 (hts _ tw_975) (fun _ h9 => h9) dX12_meets_12 ?_
    refine lv_sipush (v := 4096) hx hb dX12_meets_15 (by decide) ?_
    refine lv_iload_n hx hb dX12_meets_18 rfl (lv_at hl 2 rfl) ?_
    refine lv_imul hx hb dX12_meets_19 ?_
    refine lv_iload_n hx hb dX12_meets_20 rfl (lv_at hl 3 rfl) ?_
    refine lv_iadd hx hb dX12_meets_21 ?_
    obtain ⟨hi3, hf⟩ := nm_chk hf
    refine nm_zald hx hb hK hH mo_n20 mo_k20 mo_l20 hi3 dX12_meets_22 ?_
    refine lv_if_eq (tgt := 35) hx hb dX12_meets_23 (by decide) (fun c4 => ?_) (fun c4 => ?_)
    · have hf := nm_it c4 hf
      exact nm_vret hx hb hr hlocks hQ hH (congrArg (fun q => (q, nJ0, moZ)) (Option.some.inj hf)) dX12_meets_35
    · have hf := nm_ie c4 hf
      refine lv_aload_n hx hb dX12_meets_26 rfl (lv_at hl 0 rfl) ?_
      refine gf_12_27 hK hx hb hts hown hH mo_n0 mo_k0 (hts _ tw_983) (fun _ h9 => h9) dX12_meets_27 ?_
      refine lv_iload_n hx hb dX12_meets_30 rfl (lv_at hl 3 rfl) ?_
      obtain ⟨hi5, hf⟩ := nm_chk hf
      refine nm_iald hx hb hK hH mo_n28 mo_k28 mo_l28 hi5 dX12_meets_31 ?_
      refine lv_if_lt (tgt := 36) hx hb dX12_meets_32 (by decide) (fun c6 => ?_) (fun c6 => ?_)
      · have hf := nm_it c6 hf
        refine lv_aload_n hx hb dX12_meets_36 rfl (lv_at hl 0 rfl) ?_
        refine gf_12_27 hK hx hb hts hown hH mo_n0 mo_k0 (hts _ tw_983) (fun _ h9 => h9) dX12_meets_37 ?_
        refine lv_iload_n hx hb dX12_meets_40 rfl (lv_at hl 3 rfl) ?_
        refine lv_iload hx hb dX12_meets_41 (lv_at hl 4 rfl) ?_
        obtain ⟨hi7, hf⟩ := nm_chk hf
        obtain ⟨I8, eI8, hf⟩ := nm_let hf
        refine nm_iast hx hb hK hH mo_n28 mo_k28 mo_l28 hi7 dX12_meets_43 (fun H locs hH => ?_)
        have hH : nm_H D Y (fun q => s0 ≤ q) s.heap X moN ad (I8, nJ0, moZ) H locs := by rw [eI8]; exact hH
        refine lv_aload_n hx hb dX12_meets_44 rfl (lv_at hl 0 rfl) ?_
        refine gf_12_31 hK hx hb hts hown hH mo_n0 mo_k0 (hts _ tw_987) (fun _ h9 => h9) dX12_meets_45 ?_
        refine lv_aload_n hx hb dX12_meets_48 rfl (lv_at hl 0 rfl) ?_
        refine gf_12_34 hK hx hb hts hown hH mo_n0 mo_k0 (hts _ tw_990) (fun _ h9 => h9) dX12_meets_49 ?_
        refine lv_iload_n hx hb dX12_meets_52 rfl (lv_at hl 3 rfl) ?_
        obtain ⟨hi9, hf⟩ := nm_chk hf
        obtain ⟨I10, eI10, hf⟩ := nm_let hf
        refine nm_iast hx hb hK hH mo_n32 mo_k32 mo_l32 hi9 dX12_meets_53 (fun H locs hH => ?_)
        have hH : nm_H D Y (fun q => s0 ≤ q) s.heap X moN ad (I10, nJ0, moZ) H locs := by rw [eI10]; exact hH
        refine lv_aload_n hx hb dX12_meets_54 rfl (lv_at hl 0 rfl) ?_
        refine lv_dup hx hb dX12_meets_55 rfl ?_
        refine gf_12_34 hK hx hb hts hown hH mo_n0 mo_k0 (hts _ tw_990) (fun _ h9 => h9) dX12_meets_56 ?_
        refine lv_iconst (v := 1) hx hb dX12_meets_59 (by decide) ?_
        refine lv_iadd hx hb dX12_meets_60 ?_
        obtain ⟨I11, eI11, hf⟩ := nm_let hf
        refine pf_12_34 hK hx hb hts hown hH mo_n0 mo_k0 (hts _ tw_990) (fun _ h9 => h9) dX12_meets_61 (fun H locs hH => ?_)
        have hH : nm_H D Y (fun q => s0 ≤ q) s.heap X moN ad (I11, nJ0, moZ) H locs := by rw [eI11]; exact hH
        exact nm_vret hx hb hr hlocks hQ hH (congrArg (fun q => (q, nJ0, moZ)) (Option.some.inj hf)) dX12_meets_64
      · have hf := nm_ie c6 hf
        exact nm_vret hx hb hr hlocks hQ hH (congrArg (fun q => (q, nJ0, moZ)) (Option.some.inj hf)) dX12_meets_35
def f_X12_findPieces_L2  : Nat → Int32 → nm_I → Option (nm_I)
  | 0, _, _ => none
  | n2 + 1, x3, I1 =>
    (if (4096 : Int32) ≤ x3 then
    some I1
    else
    nm_c x3 4096 (
    nm_l (nm_up I1 28 x3.toNatClampNeg (-1 : Int32)) fun I4 =>
    f_X12_findPieces_L2 n2 (x3 + 1) I4))
def f_X12_findPieces_J262 (x3 : Int32) (I10 : nm_I) (k : Int32 → nm_I → Option (nm_I)) : Option (nm_I) :=
k (x3 + 1) I10
def f_X12_findPieces_J245 (x5 : Int32) (I34 : nm_I) (k : Int32 → nm_I → Option (nm_I)) : Option (nm_I) :=
k (x5 + 1) I34
def f_X12_findPieces_J224 (x1 : Int32) (x2 : Int32) (v16 : Int32) (x5 : Int32) (v28 : Int32) (I33 : nm_I) (k : Int32 → nm_I → Option (nm_I)) : Option (nm_I) :=
(if (4032 : Int32) ≤ v28 then
f_X12_findPieces_J245 x5 I33 k
else
nm_s1 (f_X12_meets x1 x2 (v28 + (64 : Int32)) v16 I33) fun I36 =>
f_X12_findPieces_J245 x5 I36 k)
def f_X12_findPieces_J204 (x1 : Int32) (x2 : Int32) (v16 : Int32) (x5 : Int32) (v28 : Int32) (I32 : nm_I) (k : Int32 → nm_I → Option (nm_I)) : Option (nm_I) :=
(if v28 < (64 : Int32) then
f_X12_findPieces_J224 x1 x2 v16 x5 v28 I32 k
else
nm_s1 (f_X12_meets x1 x2 (v28 - (64 : Int32)) v16 I32) fun I39 =>
f_X12_findPieces_J224 x1 x2 v16 x5 v28 I39 k)
def f_X12_findPieces_J182 (x1 : Int32) (x2 : Int32) (v16 : Int32) (x5 : Int32) (v28 : Int32) (I31 : nm_I) (k : Int32 → nm_I → Option (nm_I)) : Option (nm_I) :=
(if (63 : Int32) ≤ (v28 - v28 / (64 : Int32) * (64 : Int32)) then
f_X12_findPieces_J204 x1 x2 v16 x5 v28 I31 k
else
nm_s1 (f_X12_meets x1 x2 (v28 + (1 : Int32)) v16 I31) fun I42 =>
f_X12_findPieces_J204 x1 x2 v16 x5 v28 I42 k)
def f_X12_findPieces_J162 (x1 : Int32) (x2 : Int32) (v16 : Int32) (x5 : Int32) (v28 : Int32) (I30 : nm_I) (k : Int32 → nm_I → Option (nm_I)) : Option (nm_I) :=
(if (v28 - v28 / (64 : Int32) * (64 : Int32)) ≤ 0 then
f_X12_findPieces_J182 x1 x2 v16 x5 v28 I30 k
else
nm_s1 (f_X12_meets x1 x2 (v28 - (1 : Int32)) v16 I30) fun I45 =>
f_X12_findPieces_J182 x1 x2 v16 x5 v28 I45 k)
def f_X12_findPieces_L123 (x1 : Int32) (x2 : Int32) (v16 : Int32) : Nat → Int32 → nm_I → Option (nm_I)
  | 0, _, _ => none
  | n123 + 1, x5, I25 =>
    (if (I25 0 34) ≤ x5 then
    some I25
    else
    nm_c x5 4096 (
    nm_l (I25 32 x5.toNatClampNeg) fun v28 =>
    nm_c v16 4096 (
    (if v28 ≤ (I25 30 v16.toNatClampNeg) then
    f_X12_findPieces_J162 x1 x2 v16 x5 v28 I25 (f_X12_findPieces_L123 x1 x2 v16 n123)
    else
    nm_c v16 4096 (
    nm_l (nm_up I25 30 v16.toNatClampNeg v28) fun I49 =>
    f_X12_findPieces_J162 x1 x2 v16 x5 v28 I49 (f_X12_findPieces_L123 x1 x2 v16 n123))))))
def f_X12_findPieces_L29 (x1 : Int32) (x2 : Int32) : Nat → Int32 → nm_I → Option (nm_I)
  | 0, _, _ => none
  | n29 + 1, x3, I7 =>
    (if (4096 : Int32) ≤ x3 then
    some I7
    else
    nm_c (x1 + x3) 65536 (
    (if (I7 20 (x1 + x3).toNatClampNeg) = 0 then
    f_X12_findPieces_J262 x3 I7 (f_X12_findPieces_L29 x1 x2 n29)
    else
    nm_c (((4096 : Int32) * x2) + x3) 65536 (
    (if (I7 20 (((4096 : Int32) * x2) + x3).toNatClampNeg) = 0 then
    f_X12_findPieces_J262 x3 I7 (f_X12_findPieces_L29 x1 x2 n29)
    else
    nm_c x3 4096 (
    (if (I7 28 x3.toNatClampNeg) < 0 then
    nm_l (I7 0 33) fun v16 =>
    nm_l (nm_up I7 0 33 ((I7 0 33) + (1 : Int32))) fun I17 =>
    nm_l (nm_up I17 0 34 (0 : Int32)) fun I18 =>
    nm_c v16 4096 (
    nm_l (nm_up I18 31 v16.toNatClampNeg x3) fun I20 =>
    nm_c v16 4096 (
    nm_l (nm_up I20 30 v16.toNatClampNeg x3) fun I22 =>
    nm_s1 (f_X12_meets x1 x2 x3 v16 I22) fun I23 =>
    nm_s1 (f_X12_findPieces_L123 x1 x2 v16 nm_F (0 : Int32) I23) fun I50 =>
    nm_c v16 4096 (
    nm_l (nm_up I50 29 v16.toNatClampNeg (I50 0 34)) fun I52 =>
    f_X12_findPieces_J262 x3 I52 (f_X12_findPieces_L29 x1 x2 n29))))
    else
    f_X12_findPieces_J262 x3 I7 (f_X12_findPieces_L29 x1 x2 n29))))))))
def f_X12_findPieces (x1 : Int32) (x2 : Int32) (I : nm_I) : Option (nm_I) :=
nm_s1 (f_X12_findPieces_L2 nm_F (0 : Int32) I) fun I5 =>
nm_l (nm_up I5 0 33 (0 : Int32)) fun I6 =>
nm_s1 (f_X12_findPieces_L29 x1 x2 nm_F (0 : Int32) I6) fun I54 =>
some I54
set_option maxHeartbeats 4000000 in
set_option maxRecDepth 100000 in
theorem k_X12_findPieces {l : Launch} {D : va_G} {Y : nm_Y} {s0 : Nat} {X : va_W} {ad : Nat → Nat}  {x1 : Int32} {x2 : Int32} {I : nm_I} {M0 : nm_I} (hf : f_X12_findPieces x1 x2 I = some M0) :
    nm_Met l yX12_findPieces cX12_findPieces 7 none { frames := 1, cells := 0, slots := 0, locals := 24 } [.ref (ad 0), .int x1, .int x2] D Y s0 (nm_W Y X moN ad (I, nJ0, moZ)) (nm_Qv D s0 (nm_W Y X moN ad (M0, nJ0, moZ))) 0 0 := by
  refine nm_of (by decide) (Nat.le_of_ble_eq_true rfl) ?_
  intro p e R s m args below meth c Q ls hx hb hr hlocks hml hown hts hs0 hK hZ hRf hRl hRc hRs hQ hP hD hl
  have hH : nm_H D Y (fun q => s0 ≤ q) s.heap X moN ad (I, nJ0, moZ) s.heap [] := ⟨hP, hD, va_S.rf⟩
  have hl : lv_has ls 7 [(0, .ref (ad 0)), (1, .int x1), (2, .int x2)] := hl
  unfold f_X12_findPieces at hf
  refine lv_iconst (v := 0) hx hb dX12_findPieces_0 (by decide) ?_
  refine lv_istore_n (lv' := [(3, .int (0 : Int32)), (0, .ref (ad 0)), (1, .int x1), (2, .int x2)]) hx hb dX12_findPieces_1 rfl hl (by decide) rfl (fun ls hl => ?_)
  have hL2 : ∀ (n2 : Nat) (x3 : Int32) (I1 : nm_I) (H : Heap) (locs : List Loc) (ls : Array Slot) (o2 : nm_I), nm_H D Y (fun q => s0 ≤ q) s.heap X moN ad (I1, nJ0, moZ) H locs → lv_has ls 7 [(0, .ref (ad 0)), (1, .int x1), (2, .int x2), (3, .int x3)] → f_X12_findPieces_L2 n2 x3 I1 = some o2 → (∀ (H : Heap) (locs : List Loc) (ls : Array Slot), nm_H D Y (fun q => s0 ≤ q) s.heap X moN ad (o2, nJ0, moZ) H locs → lv_has ls 7 [(0, .ref (ad 0)), (1, .int x1), (2, .int x2)] → W p l e R s m args below meth c H locs 0 0 Q (F0 m 22 ls [])) → W p l e R s m args below meth c H locs 0 0 Q (F0 m 2 ls []) := by
    intro n2
    induction n2 with
    | zero =>
      intro x3 I1 H locs ls o2 hH hl hf hX2
      cases hf
    | succ n2 ih2 =>
      intro x3 I1 H locs ls o2 hH hl hf hX2
      rw [f_X12_findPieces_L2] at hf
      refine lv_iload_n hx hb dX12_findPieces_2 rfl (lv_at hl 3 rfl) ?_
      refine lv_sipush (v := 4096) hx hb dX12_findPieces_3 (by decide) ?_
      refine lv_icmp_ge (tgt := 22) hx hb dX12_findPieces_6 (by decide) (fun c2 => ?_) (fun c2 => ?_)
      · have hf := nm_it c2 hf
        cases hf
        exact hX2 _ _ _ hH (lv_sub hl [0, 1, 2] rfl)
      · have hf := nm_ie c2 hf
        refine lv_aload_n hx hb dX12_findPieces_9 rfl (lv_at hl 0 rfl) ?_
        refine gf_12_27 hK hx hb hts hown hH mo_n0 mo_k0 (hts _ tw_983) (fun _ h9 => h9) dX12_findPieces_10 ?_
        refine lv_iload_n hx hb dX12_findPieces_13 rfl (lv_at hl 3 rfl) ?_
        refine lv_iconst (v := -1) hx hb dX12_findPieces_14 (by decide) ?_
        obtain ⟨hi3, hf⟩ := nm_chk hf
        obtain ⟨I4, eI4, hf⟩ := nm_let hf
        refine nm_iast hx hb hK hH mo_n28 mo_k28 mo_l28 hi3 dX12_findPieces_15 (fun H locs hH => ?_)
        have hH : nm_H D Y (fun q => s0 ≤ q) s.heap X moN ad (I4, nJ0, moZ) H locs := by rw [eI4]; exact hH
        refine lv_iinc (v := x3 + 1) (lv' := [(3, .int (x3 + 1)), (0, .ref (ad 0)), (1, .int x1), (2, .int x2)]) hx hb dX12_findPieces_16 hl (k := 3) rfl rfl (by decide) rfl (fun ls hl => ?_)
        refine lv_goto (tgt := 2) hx hb dX12_findPieces_19 (by decide) ?_
        exact ih2 (x3 + 1) I4 _ _ _ _ hH (lv_sub hl [1, 2, 3, 0] rfl) hf hX2
  obtain ⟨I5, hl56, hf⟩ := nm_sd1 hf
  refine hL2 nm_F (0 : Int32) I _ _ _ _ hH (lv_sub hl [1, 2, 3, 0] rfl) hl56 (fun H locs ls hH hl => ?_)
  have hl : lv_has ls 7 [(0, .ref (ad 0)), (1, .int x1), (2, .int x2)] := hl
  have hH : nm_H D Y (fun q => s0 ≤ q) s.heap X moN ad (I5, nJ0, moZ) H locs := hH
  refine lv_aload_n hx hb dX12_findPieces_22 rfl (lv_at hl 0 rfl) ?_
  refine lv_iconst (v := 0) hx hb dX12_findPieces_23 (by decide) ?_
  obtain ⟨I6, eI6, hf⟩ := nm_let hf
  refine pf_12_33 hK hx hb hts hown hH mo_n0 mo_k0 (hts _ tw_989) (fun _ h9 => h9) dX12_findPieces_24 (fun H locs hH => ?_)
  have hH : nm_H D Y (fun q => s0 ≤ q) s.heap X moN ad (I6, nJ0, moZ) H locs := by rw [eI6]; exact hH
  refine lv_iconst (v := 0) hx hb dX12_findPieces_27 (by decide) ?_
  refine lv_istore_n (lv' := [(3, .int (0 : Int32)), (0, .ref (ad 0)), (1, .int x1), (2, .int x2)]) hx hb dX12_findPieces_28 rfl hl (by decide) rfl (fun ls hl => ?_)
  have hL29 : ∀ (n29 : Nat) (x3 : Int32) (I7 : nm_I) (H : Heap) (locs : List Loc) (ls : Array Slot) (o29 : nm_I), nm_H D Y (fun q => s0 ≤ q) s.heap X moN ad (I7, nJ0, moZ) H locs → lv_has ls 7 [(0, .ref (ad 0)), (1, .int x1), (2, .int x2), (3, .int x3)] → f_X12_findPieces_L29 x1 x2 n29 x3 I7 = some o29 → (∀ (H : Heap) (locs : List Loc) (ls : Array Slot), nm_H D Y (fun q => s0 ≤ q) s.heap X moN ad (o29, nJ0, moZ) H locs → lv_has ls 7 [] → W p l e R s m args below meth c H locs 0 0 Q (F0 m 268 ls [])) → W p l e R s m args below meth c H locs 0 0 Q (F0 m 29 ls []) := by
    intro n29
    induction n29 with
    | zero =>
      intro x3 I7 H locs ls o29 hH hl hf hX29
      cases hf
    | succ n29 ih29 =>
      intro x3 I7 H locs ls o29 hH hl hf hX29
      rw [f_X12_findPieces_L29] at hf
      refine lv_iload_n hx hb dX12_findPieces_29 rfl (lv_at hl 3 rfl) ?_
      refine lv_sipush (v := 4096) hx hb dX12_findPieces_30 (by decide) ?_
      refine lv_icmp_ge (tgt := 268) hx hb dX12_findPieces_33 (by decide) (fun c8 => ?_) (fun c8 => ?_)
      · have hf := nm_it c8 hf
        cases hf
        exact hX29 _ _ _ hH (lv_sub hl [] rfl)
      · have hf := nm_ie c8 hf
        refine lv_aload_n hx hb dX12_findPieces_36 rfl (lv_at hl 0 rfl) ?_
        refine gf_12_19 hK hx hb hts hown hH mo_n0 mo_k0 (hts _ tw_975) (fun _ h9 => h9) dX12_findPieces_37 ?_
        refine lv_iload_n hx hb dX12_findPieces_40 rfl (lv_at hl 1 rfl) ?_
        refine lv_iload_n hx hb dX12_findPieces_41 rfl (lv_at hl 3 rfl) ?_
        refine lv_iadd hx hb dX12_findPieces_42 ?_
        obtain ⟨hi9, hf⟩ := nm_chk hf
        refine nm_zald hx hb hK hH mo_n20 mo_k20 mo_l20 hi9 dX12_findPieces_43 ?_
        have hJ262 : ∀ (I10 : nm_I) (H : Heap) (locs : List Loc) (ls : Array Slot), nm_H D Y (fun q => s0 ≤ q) s.heap X moN ad (I10, nJ0, moZ) H locs → lv_has ls 7 [(0, .ref (ad 0)), (1, .int x1), (2, .int x2), (3, .int x3)] → f_X12_findPieces_J262 x3 I10 (f_X12_findPieces_L29 x1 x2 n29) = some o29 → W p l e R s m args below meth c H locs 0 0 Q (F0 m 262 ls []) := by
          intro I10 H locs ls hH hl hf
          unfold f_X12_findPieces_J262 at hf
          refine lv_iinc (v := x3 + 1) (lv' := [(3, .int (x3 + 1)), (0, .ref (ad 0)), (1, .int x1), (2, .int x2)]) hx hb dX12_findPieces_262 hl (k := 3) rfl rfl (by decide) rfl (fun ls hl => ?_)
          refine lv_goto (tgt := 29) hx hb dX12_findPieces_265 (by decide) ?_
          exact ih29 (x3 + 1) I10 _ _ _ _ hH (lv_sub hl [1, 2, 3, 0] rfl) hf hX29
        refine lv_if_eq (tgt := 262) hx hb dX12_findPieces_44 (by decide) (fun c11 => ?_) (fun c11 => ?_)
        · have hf := nm_it c11 hf
          exact hJ262  I7 _ _ _ hH (lv_sub hl [0, 1, 2, 3] rfl) hf
        · have hf := nm_ie c11 hf
          refine lv_aload_n hx hb dX12_findPieces_47 rfl (lv_at hl 0 rfl) ?_
          refine gf_12_19 hK hx hb hts hown hH mo_n0 mo_k0 (hts _ tw_975) (fun _ h9 => h9) dX12_findPieces_48 ?_
          refine lv_sipush (v := 4096) hx hb dX12_findPieces_51 (by decide) ?_
          refine lv_iload_n hx hb dX12_findPieces_54 rfl (lv_at hl 2 rfl) ?_
          refine lv_imul hx hb dX12_findPieces_55 ?_
          refine lv_iload_n hx hb dX12_findPieces_56 rfl (lv_at hl 3 rfl) ?_
          refine lv_iadd hx hb dX12_findPieces_57 ?_
          obtain ⟨hi12, hf⟩ := nm_chk hf
          refine nm_zald hx hb hK hH mo_n20 mo_k20 mo_l20 hi12 dX12_findPieces_58 ?_
          refine lv_if_eq (tgt := 262) hx hb dX12_findPieces_59 (by decide) (fun c13 => ?_) (fun c13 => ?_)
          · have hf := nm_it c13 hf
            exact hJ262  I7 _ _ _ hH (lv_sub hl [0, 1, 2, 3] rfl) hf
          · have hf := nm_ie c13 hf
            refine lv_aload_n hx hb dX12_findPieces_62 rfl (lv_at hl 0 rfl) ?_
            refine gf_12_27 hK hx hb hts hown hH mo_n0 mo_k0 (hts _ tw_983) (fun _ h9 => h9) dX12_findPieces_63 ?_
            refine lv_iload_n hx hb dX12_findPieces_66 rfl (lv_at hl 3 rfl) ?_
            obtain ⟨hi14, hf⟩ := nm_chk hf
            refine nm_iald hx hb hK hH mo_n28 mo_k28 mo_l28 hi14 dX12_findPieces_67 ?_
            refine lv_if_lt (tgt := 74) hx hb dX12_findPieces_68 (by decide) (fun c15 => ?_) (fun c15 => ?_)
            · have hf := nm_it c15 hf
              refine lv_aload_n hx hb dX12_findPieces_74 rfl (lv_at hl 0 rfl) ?_
              refine gf_12_33 hK hx hb hts hown hH mo_n0 mo_k0 (hts _ tw_989) (fun _ h9 => h9) dX12_findPieces_75 ?_
              obtain ⟨v16, ev16, hf⟩ := nm_let hf
              refine nm_topi ev16 ?_
              refine lv_istore (lv' := [(4, .int v16), (0, .ref (ad 0)), (1, .int x1), (2, .int x2), (3, .int x3)]) hx hb dX12_findPieces_78 hl (by decide) rfl (fun ls hl => ?_)
              refine lv_aload_n hx hb dX12_findPieces_80 rfl (lv_at hl 1 rfl) ?_
              refine lv_dup hx hb dX12_findPieces_81 rfl ?_
              refine gf_12_33 hK hx hb hts hown hH mo_n0 mo_k0 (hts _ tw_989) (fun _ h9 => h9) dX12_findPieces_82 ?_
              refine lv_iconst (v := 1) hx hb dX12_findPieces_85 (by decide) ?_
              refine lv_iadd hx hb dX12_findPieces_86 ?_
              obtain ⟨I17, eI17, hf⟩ := nm_let hf
              refine pf_12_33 hK hx hb hts hown hH mo_n0 mo_k0 (hts _ tw_989) (fun _ h9 => h9) dX12_findPieces_87 (fun H locs hH => ?_)
              have hH : nm_H D Y (fun q => s0 ≤ q) s.heap X moN ad (I17, nJ0, moZ) H locs := by rw [eI17]; exact hH
              refine lv_aload_n hx hb dX12_findPieces_90 rfl (lv_at hl 1 rfl) ?_
              refine lv_iconst (v := 0) hx hb dX12_findPieces_91 (by decide) ?_
              obtain ⟨I18, eI18, hf⟩ := nm_let hf
              refine pf_12_34 hK hx hb hts hown hH mo_n0 mo_k0 (hts _ tw_990) (fun _ h9 => h9) dX12_findPieces_92 (fun H locs hH => ?_)
              have hH : nm_H D Y (fun q => s0 ≤ q) s.heap X moN ad (I18, nJ0, moZ) H locs := by rw [eI18]; exact hH
              refine lv_aload_n hx hb dX12_findPieces_95 rfl (lv_at hl 1 rfl) ?_
              refine gf_12_30 hK hx hb hts hown hH mo_n0 mo_k0 (hts _ tw_986) (fun _ h9 => h9) dX12_findPieces_96 ?_
              refine lv_iload hx hb dX12_findPieces_99 (lv_at hl 0 rfl) ?_
              refine lv_iload_n hx hb dX12_findPieces_101 rfl (lv_at hl 4 rfl) ?_
              obtain ⟨hi19, hf⟩ := nm_chk hf
              obtain ⟨I20, eI20, hf⟩ := nm_let hf
              refine nm_iast hx hb hK hH mo_n31 mo_k31 mo_l31 hi19 dX12_findPieces_102 (fun H locs hH => ?_)
              have hH : nm_H D Y (fun q => s0 ≤ q) s.heap X moN ad (I20, nJ0, moZ) H locs := by rw [eI20]; exact hH
              refine lv_aload_n hx hb dX12_findPieces_103 rfl (lv_at hl 1 rfl) ?_
              refine gf_12_29 hK hx hb hts hown hH mo_n0 mo_k0 (hts _ tw_985) (fun _ h9 => h9) dX12_findPieces_104 ?_
              refine lv_iload hx hb dX12_findPieces_107 (lv_at hl 0 rfl) ?_
              refine lv_iload_n hx hb dX12_findPieces_109 rfl (lv_at hl 4 rfl) ?_
              obtain ⟨hi21, hf⟩ := nm_chk hf
              obtain ⟨I22, eI22, hf⟩ := nm_let hf
              refine nm_iast hx hb hK hH mo_n30 mo_k30 mo_l30 hi21 dX12_findPieces_110 (fun H locs hH => ?_)
              have hH : nm_H D Y (fun q => s0 ≤ q) s.heap X moN ad (I22, nJ0, moZ) H locs := by rw [eI22]; exact hH
              refine lv_aload_n hx hb dX12_findPieces_111 rfl (lv_at hl 1 rfl) ?_
              refine lv_iload_n hx hb dX12_findPieces_112 rfl (lv_at hl 2 rfl) ?_
              refine lv_iload_n hx hb dX12_findPieces_113 rfl (lv_at hl 3 rfl) ?_
              refine lv_iload_n hx hb dX12_findPieces_114 rfl (lv_at hl 4 rfl) ?_
              refine lv_iload hx hb dX12_findPieces_115 (lv_at hl 0 rfl) ?_
              obtain ⟨I23, hc24, hf⟩ := nm_sd1 hf
              refine nm_callv (nm_runV (X := X) (nl := moN) (k_X12_meets (hf := hc24)) hx hb hml hown hts hs0 hK hZ hH tw_1322 tw_1319 tw_1321 (sw_X12_meets) tw_9 hd_X12_meets mo_n0 mo_k0 (by decide) rfl rfl rfl ⟨Nat.le_trans (Nat.le_of_ble_eq_true rfl) hRf, Nat.le_trans (Nat.le_of_ble_eq_true rfl) hRl⟩ rfl hl.1 rfl (Nat.le_of_ble_eq_true rfl) dX12_findPieces_117 ⟨Nat.zero_le _, Nat.zero_le _⟩) hH (fun H locs hH => ?_)
              have hH : nm_H D Y (fun q => s0 ≤ q) s.heap X moN ad (I23, nJ0, moZ) H locs := hH
              refine lv_iconst (v := 0) hx hb dX12_findPieces_120 (by decide) ?_
              refine lv_istore (lv' := [(5, .int (0 : Int32)), (4, .int v16), (0, .ref (ad 0)), (1, .int x1), (2, .int x2), (3, .int x3)]) hx hb dX12_findPieces_121 hl (by decide) rfl (fun ls hl => ?_)
              have hL123 : ∀ (n123 : Nat) (x5 : Int32) (I25 : nm_I) (H : Heap) (locs : List Loc) (ls : Array Slot) (o123 : nm_I), nm_H D Y (fun q => s0 ≤ q) s.heap X moN ad (I25, nJ0, moZ) H locs → lv_has ls 7 [(0, .ref (ad 0)), (1, .int x1), (2, .int x2), (3, .int x3), (4, .int v16), (5, .int x5)] → f_X12_findPieces_L123 x1 x2 v16 n123 x5 I25 = some o123 → (∀ (H : Heap) (locs : List Loc) (ls : Array Slot), nm_H D Y (fun q => s0 ≤ q) s.heap X moN ad (o123, nJ0, moZ) H locs → lv_has ls 7 [(0, .ref (ad 0)), (1, .int x1), (2, .int x2), (3, .int x3), (4, .int v16)] → W p l e R s m args below meth c H locs 0 0 Q (F0 m 251 ls [])) → W p l e R s m args below meth c H locs 0 0 Q (F0 m 123 ls []) := by
                intro n123
                induction n123 with
                | zero =>
                  intro x5 I25 H locs ls o123 hH hl hf hX123
                  cases hf
                | succ n123 ih123 =>
                  intro x5 I25 H locs ls o123 hH hl hf hX123
                  rw [f_X12_findPieces_L123] at hf
                  refine lv_iload hx hb dX12_findPieces_123 (lv_at hl 5 rfl) ?_
                  refine lv_aload_n hx hb dX12_findPieces_125 rfl (lv_at hl 0 rfl) ?_
                  refine gf_12_34 hK hx hb hts hown hH mo_n0 mo_k0 (hts _ tw_990) (fun _ h9 => h9) dX12_findPieces_126 ?_
                  refine lv_icmp_ge (tgt := 251) hx hb dX12_findPieces_129 (by decide) (fun c26 => ?_) (fun c26 => ?_)
                  · have hf := nm_it c26 hf
                    cases hf
                    exact hX123 _ _ _ hH (lv_sub hl [0, 1, 2, 3, 4] rfl)
                  · have hf := nm_ie c26 hf
                    refine lv_aload_n hx hb dX12_findPieces_132 rfl (lv_at hl 0 rfl) ?_
                    refine gf_12_31 hK hx hb hts hown hH mo_n0 mo_k0 (hts _ tw_987) (fun _ h9 => h9) dX12_findPieces_133 ?_
                    refine lv_iload hx hb dX12_findPieces_136 (lv_at hl 5 rfl) ?_
                    obtain ⟨hi27, hf⟩ := nm_chk hf
                    refine nm_iald hx hb hK hH mo_n32 mo_k32 mo_l32 hi27 dX12_findPieces_138 ?_
                    obtain ⟨v28, ev28, hf⟩ := nm_let hf
                    refine nm_topi ev28 ?_
                    refine lv_istore (lv' := [(6, .int v28), (0, .ref (ad 0)), (1, .int x1), (2, .int x2), (3, .int x3), (4, .int v16), (5, .int x5)]) hx hb dX12_findPieces_139 hl (by decide) rfl (fun ls hl => ?_)
                    refine lv_iload hx hb dX12_findPieces_141 (lv_at hl 0 rfl) ?_
                    refine lv_aload_n hx hb dX12_findPieces_143 rfl (lv_at hl 1 rfl) ?_
                    refine gf_12_29 hK hx hb hts hown hH mo_n0 mo_k0 (hts _ tw_985) (fun _ h9 => h9) dX12_findPieces_144 ?_
                    refine lv_iload hx hb dX12_findPieces_147 (lv_at hl 5 rfl) ?_
                    obtain ⟨hi29, hf⟩ := nm_chk hf
                    refine nm_iald hx hb hK hH mo_n30 mo_k30 mo_l30 hi29 dX12_findPieces_149 ?_
                    have hJ162 : ∀ (I30 : nm_I) (H : Heap) (locs : List Loc) (ls : Array Slot), nm_H D Y (fun q => s0 ≤ q) s.heap X moN ad (I30, nJ0, moZ) H locs → lv_has ls 7 [(0, .ref (ad 0)), (1, .int x1), (2, .int x2), (3, .int x3), (4, .int v16), (5, .int x5), (6, .int v28)] → f_X12_findPieces_J162 x1 x2 v16 x5 v28 I30 (f_X12_findPieces_L123 x1 x2 v16 n123) = some o123 → W p l e R s m args below meth c H locs 0 0 Q (F0 m 162 ls []) := by
                      intro I30 H locs ls hH hl hf
                      unfold f_X12_findPieces_J162 at hf
                      refine lv_iload hx hb dX12_findPieces_162 (lv_at hl 6 rfl) ?_
                      refine lv_bipush (v := 64) hx hb dX12_findPieces_164 (by decide) ?_
                      refine lv_irem hx hb dX12_findPieces_166 (by decide) ?_
                      have hJ182 : ∀ (I31 : nm_I) (H : Heap) (locs : List Loc) (ls : Array Slot), nm_H D Y (fun q => s0 ≤ q) s.heap X moN ad (I31, nJ0, moZ) H locs → lv_has ls 7 [(0, .ref (ad 0)), (1, .int x1), (2, .int x2), (3, .int x3), (4, .int v16), (5, .int x5), (6, .int v28)] → f_X12_findPieces_J182 x1 x2 v16 x5 v28 I31 (f_X12_findPieces_L123 x1 x2 v16 n123) = some o123 → W p l e R s m args below meth c H locs 0 0 Q (F0 m 182 ls []) := by
                        intro I31 H locs ls hH hl hf
                        unfold f_X12_findPieces_J182 at hf
                        refine lv_iload hx hb dX12_findPieces_182 (lv_at hl 6 rfl) ?_
                        refine lv_bipush (v := 64) hx hb dX12_findPieces_184 (by decide) ?_
                        refine lv_irem hx hb dX12_findPieces_186 (by decide) ?_
                        refine lv_bipush (v := 63) hx hb dX12_findPieces_187 (by decide) ?_
                        have hJ204 : ∀ (I32 : nm_I) (H : Heap) (locs : List Loc) (ls : Array Slot), nm_H D Y (fun q => s0 ≤ q) s.heap X moN ad (I32, nJ0, moZ) H locs → lv_has ls 7 [(0, .ref (ad 0)), (1, .int x1), (2, .int x2), (3, .int x3), (4, .int v16), (5, .int x5), (6, .int v28)] → f_X12_findPieces_J204 x1 x2 v16 x5 v28 I32 (f_X12_findPieces_L123 x1 x2 v16 n123) = some o123 → W p l e R s m args below meth c H locs 0 0 Q (F0 m 204 ls []) := by
                          intro I32 H locs ls hH hl hf
                          unfold f_X12_findPieces_J204 at hf
                          refine lv_iload hx hb dX12_findPieces_204 (lv_at hl 6 rfl) ?_
                          refine lv_bipush (v := 64) hx hb dX12_findPieces_206 (by decide) ?_
                          have hJ224 : ∀ (I33 : nm_I) (H : Heap) (locs : List Loc) (ls : Array Slot), nm_H D Y (fun q => s0 ≤ q) s.heap X moN ad (I33, nJ0, moZ) H locs → lv_has ls 7 [(0, .ref (ad 0)), (1, .int x1), (2, .int x2), (3, .int x3), (4, .int v16), (5, .int x5), (6, .int v28)] → f_X12_findPieces_J224 x1 x2 v16 x5 v28 I33 (f_X12_findPieces_L123 x1 x2 v16 n123) = some o123 → W p l e R s m args below meth c H locs 0 0 Q (F0 m 224 ls []) := by
                            intro I33 H locs ls hH hl hf
                            unfold f_X12_findPieces_J224 at hf
                            refine lv_iload hx hb dX12_findPieces_224 (lv_at hl 6 rfl) ?_
                            refine lv_sipush (v := 4032) hx hb dX12_findPieces_226 (by decide) ?_
                            have hJ245 : ∀ (I34 : nm_I) (H : Heap) (locs : List Loc) (ls : Array Slot), nm_H D Y (fun q => s0 ≤ q) s.heap X moN ad (I34, nJ0, moZ) H locs → lv_has ls 7 [(0, .ref (ad 0)), (1, .int x1), (2, .int x2), (3, .int x3), (4, .int v16), (5, .int x5)] → f_X12_findPieces_J245 x5 I34 (f_X12_findPieces_L123 x1 x2 v16 n123) = some o123 → W p l e R s m args below meth c H locs 0 0 Q (F0 m 245 ls []) := by
                              intro I34 H locs ls hH hl hf
                              unfold f_X12_findPieces_J245 at hf
                              refine lv_iinc (v := x5 + 1) (lv' := [(5, .int (x5 + 1)), (0, .ref (ad 0)), (1, .int x1), (2, .int x2), (3, .int x3), (4, .int v16)]) hx hb dX12_findPieces_245 hl (k := 5) rfl rfl (by decide) rfl (fun ls hl => ?_)
                              refine lv_goto (tgt := 123) hx hb dX12_findPieces_248 (by decide) ?_
                              exact ih123 (x5 + 1) I34 _ _ _ _ hH (lv_sub hl [1, 2, 3, 4, 5, 0] rfl) hf hX123
                            refine lv_icmp_ge (tgt := 245) hx hb dX12_findPieces_229 (by decide) (fun c35 => ?_) (fun c35 => ?_)
                            · have hf := nm_it c35 hf
                              exact hJ245  I33 _ _ _ hH (lv_sub hl [0, 1, 2, 3, 4, 5] rfl) hf
                            · have hf := nm_ie c35 hf
                              refine lv_aload_n hx hb dX12_findPieces_232 rfl (lv_at hl 0 rfl) ?_
                              refine lv_iload_n hx hb dX12_findPieces_233 rfl (lv_at hl 1 rfl) ?_
                              refine lv_iload_n hx hb dX12_findPieces_234 rfl (lv_at hl 2 rfl) ?_
                              refine lv_iload hx hb dX12_findPieces_235 (lv_at hl 6 rfl) ?_
                              refine lv_bipush (v := 64) hx hb dX12_findPieces_237 (by decide) ?_
                              refine lv_iadd hx hb dX12_findPieces_239 ?_
                              refine lv_iload hx hb dX12_findPieces_240 (lv_at hl 4 rfl) ?_
                              obtain ⟨I36, hc37, hf⟩ := nm_sd1 hf
                              refine nm_callv (nm_runV (X := X) (nl := moN) (k_X12_meets (hf := hc37)) hx hb hml hown hts hs0 hK hZ hH tw_1322 tw_1319 tw_1321 (sw_X12_meets) tw_9 hd_X12_meets mo_n0 mo_k0 (by decide) rfl rfl rfl ⟨Nat.le_trans (Nat.le_of_ble_eq_true rfl) hRf, Nat.le_trans (Nat.le_of_ble_eq_true rfl) hRl⟩ rfl hl.1 rfl (Nat.le_of_ble_eq_true rfl) dX12_findPieces_242 ⟨Nat.zero_le _, Nat.zero_le _⟩) hH (fun H locs hH => ?_)
                              have hH : nm_H D Y (fun q => s0 ≤ q) s.heap X moN ad (I36, nJ0, moZ) H locs := hH
                              exact hJ245  I36 _ _ _ hH (lv_sub hl [0, 1, 2, 3, 4, 5] rfl) hf
                          refine lv_icmp_lt (tgt := 224) hx hb dX12_findPieces_208 (by decide) (fun c38 => ?_) (fun c38 => ?_)
                          · have hf := nm_it c38 hf
                            exact hJ224  I32 _ _ _ hH (lv_sub hl [0, 1, 2, 3, 4, 5, 6] rfl) hf
                          · have hf := nm_ie c38 hf
                            refine lv_aload_n hx hb dX12_findPieces_211 rfl (lv_at hl 0 rfl) ?_
                            refine lv_iload_n hx hb dX12_findPieces_212 rfl (lv_at hl 1 rfl) ?_
                            refine lv_iload_n hx hb dX12_findPieces_213 rfl (lv_at hl 2 rfl) ?_
                            refine lv_iload hx hb dX12_findPieces_214 (lv_at hl 6 rfl) ?_
                            refine lv_bipush (v := 64) hx hb dX12_findPieces_216 (by decide) ?_
                            refine lv_isub hx hb dX12_findPieces_218 ?_
                            refine lv_iload hx hb dX12_findPieces_219 (lv_at hl 4 rfl) ?_
                            obtain ⟨I39, hc40, hf⟩ := nm_sd1 hf
                            refine nm_callv (nm_runV (X := X) (nl := moN) (k_X12_meets (hf := hc40)) hx hb hml hown hts hs0 hK hZ hH tw_1322 tw_1319 tw_1321 (sw_X12_meets) tw_9 hd_X12_meets mo_n0 mo_k0 (by decide) rfl rfl rfl ⟨Nat.le_trans (Nat.le_of_ble_eq_true rfl) hRf, Nat.le_trans (Nat.le_of_ble_eq_true rfl) hRl⟩ rfl hl.1 rfl (Nat.le_of_ble_eq_true rfl) dX12_findPieces_221 ⟨Nat.zero_le _, Nat.zero_le _⟩) hH (fun H locs hH => ?_)
                            have hH : nm_H D Y (fun q => s0 ≤ q) s.heap X moN ad (I39, nJ0, moZ) H locs := hH
                            exact hJ224  I39 _ _ _ hH (lv_sub hl [0, 1, 2, 3, 4, 5, 6] rfl) hf
                        refine lv_icmp_ge (tgt := 204) hx hb dX12_findPieces_189 (by decide) (fun c41 => ?_) (fun c41 => ?_)
                        · have hf := nm_it c41 hf
                          exact hJ204  I31 _ _ _ hH (lv_sub hl [0, 1, 2, 3, 4, 5, 6] rfl) hf
                        · have hf := nm_ie c41 hf
                          refine lv_aload_n hx hb dX12_findPieces_192 rfl (lv_at hl 0 rfl) ?_
                          refine lv_iload_n hx hb dX12_findPieces_193 rfl (lv_at hl 1 rfl) ?_
                          refine lv_iload_n hx hb dX12_findPieces_194 rfl (lv_at hl 2 rfl) ?_
                          refine lv_iload hx hb dX12_findPieces_195 (lv_at hl 6 rfl) ?_
                          refine lv_iconst (v := 1) hx hb dX12_findPieces_197 (by decide) ?_
                          refine lv_iadd hx hb dX12_findPieces_198 ?_
                          refine lv_iload hx hb dX12_findPieces_199 (lv_at hl 4 rfl) ?_
                          obtain ⟨I42, hc43, hf⟩ := nm_sd1 hf
                          refine nm_callv (nm_runV (X := X) (nl := moN) (k_X12_meets (hf := hc43)) hx hb hml hown hts hs0 hK hZ hH tw_1322 tw_1319 tw_1321 (sw_X12_meets) tw_9 hd_X12_meets mo_n0 mo_k0 (by decide) rfl rfl rfl ⟨Nat.le_trans (Nat.le_of_ble_eq_true rfl) hRf, Nat.le_trans (Nat.le_of_ble_eq_true rfl) hRl⟩ rfl hl.1 rfl (Nat.le_of_ble_eq_true rfl) dX12_findPieces_201 ⟨Nat.zero_le _, Nat.zero_le _⟩) hH (fun H locs hH => ?_)
                          have hH : nm_H D Y (fun q => s0 ≤ q) s.heap X moN ad (I42, nJ0, moZ) H locs := hH
                          exact hJ204  I42 _ _ _ hH (lv_sub hl [0, 1, 2, 3, 4, 5, 6] rfl) hf
                      refine lv_if_le (tgt := 182) hx hb dX12_findPieces_167 (by decide) (fun c44 => ?_) (fun c44 => ?_)
                      · have hf := nm_it c44 hf
                        exact hJ182  I30 _ _ _ hH (lv_sub hl [0, 1, 2, 3, 4, 5, 6] rfl) hf
                      · have hf := nm_ie c44 hf
                        refine lv_aload_n hx hb dX12_findPieces_170 rfl (lv_at hl 0 rfl) ?_
                        refine lv_iload_n hx hb dX12_findPieces_171 rfl (lv_at hl 1 rfl) ?_
                        refine lv_iload_n hx hb dX12_findPieces_172 rfl (lv_at hl 2 rfl) ?_
                        refine lv_iload hx hb dX12_findPieces_173 (lv_at hl 6 rfl) ?_
                        refine lv_iconst (v := 1) hx hb dX12_findPieces_175 (by decide) ?_
                        refine lv_isub hx hb dX12_findPieces_176 ?_
                        refine lv_iload hx hb dX12_findPieces_177 (lv_at hl 4 rfl) ?_
                        obtain ⟨I45, hc46, hf⟩ := nm_sd1 hf
                        refine nm_callv (nm_runV (X := X) (nl := moN) (k_X12_meets (hf := hc46)) hx hb hml hown hts hs0 hK hZ hH tw_1322 tw_1319 tw_1321 (sw_X12_meets) tw_9 hd_X12_meets mo_n0 mo_k0 (by decide) rfl rfl rfl ⟨Nat.le_trans (Nat.le_of_ble_eq_true rfl) hRf, Nat.le_trans (Nat.le_of_ble_eq_true rfl) hRl⟩ rfl hl.1 rfl (Nat.le_of_ble_eq_true rfl) dX12_findPieces_179 ⟨Nat.zero_le _, Nat.zero_le _⟩) hH (fun H locs hH => ?_)
                        have hH : nm_H D Y (fun q => s0 ≤ q) s.heap X moN ad (I45, nJ0, moZ) H locs := hH
                        exact hJ182  I45 _ _ _ hH (lv_sub hl [0, 1, 2, 3, 4, 5, 6] rfl) hf
                    refine lv_icmp_le (tgt := 162) hx hb dX12_findPieces_150 (by decide) (fun c47 => ?_) (fun c47 => ?_)
                    · have hf := nm_it c47 hf
                      exact hJ162  I25 _ _ _ hH (lv_sub hl [1, 2, 3, 4, 5, 6, 0] rfl) hf
                    · have hf := nm_ie c47 hf
                      refine lv_aload_n hx hb dX12_findPieces_153 rfl (lv_at hl 1 rfl) ?_
                      refine gf_12_29 hK hx hb hts hown hH mo_n0 mo_k0 (hts _ tw_985) (fun _ h9 => h9) dX12_findPieces_154 ?_
                      refine lv_iload hx hb dX12_findPieces_157 (lv_at hl 5 rfl) ?_
                      refine lv_iload hx hb dX12_findPieces_159 (lv_at hl 0 rfl) ?_
                      obtain ⟨hi48, hf⟩ := nm_chk hf
                      obtain ⟨I49, eI49, hf⟩ := nm_let hf
                      refine nm_iast hx hb hK hH mo_n30 mo_k30 mo_l30 hi48 dX12_findPieces_161 (fun H locs hH => ?_)
                      have hH : nm_H D Y (fun q => s0 ≤ q) s.heap X moN ad (I49, nJ0, moZ) H locs := by rw [eI49]; exact hH
                      exact hJ162  I49 _ _ _ hH (lv_sub hl [1, 2, 3, 4, 5, 6, 0] rfl) hf
              obtain ⟨I50, hl53, hf⟩ := nm_sd1 hf
              refine hL123 nm_F (0 : Int32) I23 _ _ _ _ hH (lv_sub hl [2, 3, 4, 5, 1, 0] rfl) hl53 (fun H locs ls hH hl => ?_)
              have hl : lv_has ls 7 [(0, .ref (ad 0)), (1, .int x1), (2, .int x2), (3, .int x3), (4, .int v16)] := hl
              have hH : nm_H D Y (fun q => s0 ≤ q) s.heap X moN ad (I50, nJ0, moZ) H locs := hH
              refine lv_aload_n hx hb dX12_findPieces_251 rfl (lv_at hl 0 rfl) ?_
              refine gf_12_28 hK hx hb hts hown hH mo_n0 mo_k0 (hts _ tw_984) (fun _ h9 => h9) dX12_findPieces_252 ?_
              refine lv_iload hx hb dX12_findPieces_255 (lv_at hl 4 rfl) ?_
              refine lv_aload_n hx hb dX12_findPieces_257 rfl (lv_at hl 0 rfl) ?_
              refine gf_12_34 hK hx hb hts hown hH mo_n0 mo_k0 (hts _ tw_990) (fun _ h9 => h9) dX12_findPieces_258 ?_
              obtain ⟨hi51, hf⟩ := nm_chk hf
              obtain ⟨I52, eI52, hf⟩ := nm_let hf
              refine nm_iast hx hb hK hH mo_n29 mo_k29 mo_l29 hi51 dX12_findPieces_261 (fun H locs hH => ?_)
              have hH : nm_H D Y (fun q => s0 ≤ q) s.heap X moN ad (I52, nJ0, moZ) H locs := by rw [eI52]; exact hH
              exact hJ262  I52 _ _ _ hH (lv_sub hl [0, 1, 2, 3] rfl) hf
            · have hf := nm_ie c15 hf
              refine lv_goto (tgt := 262) hx hb dX12_findPieces_71 (by decide) ?_
              exact hJ262  I7 _ _ _ hH (lv_sub hl [0, 1, 2, 3] rfl) hf
  obtain ⟨I54, hl55, hf⟩ := nm_sd1 hf
  refine hL29 nm_F (0 : Int32) I6 _ _ _ _ hH (lv_sub hl [1, 2, 3, 0] rfl) hl55 (fun H locs ls hH hl => ?_)
  have hl : lv_has ls 7 [] := hl
  have hH : nm_H D Y (fun q => s0 ≤ q) s.heap X moN ad (I54, nJ0, moZ) H locs := hH
  exact nm_vret hx hb hr hlocks hQ hH (congrArg (fun q => (q, nJ0, moZ)) (Option.some.inj hf)) dX12_findPieces_268
