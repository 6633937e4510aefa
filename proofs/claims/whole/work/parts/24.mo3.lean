def f_X12_lacking_J95 (x5 : Int32) (I : nm_I) (k : Int32 → Option Int32) (kx27 : Unit → Option Int32) : Option Int32 :=
k (x5 + 1)
def f_X12_lacking_L27 (x1 : Int32) (x2 : Int32) (x3 : Int32) (x4 : Int32) (I : nm_I) (kx27 : Unit → Option Int32) : Nat → Int32 → Option Int32
  | 0, _ => none
  | n27 + 1, x5 =>
    (if ((x2 - x2 / (64 : Int32) * (64 : Int32)) + x3) < x5 then
    kx27 ()
    else
    (if (f_X12_isIn x5.toInt64 (0 : Int64) (63 : Int64)) = 0 then
    f_X12_lacking_J95 x5 I (f_X12_lacking_L27 x1 x2 x3 x4 I kx27 n27) kx27
    else
    (if (f_X12_isIn x4.toInt64 (0 : Int64) (63 : Int64)) = 0 then
    f_X12_lacking_J95 x5 I (f_X12_lacking_L27 x1 x2 x3 x4 I kx27 n27) kx27
    else
    nm_c ((((4096 : Int32) * x1) + ((64 : Int32) * x4)) + x5) 65536 (
    (if (I 20 ((((4096 : Int32) * x1) + ((64 : Int32) * x4)) + x5).toNatClampNeg) = 0 then
    some (((64 : Int32) * x4) + x5)
    else
    f_X12_lacking_J95 x5 I (f_X12_lacking_L27 x1 x2 x3 x4 I kx27 n27) kx27)))))
def f_X12_lacking_L8 (x1 : Int32) (x2 : Int32) (x3 : Int32) (I : nm_I) (kx8 : Unit → Option Int32) : Nat → Int32 → Option Int32
  | 0, _ => none
  | n8 + 1, x4 =>
    (if ((x2 / (64 : Int32)) + x3) < x4 then
    kx8 ()
    else
    nm_l ((x2 - x2 / (64 : Int32) * (64 : Int32)) - x3) fun v3 =>
    nm_l (fun (_ : Unit) =>
    f_X12_lacking_L8 x1 x2 x3 I kx8 n8 (x4 + 1)) fun kx27 =>
    f_X12_lacking_L27 x1 x2 x3 x4 I kx27 nm_F v3)
def f_X12_lacking (x1 : Int32) (x2 : Int32) (x3 : Int32) (I : nm_I) : Option Int32 :=
nm_l ((x2 / (64 : Int32)) - x3) fun v1 =>
nm_l (fun (_ : Unit) =>
some x2) fun kx8 =>
f_X12_lacking_L8 x1 x2 x3 I kx8 nm_F v1
set_option maxHeartbeats 4000000 in
set_option maxRecDepth 100000 in
theorem k_X12_lacking {l : Launch} {D : va_G} {Y : nm_Y} {s0 : Nat} {X : va_W} {ad : Nat → Nat}  {x1 : Int32} {x2 : Int32} {x3 : Int32} {I : nm_I} {r0 : Int32} (hf : f_X12_lacking x1 x2 x3 I = some r0) :
    nm_Met l yX12_lacking cX12_lacking 6 (some .int) { frames := 1, cells := 0, slots := 0, locals := 25 } [.ref (ad 0), .int x1, .int x2, .int x3] D Y s0 (nm_W Y X moN ad (I, nJ0, moZ)) (nm_Qi D s0 r0 (nm_W Y X moN ad (I, nJ0, moZ))) 0 0 := by
  refine nm_of (by decide) (Nat.le_of_ble_eq_true rfl) ?_
  intro p e R s m args below meth c Q ls hx hb hr hlocks hml hown hts hs0 hK hZ hRf hRl hRc hRs hQ hP hD hl
  have hH : nm_H D Y (fun q => s0 ≤ q) s.heap X moN ad (I, nJ0, moZ) s.heap [] := ⟨hP, hD, va_S.rf⟩
  have hl : lv_has ls 6 [(0, .ref (ad 0)), (1, .int x1), (2, .int x2), (3, .int x3)] := hl
  unfold f_X12_lacking at hf
  refine lv_iload_n hx hb dX12_lacking_0 rfl (lv_at hl 2 rfl) ?_
  refine lv_bipush (v := 64) hx hb dX12_lacking_1 (by decide) ?_
  refine lv_idiv hx hb dX12_lacking_3 (by decide) ?_
  refine lv_iload_n hx hb dX12_lacking_4 rfl (lv_at hl 3 rfl) ?_
  refine lv_isub hx hb dX12_lacking_5 ?_
  obtain ⟨v1, ev1, hf⟩ := nm_let hf
  refine nm_topi ev1 ?_
  refine lv_istore (lv' := [(4, .int v1), (0, .ref (ad 0)), (1, .int x1), (2, .int x2), (3, .int x3)]) hx hb dX12_lacking_6 hl (by decide) rfl (fun ls hl => ?_)
  obtain ⟨kx8, hkx8, hf⟩ := nm_let hf
  have hX8 : ∀  (H : Heap) (locs : List Loc) (ls : Array Slot), nm_H D Y (fun q => s0 ≤ q) s.heap X moN ad (I, nJ0, moZ) H locs → lv_has ls 6 [(2, .int x2)] → kx8 () = some r0 → W p l e R s m args below meth c H locs 0 0 Q (F0 m 107 ls []) := by
    intro  H locs ls hH hl hf
    rw [hkx8] at hf
    refine lv_iload_n hx hb dX12_lacking_107 rfl (lv_at hl 0 rfl) ?_
    exact nm_iret hx hb hr hlocks hQ hH (Option.some.inj hf) rfl dX12_lacking_108
  have hL8 : ∀ (n8 : Nat) (x4 : Int32) (H : Heap) (locs : List Loc) (ls : Array Slot), nm_H D Y (fun q => s0 ≤ q) s.heap X moN ad (I, nJ0, moZ) H locs → lv_has ls 6 [(0, .ref (ad 0)), (1, .int x1), (2, .int x2), (3, .int x3), (4, .int x4)] → f_X12_lacking_L8 x1 x2 x3 I kx8 n8 x4 = some r0 → W p l e R s m args below meth c H locs 0 0 Q (F0 m 8 ls []) := by
    intro n8
    induction n8 with
    | zero =>
      intro x4 H locs ls hH hl hf
      cases hf
    | succ n8 ih8 =>
      intro x4 H locs ls hH hl hf
      rw [f_X12_lacking_L8] at hf
      refine lv_iload hx hb dX12_lacking_8 (lv_at hl 4 rfl) ?_
      refine lv_iload_n hx hb dX12_lacking_10 rfl (lv_at hl 2 rfl) ?_
      refine lv_bipush (v := 64) hx hb dX12_lacking_11 (by decide) ?_
      refine lv_idiv hx hb dX12_lacking_13 (by decide) ?_
      refine lv_iload_n hx hb dX12_lacking_14 rfl (lv_at hl 3 rfl) ?_
      refine lv_iadd hx hb dX12_lacking_15 ?_
      refine lv_icmp_gt (tgt := 107) hx hb dX12_lacking_16 (by decide) (fun c2 => ?_) (fun c2 => ?_)
      · have hf := nm_it c2 hf
        exact hX8  _ _ _ hH (lv_sub hl [2] rfl) hf
      · have hf := nm_ie c2 hf
        refine lv_iload_n hx hb dX12_lacking_19 rfl (lv_at hl 2 rfl) ?_
        refine lv_bipush (v := 64) hx hb dX12_lacking_20 (by decide) ?_
        refine lv_irem hx hb dX12_lacking_22 (by decide) ?_
        refine lv_iload_n hx hb dX12_lacking_23 rfl (lv_at hl 3 rfl) ?_
        refine lv_isub hx hb dX12_lacking_24 ?_
        obtain ⟨v3, ev3, hf⟩ := nm_let hf
        refine nm_topi ev3 ?_
        refine lv_istore (lv' := [(5, .int v3), (0, .ref (ad 0)), (1, .int x1), (2, .int x2), (3, .int x3), (4, .int x4)]) hx hb dX12_lacking_25 hl (by decide) rfl (fun ls hl => ?_)
        obtain ⟨kx27, hkx27, hf⟩ := nm_let hf
        have hX27 : ∀  (H : Heap) (locs : List Loc) (ls : Array Slot), nm_H D Y (fun q => s0 ≤ q) s.heap X moN ad (I, nJ0, moZ) H locs → lv_has ls 6 [(0, .ref (ad 0)), (1, .int x1), (2, .int x2), (3, .int x3), (4, .int x4)] → kx27 () = some r0 → W p l e R s m args below meth c H locs 0 0 Q (F0 m 101 ls []) := by
          intro  H locs ls hH hl hf
          rw [hkx27] at hf
          refine lv_iinc (v := x4 + 1) (lv' := [(4, .int (x4 + 1)), (0, .ref (ad 0)), (1, .int x1), (2, .int x2), (3, .int x3)]) hx hb dX12_lacking_101 hl (k := 4) rfl rfl (by decide) rfl (fun ls hl => ?_)
          refine lv_goto (tgt := 8) hx hb dX12_lacking_104 (by decide) ?_
          exact ih8 (x4 + 1) _ _ _ hH (lv_sub hl [1, 2, 3, 4, 0] rfl) hf
        have hL27 : ∀ (n27 : Nat) (x5 : Int32) (H : Heap) (locs : List Loc) (ls : Array Slot), nm_H D Y (fun q => s0 ≤ q) s.heap X moN ad (I, nJ0, moZ) H locs → lv_has ls 6 [(0, .ref (ad 0)), (1, .int x1), (2, .int x2), (3, .int x3), (4, .int x4), (5, .int x5)] → f_X12_lacking_L27 x1 x2 x3 x4 I kx27 n27 x5 = some r0 → W p l e R s m args below meth c H locs 0 0 Q (F0 m 27 ls []) := by
          intro n27
          induction n27 with
          | zero =>
            intro x5 H locs ls hH hl hf
            cases hf
          | succ n27 ih27 =>
            intro x5 H locs ls hH hl hf
            rw [f_X12_lacking_L27] at hf
            refine lv_iload hx hb dX12_lacking_27 (lv_at hl 5 rfl) ?_
            refine lv_iload_n hx hb dX12_lacking_29 rfl (lv_at hl 2 rfl) ?_
            refine lv_bipush (v := 64) hx hb dX12_lacking_30 (by decide) ?_
            refine lv_irem hx hb dX12_lacking_32 (by decide) ?_
            refine lv_iload_n hx hb dX12_lacking_33 rfl (lv_at hl 3 rfl) ?_
            refine lv_iadd hx hb dX12_lacking_34 ?_
            refine lv_icmp_gt (tgt := 101) hx hb dX12_lacking_35 (by decide) (fun c4 => ?_) (fun c4 => ?_)
            · have hf := nm_it c4 hf
              exact hX27  _ _ _ hH (lv_sub hl [0, 1, 2, 3, 4] rfl) hf
            · have hf := nm_ie c4 hf
              refine lv_iload hx hb dX12_lacking_38 (lv_at hl 5 rfl) ?_
              refine lv_i2l hx hb dX12_lacking_40 rfl ?_
              refine lv_lconst (v := 0) hx hb dX12_lacking_41 (by decide) ?_
              refine lv_ldc2 hx hb hown (hts _ tw_1251) dX12_lacking_42 ?_
              refine nm_calli (nm_runS (X := X) (nl := moN) (k_X12_isIn (hf := (rfl : f_X12_isIn x5.toInt64 (0 : Int64) (63 : Int64) = _))) hx hb hml hown hts hs0 hK hZ hH tw_1207 tw_1205 tw_1206 tw_9 hd_X12_isIn rfl rfl ⟨Nat.le_trans (Nat.le_of_ble_eq_true rfl) hRf, Nat.le_trans (Nat.le_of_ble_eq_true rfl) hRl⟩ rfl hl.1 rfl (Nat.le_of_ble_eq_true rfl) dX12_lacking_45 ⟨Nat.zero_le _, Nat.zero_le _⟩) hH (fun H locs hH => ?_)
              have hH : nm_H D Y (fun q => s0 ≤ q) s.heap X moN ad (I, nJ0, moZ) H locs := hH
              have hJ95 : ∀  (H : Heap) (locs : List Loc) (ls : Array Slot), nm_H D Y (fun q => s0 ≤ q) s.heap X moN ad (I, nJ0, moZ) H locs → lv_has ls 6 [(0, .ref (ad 0)), (1, .int x1), (2, .int x2), (3, .int x3), (4, .int x4), (5, .int x5)] → f_X12_lacking_J95 x5 I (f_X12_lacking_L27 x1 x2 x3 x4 I kx27 n27) kx27 = some r0 → W p l e R s m args below meth c H locs 0 0 Q (F0 m 95 ls []) := by
                intro  H locs ls hH hl hf
                unfold f_X12_lacking_J95 at hf
                refine lv_iinc (v := x5 + 1) (lv' := [(5, .int (x5 + 1)), (0, .ref (ad 0)), (1, .int x1), (2, .int x2), (3, .int x3), (4, .int x4)]) hx hb dX12_lacking_95 hl (k := 5) rfl rfl (by decide) rfl (fun ls hl => ?_)
                refine lv_goto (tgt := 27) hx hb dX12_lacking_98 (by decide) ?_
                exact ih27 (x5 + 1) _ _ _ hH (lv_sub hl [1, 2, 3, 4, 5, 0] rfl) hf
              refine lv_if_eq (tgt := 95) hx hb dX12_lacking_48 (by decide) (fun c5 => ?_) (fun c5 => ?_)
              · have hf := nm_it c5 hf
                exact hJ95  _ _ _ hH (lv_sub hl [0, 1, 2, 3, 4, 5] rfl) hf
              · have hf := nm_ie c5 hf
                refine lv_iload hx hb dX12_lacking_51 (lv_at hl 4 rfl) ?_
                refine lv_i2l hx hb dX12_lacking_53 rfl ?_
                refine lv_lconst (v := 0) hx hb dX12_lacking_54 (by decide) ?_
                refine lv_ldc2 hx hb hown (hts _ tw_1251) dX12_lacking_55 ?_
                refine nm_calli (nm_runS (X := X) (nl := moN) (k_X12_isIn (hf := (rfl : f_X12_isIn x4.toInt64 (0 : Int64) (63 : Int64) = _))) hx hb hml hown hts hs0 hK hZ hH tw_1207 tw_1205 tw_1206 tw_9 hd_X12_isIn rfl rfl ⟨Nat.le_trans (Nat.le_of_ble_eq_true rfl) hRf, Nat.le_trans (Nat.le_of_ble_eq_true rfl) hRl⟩ rfl hl.1 rfl (Nat.le_of_ble_eq_true rfl) dX12_lacking_58 ⟨Nat.zero_le _, Nat.zero_le _⟩) hH (fun H locs hH => ?_)
                have hH : nm_H D Y (fun q => s0 ≤ q) s.heap X moN ad (I, nJ0, moZ) H locs := hH
                refine lv_if_eq (tgt := 95) hx hb dX12_lacking_61 (by decide) (fun c6 => ?_) (fun c6 => ?_)
                · have hf := nm_it c6 hf
                  exact hJ95  _ _ _ hH (lv_sub hl [0, 1, 2, 3, 4, 5] rfl) hf
                · have hf := nm_ie c6 hf
                  refine lv_aload_n hx hb dX12_lacking_64 rfl (lv_at hl 0 rfl) ?_
                  refine gf_12_19 hK hx hb hts hown hH mo_n0 mo_k0 (hts _ tw_975) (fun _ h9 => h9) dX12_lacking_65 ?_
                  refine lv_sipush (v := 4096) hx hb dX12_lacking_68 (by decide) ?_
                  refine lv_iload_n hx hb dX12_lacking_71 rfl (lv_at hl 1 rfl) ?_
                  refine lv_imul hx hb dX12_lacking_72 ?_
                  refine lv_bipush (v := 64) hx hb dX12_lacking_73 (by decide) ?_
                  refine lv_iload hx hb dX12_lacking_75 (lv_at hl 4 rfl) ?_
                  refine lv_imul hx hb dX12_lacking_77 ?_
                  refine lv_iadd hx hb dX12_lacking_78 ?_
                  refine lv_iload hx hb dX12_lacking_79 (lv_at hl 5 rfl) ?_
                  refine lv_iadd hx hb dX12_lacking_81 ?_
                  obtain ⟨hi7, hf⟩ := nm_chk hf
                  refine nm_zald hx hb hK hH mo_n20 mo_k20 mo_l20 hi7 dX12_lacking_82 ?_
                  refine lv_if_ne (tgt := 95) hx hb dX12_lacking_83 (by decide) (fun c8 => ?_) (fun c8 => ?_)
                  · have hf := nm_ie c8 hf
                    exact hJ95  _ _ _ hH (lv_sub hl [0, 1, 2, 3, 4, 5] rfl) hf
                  · have hf := nm_it c8 hf
                    refine lv_bipush (v := 64) hx hb dX12_lacking_86 (by decide) ?_
                    refine lv_iload hx hb dX12_lacking_88 (lv_at hl 4 rfl) ?_
                    refine lv_imul hx hb dX12_lacking_90 ?_
                    refine lv_iload hx hb dX12_lacking_91 (lv_at hl 5 rfl) ?_
                    refine lv_iadd hx hb dX12_lacking_93 ?_
                    exact nm_iret hx hb hr hlocks hQ hH (Option.some.inj hf) rfl dX12_lacking_94
        exact hL27 nm_F v3 _ _ _ hH (lv_sub hl [1, 2, 3, 4, 5, 0] rfl) hf
  exact hL8 nm_F v1 _ _ _ hH (lv_sub hl [1, 2, 3, 4, 0] rfl) hf
def f_X12_inside_J79 (x2 : Int32) (I5 : nm_I) (k : Int32 → nm_I → Option (nm_I)) : Option (nm_I) :=
k (x2 + 1) I5
def f_X12_inside_L2 (x1 : Int32) : Nat → Int32 → nm_I → Option (nm_I)
  | 0, _, _ => none
  | n2 + 1, x2, I1 =>
    (if (4096 : Int32) ≤ x2 then
    some I1
    else
    nm_c x1 16 (
    nm_c (((4096 : Int32) * (I1 37 x1.toNatClampNeg)) + x2) 65536 (
    (if (I1 20 (((4096 : Int32) * (I1 37 x1.toNatClampNeg)) + x2).toNatClampNeg) = 0 then
    f_X12_inside_J79 x2 I1 (f_X12_inside_L2 x1 n2)
    else
    nm_c x1 16 (
    nm_c x1 16 (
    nm_s1 (f_X12_around (I1 38 x1.toNatClampNeg) x2 (I1 39 x1.toNatClampNeg) (1 : Int32) I1) fun r9 =>
    (if r9 = 0 then
    nm_c x1 16 (
    nm_c x1 16 (
    nm_s1 (f_X12_lacking (I1 38 x1.toNatClampNeg) x2 (I1 39 x1.toNatClampNeg) I1) fun r14 =>
    nm_c x1 16 (
    nm_s1 (f_X12_fault x1 x2 r14 (I1 39 x1.toNatClampNeg) I1) fun I17 =>
    f_X12_inside_J79 x2 I17 (f_X12_inside_L2 x1 n2))))
    else
    f_X12_inside_J79 x2 I1 (f_X12_inside_L2 x1 n2))))))))
def f_X12_inside (x1 : Int32) (I : nm_I) : Option (nm_I) :=
nm_s1 (f_X12_inside_L2 x1 nm_F (0 : Int32) I) fun I19 =>
some I19
set_option maxHeartbeats 4000000 in
set_option maxRecDepth 100000 in
theorem k_X12_inside {l : Launch} {D : va_G} {Y : nm_Y} {s0 : Nat} {X : va_W} {ad : Nat → Nat}  {x1 : Int32} {I : nm_I} {M0 : nm_I} (hf : f_X12_inside x1 I = some M0) :
    nm_Met l yX12_inside cX12_inside 3 none { frames := 2, cells := 0, slots := 0, locals := 52 } [.ref (ad 0), .int x1] D Y s0 (nm_W Y X moN ad (I, nJ0, moZ)) (nm_Qv D s0 (nm_W Y X moN ad (M0, nJ0, moZ))) 0 0 := by
  refine nm_of (by decide) (Nat.le_of_ble_eq_true rfl) ?_
  intro p e R s m args below meth c Q ls hx hb hr hlocks hml hown hts hs0 hK hZ hRf hRl hRc hRs hQ hP hD hl
  have hH : nm_H D Y (fun q => s0 ≤ q) s.heap X moN ad (I, nJ0, moZ) s.heap [] := ⟨hP, hD, va_S.rf⟩
  have hl : lv_has ls 3 [(0, .ref (ad 0)), (1, .int x1)] := hl
  unfold f_X12_inside at hf
  refine lv_iconst (v := 0) hx hb dX12_inside_0 (by decide) ?_
  refine lv_istore_n (lv' := [(2, .int (0 : Int32)), (0, .ref (ad 0)), (1, .int x1)]) hx hb dX12_inside_1 rfl hl (by decide) rfl (fun ls hl => ?_)
  have hL2 : ∀ (n2 : Nat) (x2 : Int32) (I1 : nm_I) (H : Heap) (locs : List Loc) (ls : Array Slot) (o2 : nm_I), nm_H D Y (fun q => s0 ≤ q) s.heap X moN ad (I1, nJ0, moZ) H locs → lv_has ls 3 [(0, .ref (ad 0)), (1, .int x1), (2, .int x2)] → f_X12_inside_L2 x1 n2 x2 I1 = some o2 → (∀ (H : Heap) (locs : List Loc) (ls : Array Slot), nm_H D Y (fun q => s0 ≤ q) s.heap X moN ad (o2, nJ0, moZ) H locs → lv_has ls 3 [] → W p l e R s m args below meth c H locs 0 0 Q (F0 m 85 ls [])) → W p l e R s m args below meth c H locs 0 0 Q (F0 m 2 ls []) := by
    intro n2
    induction n2 with
    | zero =>
      intro x2 I1 H locs ls o2 hH hl hf hX2
      cases hf
    | succ n2 ih2 =>
      intro x2 I1 H locs ls o2 hH hl hf hX2
      rw [f_X12_inside_L2] at hf
      refine lv_iload_n hx hb dX12_inside_2 rfl (lv_at hl 2 rfl) ?_
      refine lv_sipush (v := 4096) hx hb dX12_inside_3 (by decide) ?_
      refine lv_icmp_ge (tgt := 85) hx hb dX12_inside_6 (by decide) (fun c2 => ?_) (fun c2 => ?_)
      · have hf := nm_it c2 hf
        cases hf
        exact hX2 _ _ _ hH (lv_sub hl [] rfl)
      · have hf := nm_ie c2 hf
        refine lv_aload_n hx hb dX12_inside_9 rfl (lv_at hl 0 rfl) ?_
        refine gf_12_19 hK hx hb hts hown hH mo_n0 mo_k0 (hts _ tw_975) (fun _ h9 => h9) dX12_inside_10 ?_
        refine lv_sipush (v := 4096) hx hb dX12_inside_13 (by decide) ?_
        refine lv_aload_n hx hb dX12_inside_16 rfl (lv_at hl 0 rfl) ?_
        refine gf_12_36 hK hx hb hts hown hH mo_n0 mo_k0 (hts _ tw_992) (fun _ h9 => h9) dX12_inside_17 ?_
        refine lv_iload_n hx hb dX12_inside_20 rfl (lv_at hl 1 rfl) ?_
        obtain ⟨hi3, hf⟩ := nm_chk hf
        refine nm_iald hx hb hK hH mo_n37 mo_k37 mo_l37 hi3 dX12_inside_21 ?_
        refine lv_imul hx hb dX12_inside_22 ?_
        refine lv_iload_n hx hb dX12_inside_23 rfl (lv_at hl 2 rfl) ?_
        refine lv_iadd hx hb dX12_inside_24 ?_
        obtain ⟨hi4, hf⟩ := nm_chk hf
        refine nm_zald hx hb hK hH mo_n20 mo_k20 mo_l20 hi4 dX12_inside_25 ?_
        have hJ79 : ∀ (I5 : nm_I) (H : Heap) (locs : List Loc) (ls : Array Slot), nm_H D Y (fun q => s0 ≤ q) s.heap X moN ad (I5, nJ0, moZ) H locs → lv_has ls 3 [(0, .ref (ad 0)), (1, .int x1), (2, .int x2)] → f_X12_inside_J79 x2 I5 (f_X12_inside_L2 x1 n2) = some o2 → W p l e R s m args below meth c H locs 0 0 Q (F0 m 79 ls []) := by
          intro I5 H locs ls hH hl hf
          unfold f_X12_inside_J79 at hf
          refine lv_iinc (v := x2 + 1) (lv' := [(2, .int (x2 + 1)), (0, .ref (ad 0)), (1, .int x1)]) hx hb dX12_inside_79 hl (k := 2) rfl rfl (by decide) rfl (fun ls hl => ?_)
          refine lv_goto (tgt := 2) hx hb dX12_inside_82 (by decide) ?_
          exact ih2 (x2 + 1) I5 _ _ _ _ hH (lv_sub hl [1, 2, 0] rfl) hf hX2
        refine lv_if_eq (tgt := 79) hx hb dX12_inside_26 (by decide) (fun c6 => ?_) (fun c6 => ?_)
        · have hf := nm_it c6 hf
          exact hJ79  I1 _ _ _ hH (lv_sub hl [0, 1, 2] rfl) hf
        · have hf := nm_ie c6 hf
          refine lv_aload_n hx hb dX12_inside_29 rfl (lv_at hl 0 rfl) ?_
          refine lv_aload_n hx hb dX12_inside_30 rfl (lv_at hl 0 rfl) ?_
          refine gf_12_37 hK hx hb hts hown hH mo_n0 mo_k0 (hts _ tw_993) (fun _ h9 => h9) dX12_inside_31 ?_
          refine lv_iload_n hx hb dX12_inside_34 rfl (lv_at hl 1 rfl) ?_
          obtain ⟨hi7, hf⟩ := nm_chk hf
          refine nm_iald hx hb hK hH mo_n38 mo_k38 mo_l38 hi7 dX12_inside_35 ?_
          refine lv_iload_n hx hb dX12_inside_36 rfl (lv_at hl 2 rfl) ?_
          refine lv_aload_n hx hb dX12_inside_37 rfl (lv_at hl 0 rfl) ?_
          refine gf_12_38 hK hx hb hts hown hH mo_n0 mo_k0 (hts _ tw_994) (fun _ h9 => h9) dX12_inside_38 ?_
          refine lv_iload_n hx hb dX12_inside_41 rfl (lv_at hl 1 rfl) ?_
          obtain ⟨hi8, hf⟩ := nm_chk hf
          refine nm_iald hx hb hK hH mo_n39 mo_k39 mo_l39 hi8 dX12_inside_42 ?_
          refine lv_iconst (v := 1) hx hb dX12_inside_43 (by decide) ?_
          obtain ⟨r9, hc10, hf⟩ := nm_sd1 hf
          refine nm_calli (nm_runV (X := X) (nl := moN) (k_X12_around (hf := hc10)) hx hb hml hown hts hs0 hK hZ hH tw_1326 tw_1323 tw_1325 (sw_X12_around) tw_9 hd_X12_around mo_n0 mo_k0 (by decide) rfl rfl rfl ⟨Nat.le_trans (Nat.le_of_ble_eq_true rfl) hRf, Nat.le_trans (Nat.le_of_ble_eq_true rfl) hRl⟩ rfl hl.1 rfl (Nat.le_of_ble_eq_true rfl) dX12_inside_44 ⟨Nat.zero_le _, Nat.zero_le _⟩) hH (fun H locs hH => ?_)
          have hH : nm_H D Y (fun q => s0 ≤ q) s.heap X moN ad (I1, nJ0, moZ) H locs := hH
          refine lv_if_ne (tgt := 79) hx hb dX12_inside_47 (by decide) (fun c11 => ?_) (fun c11 => ?_)
          · have hf := nm_ie c11 hf
            exact hJ79  I1 _ _ _ hH (lv_sub hl [0, 1, 2] rfl) hf
          · have hf := nm_it c11 hf
            refine lv_aload_n hx hb dX12_inside_50 rfl (lv_at hl 0 rfl) ?_
            refine lv_iload_n hx hb dX12_inside_51 rfl (lv_at hl 1 rfl) ?_
            refine lv_iload_n hx hb dX12_inside_52 rfl (lv_at hl 2 rfl) ?_
            refine lv_aload_n hx hb dX12_inside_53 rfl (lv_at hl 0 rfl) ?_
            refine lv_aload_n hx hb dX12_inside_54 rfl (lv_at hl 0 rfl) ?_
            refine gf_12_37 hK hx hb hts hown hH mo_n0 mo_k0 (hts _ tw_993) (fun _ h9 => h9) dX12_inside_55 ?_
            refine lv_iload_n hx hb dX12_inside_58 rfl (lv_at hl 1 rfl) ?_
            obtain ⟨hi12, hf⟩ := nm_chk hf
            refine nm_iald hx hb hK hH mo_n38 mo_k38 mo_l38 hi12 dX12_inside_59 ?_
            refine lv_iload_n hx hb dX12_inside_60 rfl (lv_at hl 2 rfl) ?_
            refine lv_aload_n hx hb dX12_inside_61 rfl (lv_at hl 0 rfl) ?_
            refine gf_12_38 hK hx hb hts hown hH mo_n0 mo_k0 (hts _ tw_994) (fun _ h9 => h9) dX12_inside_62 ?_
            refine lv_iload_n hx hb dX12_inside_65 rfl (lv_at hl 1 rfl) ?_
            obtain ⟨hi13, hf⟩ := nm_chk hf
            refine nm_iald hx hb hK hH mo_n39 mo_k39 mo_l39 hi13 dX12_inside_66 ?_
            obtain ⟨r14, hc15, hf⟩ := nm_sd1 hf
            refine nm_calli (nm_runV (X := X) (nl := moN) (k_X12_lacking (hf := hc15)) hx hb hml hown hts hs0 hK hZ hH tw_1374 tw_1371 tw_1373 (sw_X12_lacking) tw_9 hd_X12_lacking mo_n0 mo_k0 (by decide) rfl rfl rfl ⟨Nat.le_trans (Nat.le_of_ble_eq_true rfl) hRf, Nat.le_trans (Nat.le_of_ble_eq_true rfl) hRl⟩ rfl hl.1 rfl (Nat.le_of_ble_eq_true rfl) dX12_inside_67 ⟨Nat.zero_le _, Nat.zero_le _⟩) hH (fun H locs hH => ?_)
            have hH : nm_H D Y (fun q => s0 ≤ q) s.heap X moN ad (I1, nJ0, moZ) H locs := hH
            refine lv_aload_n hx hb dX12_inside_70 rfl (lv_at hl 0 rfl) ?_
            refine gf_12_38 hK hx hb hts hown hH mo_n0 mo_k0 (hts _ tw_994) (fun _ h9 => h9) dX12_inside_71 ?_
            refine lv_iload_n hx hb dX12_inside_74 rfl (lv_at hl 1 rfl) ?_
            obtain ⟨hi16, hf⟩ := nm_chk hf
            refine nm_iald hx hb hK hH mo_n39 mo_k39 mo_l39 hi16 dX12_inside_75 ?_
            obtain ⟨I17, hc18, hf⟩ := nm_sd1 hf
            refine nm_callv (nm_runV (X := X) (nl := moN) (k_X12_fault (hf := hc18)) hx hb hml hown hts hs0 hK hZ hH tw_1366 tw_1363 tw_1365 (sw_X12_fault) tw_9 hd_X12_fault mo_n0 mo_k0 (by decide) rfl rfl rfl ⟨Nat.le_trans (Nat.le_of_ble_eq_true rfl) hRf, Nat.le_trans (Nat.le_of_ble_eq_true rfl) hRl⟩ rfl hl.1 rfl (Nat.le_of_ble_eq_true rfl) dX12_inside_76 ⟨Nat.zero_le _, Nat.zero_le _⟩) hH (fun H locs hH => ?_)
            have hH : nm_H D Y (fun q => s0 ≤ q) s.heap X moN ad (I17, nJ0, moZ) H locs := hH
            exact hJ79  I17 _ _ _ hH (lv_sub hl [0, 1, 2] rfl) hf
  obtain ⟨I19, hl20, hf⟩ := nm_sd1 hf
  refine hL2 nm_F (0 : Int32) I _ _ _ _ hH (lv_sub hl [1, 2, 0] rfl) hl20 (fun H locs ls hH hl => ?_)
  have hl : lv_has ls 3 [] := hl
  have hH : nm_H D Y (fun q => s0 ≤ q) s.heap X moN ad (I19, nJ0, moZ) H locs := hH
  exact nm_vret hx hb hr hlocks hQ hH (congrArg (fun q => (q, nJ0, moZ)) (Option.some.inj hf)) dX12_inside_85
def f_X12_shares_J81 (x5 : Int32) (t81_1 : Int32) (t81_0 : Int32) (I1 : nm_I) (k : Int32 → Int32 → Option (Int32)) : Option (Int32) :=
nm_l (t81_0 + t81_1) fun v7 =>
k v7 (x5 + 1)
def f_X12_shares_L31 (x1 : Int32) (v3 : Int32) (I1 : nm_I) : Nat → Int32 → Int32 → Option (Int32)
  | 0, _, _ => none
  | n31 + 1, x4, x5 =>
    (if (256 : Int32) ≤ x5 then
    some x4
    else
    nm_c x1 16 (
    nm_c (((((4096 : Int32) * (I1 37 x1.toNatClampNeg)) + v3) + ((x5 / (16 : Int32)) * (64 : Int32))) + (x5 - x5 / (16 : Int32) * (16 : Int32))) 65536 (
    (if (I1 20 (((((4096 : Int32) * (I1 37 x1.toNatClampNeg)) + v3) + ((x5 / (16 : Int32)) * (64 : Int32))) + (x5 - x5 / (16 : Int32) * (16 : Int32))).toNatClampNeg) = 0 then
    f_X12_shares_J81 x5 (0 : Int32) x4 I1 (f_X12_shares_L31 x1 v3 I1 n31)
    else
    f_X12_shares_J81 x5 (1 : Int32) x4 I1 (f_X12_shares_L31 x1 v3 I1 n31)))))
def f_X12_shares_J117 (x2 : Int32) (I11 : nm_I) (k : Int32 → nm_I → Option (nm_I)) : Option (nm_I) :=
k (x2 + 1) I11
def f_X12_shares_L2 (x1 : Int32) : Nat → Int32 → nm_I → Option (nm_I)
  | 0, _, _ => none
  | n2 + 1, x2, I1 =>
    (if (16 : Int32) ≤ x2 then
    some I1
    else
    nm_l ((((x2 / (4 : Int32)) * (16 : Int32)) * (64 : Int32)) + ((x2 - x2 / (4 : Int32) * (4 : Int32)) * (16 : Int32))) fun v3 =>
    nm_s1 (f_X12_shares_L31 x1 v3 I1 nm_F (0 : Int32) (0 : Int32)) fun y9 =>
    nm_c x1 16 (
    (if (I1 39 x1.toNatClampNeg) ≤ y9 then
    f_X12_shares_J117 x2 I1 (f_X12_shares_L2 x1 n2)
    else
    nm_s1 (f_X12_fault x1 v3 ((v3 + (960 : Int32)) + (15 : Int32)) y9 I1) fun I13 =>
    f_X12_shares_J117 x2 I13 (f_X12_shares_L2 x1 n2))))
def f_X12_shares (x1 : Int32) (I : nm_I) : Option (nm_I) :=
nm_s1 (f_X12_shares_L2 x1 nm_F (0 : Int32) I) fun I16 =>
some I16
set_option maxHeartbeats 4000000 in
set_option maxRecDepth 100000 in
theorem k_X12_shares {l : Launch} {D : va_G} {Y : nm_Y} {s0 : Nat} {X : va_W} {ad : Nat → Nat}  {x1 : Int32} {I : nm_I} {M0 : nm_I} (hf : f_X12_shares x1 I = some M0) :
    nm_Met l yX12_shares cX12_shares 6 none { frames := 1, cells := 0, slots := 0, locals := 24 } [.ref (ad 0), .int x1] D Y s0 (nm_W Y X moN ad (I, nJ0, moZ)) (nm_Qv D s0 (nm_W Y X moN ad (M0, nJ0, moZ))) 0 0 := by
  refine nm_of (by decide) (Nat.le_of_ble_eq_true rfl) ?_
  intro p e R s m args below meth c Q ls hx hb hr hlocks hml hown hts hs0 hK hZ hRf hRl hRc hRs hQ hP hD hl
  have hH : nm_H D Y (fun q => s0 ≤ q) s.heap X moN ad (I, nJ0, moZ) s.heap [] := ⟨hP, hD, va_S.rf⟩
  have hl : lv_has ls 6 [(0, .ref (ad 0)), (1, .int x1)] := hl
  unfold f_X12_shares at hf
  refine lv_iconst (v := 0) hx hb dX12_shares_0 (by decide) ?_
  refine lv_istore_n (lv' := [(2, .int (0 : Int32)), (0, .ref (ad 0)), (1, .int x1)]) hx hb dX12_shares_1 rfl hl (by decide) rfl (fun ls hl => ?_)
  have hL2 : ∀ (n2 : Nat) (x2 : Int32) (I1 : nm_I) (H : Heap) (locs : List Loc) (ls : Array Slot) (o2 : nm_I), nm_H D Y (fun q => s0 ≤ q) s.heap X moN ad (I1, nJ0, moZ) H locs → lv_has ls 6 [(0, .ref (ad 0)), (1, .int x1), (2, .int x2)] → f_X12_shares_L2 x1 n2 x2 I1 = some o2 → (∀ (H : Heap) (locs : List Loc) (ls : Array Slot), nm_H D Y (fun q => s0 ≤ q) s.heap X moN ad (o2, nJ0, moZ) H locs → lv_has ls 6 [] → W p l e R s m args below meth c H locs 0 0 Q (F0 m 123 ls [])) → W p l e R s m args below meth c H locs 0 0 Q (F0 m 2 ls []) := by
    intro n2
    induction n2 with
    | zero =>
      intro x2 I1 H locs ls o2 hH hl hf hX2
      cases hf
    | succ n2 ih2 =>
      intro x2 I1 H locs ls o2 hH hl hf hX2
      rw [f_X12_shares_L2] at hf
      refine lv_iload_n hx hb dX12_shares_2 rfl (lv_at hl 2 rfl) ?_
      refine lv_bipush (v := 16) hx hb dX12_shares_3 (by decide) ?_
      refine lv_icmp_ge (tgt := 123) hx hb dX12_shares_5 (by decide) (fun c2 => ?_) (fun c2 => ?_)
      · have hf := nm_it c2 hf
        cases hf
        exact hX2 _ _ _ hH (lv_sub hl [] rfl)
      · have hf := nm_ie c2 hf
        refine lv_iload_n hx hb dX12_shares_8 rfl (lv_at hl 2 rfl) ?_
        refine lv_iconst (v := 4) hx hb dX12_shares_9 (by decide) ?_
        refine lv_idiv hx hb dX12_shares_10 (by decide) ?_
        refine lv_bipush (v := 16) hx hb dX12_shares_11 (by decide) ?_
        refine lv_imul hx hb dX12_shares_13 ?_
        refine lv_bipush (v := 64) hx hb dX12_shares_14 (by decide) ?_
        refine lv_imul hx hb dX12_shares_16 ?_
        refine lv_iload_n hx hb dX12_shares_17 rfl (lv_at hl 2 rfl) ?_
        refine lv_iconst (v := 4) hx hb dX12_shares_18 (by decide) ?_
        refine lv_irem hx hb dX12_shares_19 (by decide) ?_
        refine lv_bipush (v := 16) hx hb dX12_shares_20 (by decide) ?_
        refine lv_imul hx hb dX12_shares_22 ?_
        refine lv_iadd hx hb dX12_shares_23 ?_
        obtain ⟨v3, ev3, hf⟩ := nm_let hf
        refine nm_topi ev3 ?_
        refine lv_istore_n (lv' := [(3, .int v3), (0, .ref (ad 0)), (1, .int x1), (2, .int x2)]) hx hb dX12_shares_24 rfl hl (by decide) rfl (fun ls hl => ?_)
        refine lv_iconst (v := 0) hx hb dX12_shares_25 (by decide) ?_
        refine lv_istore (lv' := [(4, .int (0 : Int32)), (3, .int v3), (0, .ref (ad 0)), (1, .int x1), (2, .int x2)]) hx hb dX12_shares_26 hl (by decide) rfl (fun ls hl => ?_)
        refine lv_iconst (v := 0) hx hb dX12_shares_28 (by decide) ?_
        refine lv_istore (lv' := [(5, .int (0 : Int32)), (4, .int (0 : Int32)), (3, .int v3), (0, .ref (ad 0)), (1, .int x1), (2, .int x2)]) hx hb dX12_shares_29 hl (by decide) rfl (fun ls hl => ?_)
        have hL31 : ∀ (n31 : Nat) (x4 : Int32) (x5 : Int32) (H : Heap) (locs : List Loc) (ls : Array Slot) (o31 : Int32), nm_H D Y (fun q => s0 ≤ q) s.heap X moN ad (I1, nJ0, moZ) H locs → lv_has ls 6 [(0, .ref (ad 0)), (1, .int x1), (2, .int x2), (3, .int v3), (4, .int x4), (5, .int x5)] → f_X12_shares_L31 x1 v3 I1 n31 x4 x5 = some o31 → (∀ (H : Heap) (locs : List Loc) (ls : Array Slot), nm_H D Y (fun q => s0 ≤ q) s.heap X moN ad (I1, nJ0, moZ) H locs → lv_has ls 6 [(0, .ref (ad 0)), (1, .int x1), (2, .int x2), (3, .int v3), (4, .int o31)] → W p l e R s m args below meth c H locs 0 0 Q (F0 m 90 ls [])) → W p l e R s m args below meth c H locs 0 0 Q (F0 m 31 ls []) := by
          intro n31
          induction n31 with
          | zero =>
            intro x4 x5 H locs ls o31 hH hl hf hX31
            cases hf
          | succ n31 ih31 =>
            intro x4 x5 H locs ls o31 hH hl hf hX31
            rw [f_X12_shares_L31] at hf
            refine lv_iload hx hb dX12_shares_31 (lv_at hl 5 rfl) ?_
            refine lv_sipush (v := 256) hx hb dX12_shares_33 (by decide) ?_
            refine lv_icmp_ge (tgt := 90) hx hb dX12_shares_36 (by decide) (fun c4 => ?_) (fun c4 => ?_)
            · have hf := nm_it c4 hf
              cases hf
              exact hX31 _ _ _ hH (lv_sub hl [0, 1, 2, 3, 4] rfl)
            · have hf := nm_ie c4 hf
              refine lv_iload hx hb dX12_shares_39 (lv_at hl 4 rfl) ?_
              refine lv_aload_n hx hb dX12_shares_41 rfl (lv_at hl 0 rfl) ?_
              refine gf_12_19 hK hx hb hts hown hH mo_n0 mo_k0 (hts _ tw_975) (fun _ h9 => h9) dX12_shares_42 ?_
              refine lv_sipush (v := 4096) hx hb dX12_shares_45 (by decide) ?_
              refine lv_aload_n hx hb dX12_shares_48 rfl (lv_at hl 0 rfl) ?_
              refine gf_12_36 hK hx hb hts hown hH mo_n0 mo_k0 (hts _ tw_992) (fun _ h9 => h9) dX12_shares_49 ?_
              refine lv_iload_n hx hb dX12_shares_52 rfl (lv_at hl 1 rfl) ?_
              obtain ⟨hi5, hf⟩ := nm_chk hf
              refine nm_iald hx hb hK hH mo_n37 mo_k37 mo_l37 hi5 dX12_shares_53 ?_
              refine lv_imul hx hb dX12_shares_54 ?_
              refine lv_iload_n hx hb dX12_shares_55 rfl (lv_at hl 3 rfl) ?_
              refine lv_iadd hx hb dX12_shares_56 ?_
              refine lv_iload hx hb dX12_shares_57 (lv_at hl 5 rfl) ?_
              refine lv_bipush (v := 16) hx hb dX12_shares_59 (by decide) ?_
              refine lv_idiv hx hb dX12_shares_61 (by decide) ?_
              refine lv_bipush (v := 64) hx hb dX12_shares_62 (by decide) ?_
              refine lv_imul hx hb dX12_shares_64 ?_
              refine lv_iadd hx hb dX12_shares_65 ?_
              refine lv_iload hx hb dX12_shares_66 (lv_at hl 5 rfl) ?_
              refine lv_bipush (v := 16) hx hb dX12_shares_68 (by decide) ?_
              refine lv_irem hx hb dX12_shares_70 (by decide) ?_
              refine lv_iadd hx hb dX12_shares_71 ?_
              obtain ⟨hi6, hf⟩ := nm_chk hf
              refine nm_zald hx hb hK hH mo_n20 mo_k20 mo_l20 hi6 dX12_shares_72 ?_
              have hJ81 : ∀ (t81_1 : Int32) (t81_0 : Int32) (H : Heap) (locs : List Loc) (ls : Array Slot), nm_H D Y (fun q => s0 ≤ q) s.heap X moN ad (I1, nJ0, moZ) H locs → lv_has ls 6 [(0, .ref (ad 0)), (1, .int x1), (2, .int x2), (3, .int v3), (5, .int x5)] → f_X12_shares_J81 x5 t81_1 t81_0 I1 (f_X12_shares_L31 x1 v3 I1 n31) = some o31 → W p l e R s m args below meth c H locs 0 0 Q (F0 m 81 ls [.int t81_1, .int t81_0]) := by
                intro t81_1 t81_0 H locs ls hH hl hf
                unfold f_X12_shares_J81 at hf
                refine lv_iadd hx hb dX12_shares_81 ?_
                obtain ⟨v7, ev7, hf⟩ := nm_let hf
                refine nm_topi ev7 ?_
                refine lv_istore (lv' := [(4, .int v7), (0, .ref (ad 0)), (1, .int x1), (2, .int x2), (3, .int v3), (5, .int x5)]) hx hb dX12_shares_82 hl (by decide) rfl (fun ls hl => ?_)
                refine lv_iinc (v := x5 + 1) (lv' := [(5, .int (x5 + 1)), (4, .int v7), (0, .ref (ad 0)), (1, .int x1), (2, .int x2), (3, .int v3)]) hx hb dX12_shares_84 hl (k := 5) rfl rfl (by decide) rfl (fun ls hl => ?_)
                refine lv_goto (tgt := 31) hx hb dX12_shares_87 (by decide) ?_
                exact ih31 v7 (x5 + 1) _ _ _ _ hH (lv_sub hl [2, 3, 4, 5, 1, 0] rfl) hf hX31
              refine lv_if_eq (tgt := 80) hx hb dX12_shares_73 (by decide) (fun c8 => ?_) (fun c8 => ?_)
              · have hf := nm_it c8 hf
                refine lv_iconst (v := 0) hx hb dX12_shares_80 (by decide) ?_
                exact hJ81 (0 : Int32) x4 _ _ _ hH (lv_sub hl [0, 1, 2, 3, 5] rfl) hf
              · have hf := nm_ie c8 hf
                refine lv_iconst (v := 1) hx hb dX12_shares_76 (by decide) ?_
                refine lv_goto (tgt := 81) hx hb dX12_shares_77 (by decide) ?_
                exact hJ81 (1 : Int32) x4 _ _ _ hH (lv_sub hl [0, 1, 2, 3, 5] rfl) hf
        obtain ⟨y9, hl15, hf⟩ := nm_sd1 hf
        refine hL31 nm_F (0 : Int32) (0 : Int32) _ _ _ _ hH (lv_sub hl [3, 4, 5, 2, 1, 0] rfl) hl15 (fun H locs ls hH hl => ?_)
        have hl : lv_has ls 6 [(0, .ref (ad 0)), (1, .int x1), (2, .int x2), (3, .int v3), (4, .int y9)] := hl
        have hH : nm_H D Y (fun q => s0 ≤ q) s.heap X moN ad (I1, nJ0, moZ) H locs := hH
        refine lv_iload hx hb dX12_shares_90 (lv_at hl 4 rfl) ?_
        refine lv_aload_n hx hb dX12_shares_92 rfl (lv_at hl 0 rfl) ?_
        refine gf_12_38 hK hx hb hts hown hH mo_n0 mo_k0 (hts _ tw_994) (fun _ h9 => h9) dX12_shares_93 ?_
        refine lv_iload_n hx hb dX12_shares_96 rfl (lv_at hl 1 rfl) ?_
        obtain ⟨hi10, hf⟩ := nm_chk hf
        refine nm_iald hx hb hK hH mo_n39 mo_k39 mo_l39 hi10 dX12_shares_97 ?_
        have hJ117 : ∀ (I11 : nm_I) (H : Heap) (locs : List Loc) (ls : Array Slot), nm_H D Y (fun q => s0 ≤ q) s.heap X moN ad (I11, nJ0, moZ) H locs → lv_has ls 6 [(0, .ref (ad 0)), (1, .int x1), (2, .int x2)] → f_X12_shares_J117 x2 I11 (f_X12_shares_L2 x1 n2) = some o2 → W p l e R s m args below meth c H locs 0 0 Q (F0 m 117 ls []) := by
          intro I11 H locs ls hH hl hf
          unfold f_X12_shares_J117 at hf
          refine lv_iinc (v := x2 + 1) (lv' := [(2, .int (x2 + 1)), (0, .ref (ad 0)), (1, .int x1)]) hx hb dX12_shares_117 hl (k := 2) rfl rfl (by decide) rfl (fun ls hl => ?_)
          refine lv_goto (tgt := 2) hx hb dX12_shares_120 (by decide) ?_
          exact ih2 (x2 + 1) I11 _ _ _ _ hH (lv_sub hl [1, 2, 0] rfl) hf hX2
        refine lv_icmp_ge (tgt := 117) hx hb dX12_shares_98 (by decide) (fun c12 => ?_) (fun c12 => ?_)
        · have hf := nm_it c12 hf
          exact hJ117  I1 _ _ _ hH (lv_sub hl [0, 1, 2] rfl) hf
        · have hf := nm_ie c12 hf
          refine lv_aload_n hx hb dX12_shares_101 rfl (lv_at hl 0 rfl) ?_
          refine lv_iload_n hx hb dX12_shares_102 rfl (lv_at hl 1 rfl) ?_
          refine lv_iload_n hx hb dX12_shares_103 rfl (lv_at hl 3 rfl) ?_
          refine lv_iload_n hx hb dX12_shares_104 rfl (lv_at hl 3 rfl) ?_
          refine lv_sipush (v := 960) hx hb dX12_shares_105 (by decide) ?_
          refine lv_iadd hx hb dX12_shares_108 ?_
          refine lv_bipush (v := 15) hx hb dX12_shares_109 (by decide) ?_
          refine lv_iadd hx hb dX12_shares_111 ?_
          refine lv_iload hx hb dX12_shares_112 (lv_at hl 4 rfl) ?_
          obtain ⟨I13, hc14, hf⟩ := nm_sd1 hf
          refine nm_callv (nm_runV (X := X) (nl := moN) (k_X12_fault (hf := hc14)) hx hb hml hown hts hs0 hK hZ hH tw_1366 tw_1363 tw_1365 (sw_X12_fault) tw_9 hd_X12_fault mo_n0 mo_k0 (by decide) rfl rfl rfl ⟨Nat.le_trans (Nat.le_of_ble_eq_true rfl) hRf, Nat.le_trans (Nat.le_of_ble_eq_true rfl) hRl⟩ rfl hl.1 rfl (Nat.le_of_ble_eq_true rfl) dX12_shares_114 ⟨Nat.zero_le _, Nat.zero_le _⟩) hH (fun H locs hH => ?_)
          have hH : nm_H D Y (fun q => s0 ≤ q) s.heap X moN ad (I13, nJ0, moZ) H locs := hH
          exact hJ117  I13 _ _ _ hH (lv_sub hl [0, 1, 2] rfl) hf
  obtain ⟨I16, hl17, hf⟩ := nm_sd1 hf
  refine hL2 nm_F (0 : Int32) I _ _ _ _ hH (lv_sub hl [1, 2, 0] rfl) hl17 (fun H locs ls hH hl => ?_)
  have hl : lv_has ls 6 [] := hl
  have hH : nm_H D Y (fun q => s0 ≤ q) s.heap X moN ad (I16, nJ0, moZ) H locs := hH
  exact nm_vret hx hb hr hlocks hQ hH (congrArg (fun q => (q, nJ0, moZ)) (Option.some.inj hf)) dX12_shares_123
def f_X12_areas_J68 (x2 : Int32) (I9 : nm_I) (k : Int32 → nm_I → Option (nm_I)) : Option (nm_I) :=
k (x2 + 1) I9
def f_X12_areas_L22 (x1 : Int32) : Nat → Int32 → nm_I → Option (nm_I)
  | 0, _, _ => none
  | n22 + 1, x2, I5 =>
    (if (I5 0 33) ≤ x2 then
    some I5
    else
    nm_c x2 4096 (
    nm_c x1 16 (
    (if (I5 39 x1.toNatClampNeg) ≤ (I5 29 x2.toNatClampNeg) then
    f_X12_areas_J68 x2 I5 (f_X12_areas_L22 x1 n22)
    else
    nm_c x2 4096 (
    nm_c x2 4096 (
    nm_c x2 4096 (
    nm_s1 (f_X12_fault x1 (I5 31 x2.toNatClampNeg) (I5 30 x2.toNatClampNeg) (I5 29 x2.toNatClampNeg) I5) fun I14 =>
    f_X12_areas_J68 x2 I14 (f_X12_areas_L22 x1 n22))))))))
def f_X12_areas (x1 : Int32) (I : nm_I) : Option (nm_I) :=
nm_c x1 16 (
nm_c x1 16 (
nm_s1 (f_X12_findPieces ((4096 : Int32) * (I 37 x1.toNatClampNeg)) (I 37 x1.toNatClampNeg) I) fun I3 =>
nm_s1 (f_X12_areas_L22 x1 nm_F (0 : Int32) I3) fun I16 =>
some I16))
set_option maxHeartbeats 4000000 in
set_option maxRecDepth 100000 in
theorem k_X12_areas {l : Launch} {D : va_G} {Y : nm_Y} {s0 : Nat} {X : va_W} {ad : Nat → Nat}  {x1 : Int32} {I : nm_I} {M0 : nm_I} (hf : f_X12_areas x1 I = some M0) :
    nm_Met l yX12_areas cX12_areas 3 none { frames := 2, cells := 0, slots := 0, locals := 50 } [.ref (ad 0), .int x1] D Y s0 (nm_W Y X moN ad (I, nJ0, moZ)) (nm_Qv D s0 (nm_W Y X moN ad (M0, nJ0, moZ))) 0 0 := by
  refine nm_of (by decide) (Nat.le_of_ble_eq_true rfl) ?_
  intro p e R s m args below meth c Q ls hx hb hr hlocks hml hown hts hs0 hK hZ hRf hRl hRc hRs hQ hP hD hl
  have hH : nm_H D Y (fun q => s0 ≤ q) s.heap X moN ad (I, nJ0, moZ) s.heap [] := ⟨hP, hD, va_S.rf⟩
  have hl : lv_has ls 3 [(0, .ref (ad 0)), (1, .int x1)] := hl
  unfold f_X12_areas at hf
  refine lv_aload_n hx hb dX12_areas_0 rfl (lv_at hl 0 rfl) ?_
  refine lv_sipush (v := 4096) hx hb dX12_areas_1 (by decide) ?_
  refine lv_aload_n hx hb dX12_areas_4 rfl (lv_at hl 0 rfl) ?_
  refine gf_12_36 hK hx hb hts hown hH mo_n0 mo_k0 (hts _ tw_992) (fun _ h9 => h9) dX12_areas_5 ?_
  refine lv_iload_n hx hb dX12_areas_8 rfl (lv_at hl 1 rfl) ?_
  obtain ⟨hi1, hf⟩ := nm_chk hf
  refine nm_iald hx hb hK hH mo_n37 mo_k37 mo_l37 hi1 dX12_areas_9 ?_
  refine lv_imul hx hb dX12_areas_10 ?_
  refine lv_aload_n hx hb dX12_areas_11 rfl (lv_at hl 0 rfl) ?_
  refine gf_12_36 hK hx hb hts hown hH mo_n0 mo_k0 (hts _ tw_992) (fun _ h9 => h9) dX12_areas_12 ?_
  refine lv_iload_n hx hb dX12_areas_15 rfl (lv_at hl 1 rfl) ?_
  obtain ⟨hi2, hf⟩ := nm_chk hf
  refine nm_iald hx hb hK hH mo_n37 mo_k37 mo_l37 hi2 dX12_areas_16 ?_
  obtain ⟨I3, hc4, hf⟩ := nm_sd1 hf
  refine nm_callv (nm_runV (X := X) (nl := moN) (k_X12_findPieces (hf := hc4)) hx hb hml hown hts hs0 hK hZ hH tw_1318 tw_1315 tw_1317 (sw_X12_findPieces) tw_9 hd_X12_findPieces mo_n0 mo_k0 (by decide) rfl rfl rfl ⟨Nat.le_trans (Nat.le_of_ble_eq_true rfl) hRf, Nat.le_trans (Nat.le_of_ble_eq_true rfl) hRl⟩ rfl hl.1 rfl (Nat.le_of_ble_eq_true rfl) dX12_areas_17 ⟨Nat.zero_le _, Nat.zero_le _⟩) hH (fun H locs hH => ?_)
  have hH : nm_H D Y (fun q => s0 ≤ q) s.heap X moN ad (I3, nJ0, moZ) H locs := hH
  refine lv_iconst (v := 0) hx hb dX12_areas_20 (by decide) ?_
  refine lv_istore_n (lv' := [(2, .int (0 : Int32)), (0, .ref (ad 0)), (1, .int x1)]) hx hb dX12_areas_21 rfl hl (by decide) rfl (fun ls hl => ?_)
  have hL22 : ∀ (n22 : Nat) (x2 : Int32) (I5 : nm_I) (H : Heap) (locs : List Loc) (ls : Array Slot) (o22 : nm_I), nm_H D Y (fun q => s0 ≤ q) s.heap X moN ad (I5, nJ0, moZ) H locs → lv_has ls 3 [(0, .ref (ad 0)), (1, .int x1), (2, .int x2)] → f_X12_areas_L22 x1 n22 x2 I5 = some o22 → (∀ (H : Heap) (locs : List Loc) (ls : Array Slot), nm_H D Y (fun q => s0 ≤ q) s.heap X moN ad (o22, nJ0, moZ) H locs → lv_has ls 3 [] → W p l e R s m args below meth c H locs 0 0 Q (F0 m 74 ls [])) → W p l e R s m args below meth c H locs 0 0 Q (F0 m 22 ls []) := by
    intro n22
    induction n22 with
    | zero =>
      intro x2 I5 H locs ls o22 hH hl hf hX22
      cases hf
    | succ n22 ih22 =>
      intro x2 I5 H locs ls o22 hH hl hf hX22
      rw [f_X12_areas_L22] at hf
      refine lv_iload_n hx hb dX12_areas_22 rfl (lv_at hl 2 rfl) ?_
      refine lv_aload_n hx hb dX12_areas_23 rfl (lv_at hl 0 rfl) ?_
      refine gf_12_33 hK hx hb hts hown hH mo_n0 mo_k0 (hts _ tw_989) (fun _ h9 => h9) dX12_areas_24 ?_
      refine lv_icmp_ge (tgt := 74) hx hb dX12_areas_27 (by decide) (fun c6 => ?_) (fun c6 => ?_)
      · have hf := nm_it c6 hf
        cases hf
        exact hX22 _ _ _ hH (lv_sub hl [] rfl)
      · have hf := nm_ie c6 hf
        refine lv_aload_n hx hb dX12_areas_30 rfl (lv_at hl 0 rfl) ?_
        refine gf_12_28 hK hx hb hts hown hH mo_n0 mo_k0 (hts _ tw_984) (fun _ h9 => h9) dX12_areas_31 ?_
        refine lv_iload_n hx hb dX12_areas_34 rfl (lv_at hl 2 rfl) ?_
        obtain ⟨hi7, hf⟩ := nm_chk hf
        refine nm_iald hx hb hK hH mo_n29 mo_k29 mo_l29 hi7 dX12_areas_35 ?_
        refine lv_aload_n hx hb dX12_areas_36 rfl (lv_at hl 0 rfl) ?_
        refine gf_12_38 hK hx hb hts hown hH mo_n0 mo_k0 (hts _ tw_994) (fun _ h9 => h9) dX12_areas_37 ?_
        refine lv_iload_n hx hb dX12_areas_40 rfl (lv_at hl 1 rfl) ?_
        obtain ⟨hi8, hf⟩ := nm_chk hf
        refine nm_iald hx hb hK hH mo_n39 mo_k39 mo_l39 hi8 dX12_areas_41 ?_
        have hJ68 : ∀ (I9 : nm_I) (H : Heap) (locs : List Loc) (ls : Array Slot), nm_H D Y (fun q => s0 ≤ q) s.heap X moN ad (I9, nJ0, moZ) H locs → lv_has ls 3 [(0, .ref (ad 0)), (1, .int x1), (2, .int x2)] → f_X12_areas_J68 x2 I9 (f_X12_areas_L22 x1 n22) = some o22 → W p l e R s m args below meth c H locs 0 0 Q (F0 m 68 ls []) := by
          intro I9 H locs ls hH hl hf
          unfold f_X12_areas_J68 at hf
          refine lv_iinc (v := x2 + 1) (lv' := [(2, .int (x2 + 1)), (0, .ref (ad 0)), (1, .int x1)]) hx hb dX12_areas_68 hl (k := 2) rfl rfl (by decide) rfl (fun ls hl => ?_)
          refine lv_goto (tgt := 22) hx hb dX12_areas_71 (by decide) ?_
          exact ih22 (x2 + 1) I9 _ _ _ _ hH (lv_sub hl [1, 2, 0] rfl) hf hX22
        refine lv_icmp_ge (tgt := 68) hx hb dX12_areas_42 (by decide) (fun c10 => ?_) (fun c10 => ?_)
        · have hf := nm_it c10 hf
          exact hJ68  I5 _ _ _ hH (lv_sub hl [0, 1, 2] rfl) hf
        · have hf := nm_ie c10 hf
          refine lv_aload_n hx hb dX12_areas_45 rfl (lv_at hl 0 rfl) ?_
          refine lv_iload_n hx hb dX12_areas_46 rfl (lv_at hl 1 rfl) ?_
          refine lv_aload_n hx hb dX12_areas_47 rfl (lv_at hl 0 rfl) ?_
          refine gf_12_30 hK hx hb hts hown hH mo_n0 mo_k0 (hts _ tw_986) (fun _ h9 => h9) dX12_areas_48 ?_
          refine lv_iload_n hx hb dX12_areas_51 rfl (lv_at hl 2 rfl) ?_
          obtain ⟨hi11, hf⟩ := nm_chk hf
          refine nm_iald hx hb hK hH mo_n31 mo_k31 mo_l31 hi11 dX12_areas_52 ?_
          refine lv_aload_n hx hb dX12_areas_53 rfl (lv_at hl 0 rfl) ?_
          refine gf_12_29 hK hx hb hts hown hH mo_n0 mo_k0 (hts _ tw_985) (fun _ h9 => h9) dX12_areas_54 ?_
          refine lv_iload_n hx hb dX12_areas_57 rfl (lv_at hl 2 rfl) ?_
          obtain ⟨hi12, hf⟩ := nm_chk hf
          refine nm_iald hx hb hK hH mo_n30 mo_k30 mo_l30 hi12 dX12_areas_58 ?_
          refine lv_aload_n hx hb dX12_areas_59 rfl (lv_at hl 0 rfl) ?_
          refine gf_12_28 hK hx hb hts hown hH mo_n0 mo_k0 (hts _ tw_984) (fun _ h9 => h9) dX12_areas_60 ?_
          refine lv_iload_n hx hb dX12_areas_63 rfl (lv_at hl 2 rfl) ?_
          obtain ⟨hi13, hf⟩ := nm_chk hf
          refine nm_iald hx hb hK hH mo_n29 mo_k29 mo_l29 hi13 dX12_areas_64 ?_
          obtain ⟨I14, hc15, hf⟩ := nm_sd1 hf
          refine nm_callv (nm_runV (X := X) (nl := moN) (k_X12_fault (hf := hc15)) hx hb hml hown hts hs0 hK hZ hH tw_1366 tw_1363 tw_1365 (sw_X12_fault) tw_9 hd_X12_fault mo_n0 mo_k0 (by decide) rfl rfl rfl ⟨Nat.le_trans (Nat.le_of_ble_eq_true rfl) hRf, Nat.le_trans (Nat.le_of_ble_eq_true rfl) hRl⟩ rfl hl.1 rfl (Nat.le_of_ble_eq_true rfl) dX12_areas_65 ⟨Nat.zero_le _, Nat.zero_le _⟩) hH (fun H locs hH => ?_)
          have hH : nm_H D Y (fun q => s0 ≤ q) s.heap X moN ad (I14, nJ0, moZ) H locs := hH
          exact hJ68  I14 _ _ _ hH (lv_sub hl [0, 1, 2] rfl) hf
  obtain ⟨I16, hl17, hf⟩ := nm_sd1 hf
  refine hL22 nm_F (0 : Int32) I3 _ _ _ _ hH (lv_sub hl [1, 2, 0] rfl) hl17 (fun H locs ls hH hl => ?_)
  have hl : lv_has ls 3 [] := hl
  have hH : nm_H D Y (fun q => s0 ≤ q) s.heap X moN ad (I16, nJ0, moZ) H locs := hH
  exact nm_vret hx hb hr hlocks hQ hH (congrArg (fun q => (q, nJ0, moZ)) (Option.some.inj hf)) dX12_areas_74
def f_X12_run_L21  : Nat → Int32 → nm_I → Option (nm_I)
  | 0, _, _ => none
  | n21 + 1, x1, I3 =>
    (if (16 : Int32) ≤ x1 then
    some I3
    else
    nm_c x1 16 (
    nm_l (nm_up I3 45 x1.toNatClampNeg (0 : Int32)) fun I6 =>
    nm_c x1 16 (
    nm_l (nm_up I6 46 x1.toNatClampNeg (-1 : Int32)) fun I8 =>
    f_X12_run_L21 n21 (x1 + 1) I8)))
def f_X12_run_J136 (x1 : Int32) (I13 : nm_I) (k : Int32 → nm_I → Option (nm_I)) : Option (nm_I) :=
k (x1 + 1) I13
def f_X12_run_J109 (x1 : Int32) (t109_2 : Int32) (t109_1 : Int32) (I10 : nm_I) (k : Int32 → nm_I → Option (nm_I)) : Option (nm_I) :=
nm_s1 (f_X12_lines t109_1 t109_2 I10) fun I15 =>
f_X12_run_J136 x1 I15 k
def f_X12_run_J92 (x1 : Int32) (I10 : nm_I) (k : Int32 → nm_I → Option (nm_I)) : Option (nm_I) :=
nm_c x1 16 (
(if (I10 36 x1.toNatClampNeg) = (1 : Int32) then
f_X12_run_J109 x1 (1 : Int32) x1 I10 k
else
f_X12_run_J109 x1 (0 : Int32) x1 I10 k))
def f_X12_run_L49  : Nat → Int32 → nm_I → Option (nm_I)
  | 0, _, _ => none
  | n49 + 1, x1, I10 =>
    (if (I10 0 39) ≤ x1 then
    some I10
    else
    nm_c x1 16 (
    (if (I10 36 x1.toNatClampNeg) = (0 : Int32) then
    f_X12_run_J92 x1 I10 (f_X12_run_L49 n49)
    else
    if (I10 36 x1.toNatClampNeg) = (1 : Int32) then
    f_X12_run_J92 x1 I10 (f_X12_run_L49 n49)
    else
    if (I10 36 x1.toNatClampNeg) = (2 : Int32) then
    nm_s1 (f_X12_inside x1 I10) fun I21 =>
    f_X12_run_J136 x1 I21 (f_X12_run_L49 n49)
    else
    if (I10 36 x1.toNatClampNeg) = (3 : Int32) then
    nm_s1 (f_X12_areas x1 I10) fun I24 =>
    f_X12_run_J136 x1 I24 (f_X12_run_L49 n49)
    else
    nm_s1 (f_X12_shares x1 I10) fun I26 =>
    f_X12_run_J136 x1 I26 (f_X12_run_L49 n49))))
def f_X12_run (I : nm_I) : Option (Int32 × nm_I) :=
(if (I 0 20) = 0 then
nm_s2 (f_X12_no (-2 : Int32) I) fun r34 I32 =>
some (r34, I32)
else
nm_l (nm_up I 0 46 (0 : Int32)) fun I2 =>
nm_s1 (f_X12_run_L21 nm_F (0 : Int32) I2) fun I9 =>
nm_s1 (f_X12_run_L49 nm_F (0 : Int32) I9) fun I28 =>
nm_l (nm_up I28 0 21 (1 : Int32)) fun I29 =>
some (I29 0 46, I29))
set_option maxHeartbeats 4000000 in
set_option maxRecDepth 100000 in
theorem k_X12_run {l : Launch} {D : va_G} {Y : nm_Y} {s0 : Nat} {X : va_W} {ad : Nat → Nat}  {I : nm_I} {r0 : Int32} {M0 : nm_I} (hf : f_X12_run I = some (r0, M0)) :
    nm_Met l yX12_run cX12_run 2 (some .int) { frames := 3, cells := 0, slots := 0, locals := 74 } [.ref (ad 0)] D Y s0 (nm_W Y X moN ad (I, nJ0, moZ)) (nm_Qi D s0 r0 (nm_W Y X moN ad (M0, nJ0, moZ))) 0 0 := by
  refine nm_of (by decide) (Nat.le_of_ble_eq_true rfl) ?_
  intro p e R s m args below meth c Q ls hx hb hr hlocks hml hown hts hs0 hK hZ hRf hRl hRc hRs hQ hP hD hl
  have hH : nm_H D Y (fun q => s0 ≤ q) s.heap X moN ad (I, nJ0, moZ) s.heap [] := ⟨hP, hD, va_S.rf⟩
  have hl : lv_has ls 2 [(0, .ref (ad 0))] := hl
  unfold f_X12_run at hf
  refine lv_aload_n hx hb dX12_run_0 rfl (lv_at hl 0 rfl) ?_
  refine gf_12_20 hK hx hb hts hown hH mo_n0 mo_k0 (hts _ tw_976) (fun _ h9 => h9) dX12_run_1 ?_
  refine lv_if_ne (tgt := 14) hx hb dX12_run_4 (by decide) (fun c1 => ?_) (fun c1 => ?_)
  · have hf := nm_ie c1 hf
    refine lv_aload_n hx hb dX12_run_14 rfl (lv_at hl 0 rfl) ?_
    refine lv_iconst (v := 0) hx hb dX12_run_15 (by decide) ?_
    obtain ⟨I2, eI2, hf⟩ := nm_let hf
    refine pf_12_46 hK hx hb hts hown hH mo_n0 mo_k0 (hts _ tw_1002) (fun _ h9 => h9) dX12_run_16 (fun H locs hH => ?_)
    have hH : nm_H D Y (fun q => s0 ≤ q) s.heap X moN ad (I2, nJ0, moZ) H locs := by rw [eI2]; exact hH
    refine lv_iconst (v := 0) hx hb dX12_run_19 (by decide) ?_
    refine lv_istore_n (lv' := [(1, .int (0 : Int32)), (0, .ref (ad 0))]) hx hb dX12_run_20 rfl hl (by decide) rfl (fun ls hl => ?_)
    have hL21 : ∀ (n21 : Nat) (x1 : Int32) (I3 : nm_I) (H : Heap) (locs : List Loc) (ls : Array Slot) (o21 : nm_I), nm_H D Y (fun q => s0 ≤ q) s.heap X moN ad (I3, nJ0, moZ) H locs → lv_has ls 2 [(0, .ref (ad 0)), (1, .int x1)] → f_X12_run_L21 n21 x1 I3 = some o21 → (∀ (H : Heap) (locs : List Loc) (ls : Array Slot), nm_H D Y (fun q => s0 ≤ q) s.heap X moN ad (o21, nJ0, moZ) H locs → lv_has ls 2 [(0, .ref (ad 0))] → W p l e R s m args below meth c H locs 0 0 Q (F0 m 47 ls [])) → W p l e R s m args below meth c H locs 0 0 Q (F0 m 21 ls []) := by
      intro n21
      induction n21 with
      | zero =>
        intro x1 I3 H locs ls o21 hH hl hf hX21
        cases hf
      | succ n21 ih21 =>
        intro x1 I3 H locs ls o21 hH hl hf hX21
        rw [f_X12_run_L21] at hf
        refine lv_iload_n hx hb dX12_run_21 rfl (lv_at hl 1 rfl) ?_
        refine lv_bipush (v := 16) hx hb dX12_run_22 (by decide) ?_
        refine lv_icmp_ge (tgt := 47) hx hb dX12_run_24 (by decide) (fun c4 => ?_) (fun c4 => ?_)
        · have hf := nm_it c4 hf
          cases hf
          exact hX21 _ _ _ hH (lv_sub hl [0] rfl)
        · have hf := nm_ie c4 hf
          refine lv_aload_n hx hb dX12_run_27 rfl (lv_at hl 0 rfl) ?_
          refine gf_12_44 hK hx hb hts hown hH mo_n0 mo_k0 (hts _ tw_1000) (fun _ h9 => h9) dX12_run_28 ?_
          refine lv_iload_n hx hb dX12_run_31 rfl (lv_at hl 1 rfl) ?_
          refine lv_iconst (v := 0) hx hb dX12_run_32 (by decide) ?_
          obtain ⟨hi5, hf⟩ := nm_chk hf
          obtain ⟨I6, eI6, hf⟩ := nm_let hf
          refine nm_iast hx hb hK hH mo_n45 mo_k45 mo_l45 hi5 dX12_run_33 (fun H locs hH => ?_)
          have hH : nm_H D Y (fun q => s0 ≤ q) s.heap X moN ad (I6, nJ0, moZ) H locs := by rw [eI6]; exact hH
          refine lv_aload_n hx hb dX12_run_34 rfl (lv_at hl 0 rfl) ?_
          refine gf_12_45 hK hx hb hts hown hH mo_n0 mo_k0 (hts _ tw_1001) (fun _ h9 => h9) dX12_run_35 ?_
          refine lv_iload_n hx hb dX12_run_38 rfl (lv_at hl 1 rfl) ?_
          refine lv_iconst (v := -1) hx hb dX12_run_39 (by decide) ?_
          obtain ⟨hi7, hf⟩ := nm_chk hf
          obtain ⟨I8, eI8, hf⟩ := nm_let hf
          refine nm_iast hx hb hK hH mo_n46 mo_k46 mo_l46 hi7 dX12_run_40 (fun H locs hH => ?_)
          have hH : nm_H D Y (fun q => s0 ≤ q) s.heap X moN ad (I8, nJ0, moZ) H locs := by rw [eI8]; exact hH
          refine lv_iinc (v := x1 + 1) (lv' := [(1, .int (x1 + 1)), (0, .ref (ad 0))]) hx hb dX12_run_41 hl (k := 1) rfl rfl (by decide) rfl (fun ls hl => ?_)
          refine lv_goto (tgt := 21) hx hb dX12_run_44 (by decide) ?_
          exact ih21 (x1 + 1) I8 _ _ _ _ hH (lv_sub hl [1, 0] rfl) hf hX21
    obtain ⟨I9, hl31, hf⟩ := nm_sd1 hf
    refine hL21 nm_F (0 : Int32) I2 _ _ _ _ hH (lv_sub hl [1, 0] rfl) hl31 (fun H locs ls hH hl => ?_)
    have hl : lv_has ls 2 [(0, .ref (ad 0))] := hl
    have hH : nm_H D Y (fun q => s0 ≤ q) s.heap X moN ad (I9, nJ0, moZ) H locs := hH
    refine lv_iconst (v := 0) hx hb dX12_run_47 (by decide) ?_
    refine lv_istore_n (lv' := [(1, .int (0 : Int32)), (0, .ref (ad 0))]) hx hb dX12_run_48 rfl hl (by decide) rfl (fun ls hl => ?_)
    have hL49 : ∀ (n49 : Nat) (x1 : Int32) (I10 : nm_I) (H : Heap) (locs : List Loc) (ls : Array Slot) (o49 : nm_I), nm_H D Y (fun q => s0 ≤ q) s.heap X moN ad (I10, nJ0, moZ) H locs → lv_has ls 2 [(0, .ref (ad 0)), (1, .int x1)] → f_X12_run_L49 n49 x1 I10 = some o49 → (∀ (H : Heap) (locs : List Loc) (ls : Array Slot), nm_H D Y (fun q => s0 ≤ q) s.heap X moN ad (o49, nJ0, moZ) H locs → lv_has ls 2 [(0, .ref (ad 0))] → W p l e R s m args below meth c H locs 0 0 Q (F0 m 142 ls [])) → W p l e R s m args below meth c H locs 0 0 Q (F0 m 49 ls []) := by
      intro n49
      induction n49 with
      | zero =>
        intro x1 I10 H locs ls o49 hH hl hf hX49
        cases hf
      | succ n49 ih49 =>
        intro x1 I10 H locs ls o49 hH hl hf hX49
        rw [f_X12_run_L49] at hf
        refine lv_iload_n hx hb dX12_run_49 rfl (lv_at hl 1 rfl) ?_
        refine lv_aload_n hx hb dX12_run_50 rfl (lv_at hl 0 rfl) ?_
        refine gf_12_39 hK hx hb hts hown hH mo_n0 mo_k0 (hts _ tw_995) (fun _ h9 => h9) dX12_run_51 ?_
        refine lv_icmp_ge (tgt := 142) hx hb dX12_run_54 (by decide) (fun c11 => ?_) (fun c11 => ?_)
        · have hf := nm_it c11 hf
          cases hf
          exact hX49 _ _ _ hH (lv_sub hl [0] rfl)
        · have hf := nm_ie c11 hf
          refine lv_aload_n hx hb dX12_run_57 rfl (lv_at hl 0 rfl) ?_
          refine gf_12_35 hK hx hb hts hown hH mo_n0 mo_k0 (hts _ tw_991) (fun _ h9 => h9) dX12_run_58 ?_
          refine lv_iload_n hx hb dX12_run_61 rfl (lv_at hl 1 rfl) ?_
          obtain ⟨hi12, hf⟩ := nm_chk hf
          refine nm_iald hx hb hK hH mo_n36 mo_k36 mo_l36 hi12 dX12_run_62 ?_
          have hJ136 : ∀ (I13 : nm_I) (H : Heap) (locs : List Loc) (ls : Array Slot), nm_H D Y (fun q => s0 ≤ q) s.heap X moN ad (I13, nJ0, moZ) H locs → lv_has ls 2 [(0, .ref (ad 0)), (1, .int x1)] → f_X12_run_J136 x1 I13 (f_X12_run_L49 n49) = some o49 → W p l e R s m args below meth c H locs 0 0 Q (F0 m 136 ls []) := by
            intro I13 H locs ls hH hl hf
            unfold f_X12_run_J136 at hf
            refine lv_iinc (v := x1 + 1) (lv' := [(1, .int (x1 + 1)), (0, .ref (ad 0))]) hx hb dX12_run_136 hl (k := 1) rfl rfl (by decide) rfl (fun ls hl => ?_)
            refine lv_goto (tgt := 49) hx hb dX12_run_139 (by decide) ?_
            exact ih49 (x1 + 1) I13 _ _ _ _ hH (lv_sub hl [1, 0] rfl) hf hX49
          have hJ92 : ∀  (H : Heap) (locs : List Loc) (ls : Array Slot), nm_H D Y (fun q => s0 ≤ q) s.heap X moN ad (I10, nJ0, moZ) H locs → lv_has ls 2 [(0, .ref (ad 0)), (1, .int x1)] → f_X12_run_J92 x1 I10 (f_X12_run_L49 n49) = some o49 → W p l e R s m args below meth c H locs 0 0 Q (F0 m 92 ls []) := by
            intro  H locs ls hH hl hf
            unfold f_X12_run_J92 at hf
            refine lv_aload_n hx hb dX12_run_92 rfl (lv_at hl 0 rfl) ?_
            refine lv_iload_n hx hb dX12_run_93 rfl (lv_at hl 1 rfl) ?_
            refine lv_aload_n hx hb dX12_run_94 rfl (lv_at hl 0 rfl) ?_
            refine gf_12_35 hK hx hb hts hown hH mo_n0 mo_k0 (hts _ tw_991) (fun _ h9 => h9) dX12_run_95 ?_
            refine lv_iload_n hx hb dX12_run_98 rfl (lv_at hl 1 rfl) ?_
            obtain ⟨hi14, hf⟩ := nm_chk hf
            refine nm_iald hx hb hK hH mo_n36 mo_k36 mo_l36 hi14 dX12_run_99 ?_
            refine lv_iconst (v := 1) hx hb dX12_run_100 (by decide) ?_
            have hJ109 : ∀ (t109_2 : Int32) (t109_1 : Int32) (H : Heap) (locs : List Loc) (ls : Array Slot), nm_H D Y (fun q => s0 ≤ q) s.heap X moN ad (I10, nJ0, moZ) H locs → lv_has ls 2 [(0, .ref (ad 0)), (1, .int x1)] → f_X12_run_J109 x1 t109_2 t109_1 I10 (f_X12_run_L49 n49) = some o49 → W p l e R s m args below meth c H locs 0 0 Q (F0 m 109 ls [.int t109_2, .int t109_1, .ref (ad 0)]) := by
              intro t109_2 t109_1 H locs ls hH hl hf
              unfold f_X12_run_J109 at hf
              obtain ⟨I15, hc16, hf⟩ := nm_sd1 hf
              refine nm_callv (nm_runV (X := X) (nl := moN) (k_X12_lines (hf := hc16)) hx hb hml hown hts hs0 hK hZ hH tw_1359 tw_1356 tw_1358 (sw_X12_lines) tw_9 hd_X12_lines mo_n0 mo_k0 (by decide) rfl rfl rfl ⟨Nat.le_trans (Nat.le_of_ble_eq_true rfl) hRf, Nat.le_trans (Nat.le_of_ble_eq_true rfl) hRl⟩ rfl hl.1 rfl (Nat.le_of_ble_eq_true rfl) dX12_run_109 ⟨Nat.zero_le _, Nat.zero_le _⟩) hH (fun H locs hH => ?_)
              have hH : nm_H D Y (fun q => s0 ≤ q) s.heap X moN ad (I15, nJ0, moZ) H locs := hH
              refine lv_goto (tgt := 136) hx hb dX12_run_112 (by decide) ?_
              exact hJ136  I15 _ _ _ hH (lv_sub hl [0, 1] rfl) hf
            refine lv_icmp_ne (tgt := 108) hx hb dX12_run_101 (by decide) (fun c17 => ?_) (fun c17 => ?_)
            · have hf := nm_ie c17 hf
              refine lv_iconst (v := 0) hx hb dX12_run_108 (by decide) ?_
              exact hJ109 (0 : Int32) x1 _ _ _ hH (lv_sub hl [0, 1] rfl) hf
            · have hf := nm_it c17 hf
              refine lv_iconst (v := 1) hx hb dX12_run_104 (by decide) ?_
              refine lv_goto (tgt := 109) hx hb dX12_run_105 (by decide) ?_
              exact hJ109 (1 : Int32) x1 _ _ _ hH (lv_sub hl [0, 1] rfl) hf
          by_cases c18 : (I10 36 x1.toNatClampNeg) = (0 : Int32)
          · have hf := nm_it c18 hf
            refine nm_tab (off := 29) (tgt := 92) hx hb c18 dX12_run_63 (by decide) (by decide) (by decide) (by decide) ?_
            exact hJ92  _ _ _ hH (lv_sub hl [0, 1] rfl) hf
          have hf := nm_ie c18 hf
          by_cases c19 : (I10 36 x1.toNatClampNeg) = (1 : Int32)
          · have hf := nm_it c19 hf
            refine nm_tab (off := 29) (tgt := 92) hx hb c19 dX12_run_63 (by decide) (by decide) (by decide) (by decide) ?_
            exact hJ92  _ _ _ hH (lv_sub hl [0, 1] rfl) hf
          have hf := nm_ie c19 hf
          by_cases c20 : (I10 36 x1.toNatClampNeg) = (2 : Int32)
          · have hf := nm_it c20 hf
            refine nm_tab (off := 52) (tgt := 115) hx hb c20 dX12_run_63 (by decide) (by decide) (by decide) (by decide) ?_
            refine lv_aload_n hx hb dX12_run_115 rfl (lv_at hl 0 rfl) ?_
            refine lv_iload_n hx hb dX12_run_116 rfl (lv_at hl 1 rfl) ?_
            obtain ⟨I21, hc22, hf⟩ := nm_sd1 hf
            refine nm_callv (nm_runV (X := X) (nl := moN) (k_X12_inside (hf := hc22)) hx hb hml hown hts hs0 hK hZ hH tw_1370 tw_1367 tw_1369 (sw_X12_inside) tw_9 hd_X12_inside mo_n0 mo_k0 (by decide) rfl rfl rfl ⟨Nat.le_trans (Nat.le_of_ble_eq_true rfl) hRf, Nat.le_trans (Nat.le_of_ble_eq_true rfl) hRl⟩ rfl hl.1 rfl (Nat.le_of_ble_eq_true rfl) dX12_run_117 ⟨Nat.zero_le _, Nat.zero_le _⟩) hH (fun H locs hH => ?_)
            have hH : nm_H D Y (fun q => s0 ≤ q) s.heap X moN ad (I21, nJ0, moZ) H locs := hH
            refine lv_goto (tgt := 136) hx hb dX12_run_120 (by decide) ?_
            exact hJ136  I21 _ _ _ hH (lv_sub hl [0, 1] rfl) hf
          have hf := nm_ie c20 hf
          by_cases c23 : (I10 36 x1.toNatClampNeg) = (3 : Int32)
          · have hf := nm_it c23 hf
            refine nm_tab (off := 60) (tgt := 123) hx hb c23 dX12_run_63 (by decide) (by decide) (by decide) (by decide) ?_
            refine lv_aload_n hx hb dX12_run_123 rfl (lv_at hl 0 rfl) ?_
            refine lv_iload_n hx hb dX12_run_124 rfl (lv_at hl 1 rfl) ?_
            obtain ⟨I24, hc25, hf⟩ := nm_sd1 hf
            refine nm_callv (nm_runV (X := X) (nl := moN) (k_X12_areas (hf := hc25)) hx hb hml hown hts hs0 hK hZ hH tw_1378 tw_1375 tw_1377 (sw_X12_areas) tw_9 hd_X12_areas mo_n0 mo_k0 (by decide) rfl rfl rfl ⟨Nat.le_trans (Nat.le_of_ble_eq_true rfl) hRf, Nat.le_trans (Nat.le_of_ble_eq_true rfl) hRl⟩ rfl hl.1 rfl (Nat.le_of_ble_eq_true rfl) dX12_run_125 ⟨Nat.zero_le _, Nat.zero_le _⟩) hH (fun H locs hH => ?_)
            have hH : nm_H D Y (fun q => s0 ≤ q) s.heap X moN ad (I24, nJ0, moZ) H locs := hH
            refine lv_goto (tgt := 136) hx hb dX12_run_128 (by decide) ?_
            exact hJ136  I24 _ _ _ hH (lv_sub hl [0, 1] rfl) hf
          have hf := nm_ie c23 hf
          refine lv_tableOut (tgt := 131) hx hb dX12_run_63 (nm_sw (I10 36 x1.toNatClampNeg) (fun k h1 h2 hk => by
            rcases (show k = 0 ∨ k = 1 ∨ k = 2 ∨ k = 3 by omega) with rfl | rfl | rfl | rfl <;> first | exact c18 hk | exact c19 hk | exact c20 hk | exact c23 hk)) (by decide) ?_
          refine lv_aload_n hx hb dX12_run_131 rfl (lv_at hl 0 rfl) ?_
          refine lv_iload_n hx hb dX12_run_132 rfl (lv_at hl 1 rfl) ?_
          obtain ⟨I26, hc27, hf⟩ := nm_sd1 hf
          refine nm_callv (nm_runV (X := X) (nl := moN) (k_X12_shares (hf := hc27)) hx hb hml hown hts hs0 hK hZ hH tw_1382 tw_1379 tw_1381 (sw_X12_shares) tw_9 hd_X12_shares mo_n0 mo_k0 (by decide) rfl rfl rfl ⟨Nat.le_trans (Nat.le_of_ble_eq_true rfl) hRf, Nat.le_trans (Nat.le_of_ble_eq_true rfl) hRl⟩ rfl hl.1 rfl (Nat.le_of_ble_eq_true rfl) dX12_run_133 ⟨Nat.zero_le _, Nat.zero_le _⟩) hH (fun H locs hH => ?_)
          have hH : nm_H D Y (fun q => s0 ≤ q) s.heap X moN ad (I26, nJ0, moZ) H locs := hH
          exact hJ136  I26 _ _ _ hH (lv_sub hl [0, 1] rfl) hf
    obtain ⟨I28, hl30, hf⟩ := nm_sd1 hf
    refine hL49 nm_F (0 : Int32) I9 _ _ _ _ hH (lv_sub hl [1, 0] rfl) hl30 (fun H locs ls hH hl => ?_)
    have hl : lv_has ls 2 [(0, .ref (ad 0))] := hl
    have hH : nm_H D Y (fun q => s0 ≤ q) s.heap X moN ad (I28, nJ0, moZ) H locs := hH
    refine lv_aload_n hx hb dX12_run_142 rfl (lv_at hl 0 rfl) ?_
    refine lv_iconst (v := 1) hx hb dX12_run_143 (by decide) ?_
    obtain ⟨I29, eI29, hf⟩ := nm_let hf
    refine pf_12_21 hK hx hb hts hown hH mo_n0 mo_k0 (hts _ tw_977) (fun _ h9 => h9) rfl rfl dX12_run_144 (fun H locs hH => ?_)
    have hH : nm_H D Y (fun q => s0 ≤ q) s.heap X moN ad (I29, nJ0, moZ) H locs := by rw [eI29]; exact hH
    refine lv_aload_n hx hb dX12_run_147 rfl (lv_at hl 0 rfl) ?_
    refine gf_12_46 hK hx hb hts hown hH mo_n0 mo_k0 (hts _ tw_1002) (fun _ h9 => h9) dX12_run_148 ?_
    exact nm_iret hx hb hr hlocks hQ hH (congrArg Prod.fst (Option.some.inj hf)) (congrArg (fun q => (q.2, nJ0, moZ)) (Option.some.inj hf)) dX12_run_151
  · have hf := nm_it c1 hf
    refine lv_aload_n hx hb dX12_run_7 rfl (lv_at hl 0 rfl) ?_
    refine lv_bipush (v := -2) hx hb dX12_run_8 (by decide) ?_
    obtain ⟨r34, I32, hc33, hf⟩ := nm_sd2 hf
    refine nm_calli (nm_runV (X := X) (nl := moN) (k_X12_no (hf := hc33)) hx hb hml hown hts hs0 hK hZ hH tw_1214 tw_1211 tw_1213 (sw_X12_no) tw_9 hd_X12_no mo_n0 mo_k0 (by decide) rfl rfl rfl ⟨Nat.le_trans (Nat.le_of_ble_eq_true rfl) hRf, Nat.le_trans (Nat.le_of_ble_eq_true rfl) hRl⟩ rfl hl.1 rfl (Nat.le_of_ble_eq_true rfl) dX12_run_10 ⟨Nat.zero_le _, Nat.zero_le _⟩) hH (fun H locs hH => ?_)
    have hH : nm_H D Y (fun q => s0 ≤ q) s.heap X moN ad (I32, nJ0, moZ) H locs := hH
    exact nm_iret hx hb hr hlocks hQ hH (congrArg Prod.fst (Option.some.inj hf)) (congrArg (fun q => (q.2, nJ0, moZ)) (Option.some.inj hf)) dX12_run_13
def f_X12_fault__J37 (x1 : Int32) (x2 : Int32) (t37_2 : Int32) (t37_1 : Int64) (t37_0 : Int64) (I : nm_I) : Option (Int32 × nm_I) :=
(if (f_X12_isIn t37_0 t37_1 ((t37_2 - (1 : Int32)).toInt64)) = 0 then
nm_s2 (f_X12_no (-3 : Int32) I) fun r16 I14 =>
some (r16, I14)
else
(if x2 = (0 : Int32) then
nm_c x1 600 (
some (I 41 x1.toNatClampNeg, I))
else
if x2 = (1 : Int32) then
nm_c x1 600 (
some (I 42 x1.toNatClampNeg, I))
else
if x2 = (2 : Int32) then
nm_c x1 600 (
some (I 43 x1.toNatClampNeg, I))
else
if x2 = (3 : Int32) then
nm_c x1 600 (
some (I 44 x1.toNatClampNeg, I))
else
nm_s2 (f_X12_no (-7 : Int32) I) fun r13 I11 =>
some (r13, I11)))
def f_X12_fault_ (x1 : Int32) (x2 : Int32) (I : nm_I) : Option (Int32 × nm_I) :=
(if (I 0 21) = 0 then
nm_s2 (f_X12_no (-2 : Int32) I) fun r20 I18 =>
some (r20, I18)
else
(if (600 : Int32) ≤ (I 0 46) then
f_X12_fault__J37 x1 x2 (600 : Int32) (0 : Int64) x1.toInt64 I
else
f_X12_fault__J37 x1 x2 (I 0 46) (0 : Int64) x1.toInt64 I))
set_option maxHeartbeats 4000000 in
set_option maxRecDepth 100000 in
theorem k_X12_fault_ {l : Launch} {D : va_G} {Y : nm_Y} {s0 : Nat} {X : va_W} {ad : Nat → Nat}  {x1 : Int32} {x2 : Int32} {I : nm_I} {r0 : Int32} {M0 : nm_I} (hf : f_X12_fault_ x1 x2 I = some (r0, M0)) :
    nm_Met l yX12_fault_ cX12_fault_ 3 (some .int) { frames := 1, cells := 0, slots := 0, locals := 25 } [.ref (ad 0), .int x1, .int x2] D Y s0 (nm_W Y X moN ad (I, nJ0, moZ)) (nm_Qi D s0 r0 (nm_W Y X moN ad (M0, nJ0, moZ))) 0 0 := by
  refine nm_of (by decide) (Nat.le_of_ble_eq_true rfl) ?_
  intro p e R s m args below meth c Q ls hx hb hr hlocks hml hown hts hs0 hK hZ hRf hRl hRc hRs hQ hP hD hl
  have hH : nm_H D Y (fun q => s0 ≤ q) s.heap X moN ad (I, nJ0, moZ) s.heap [] := ⟨hP, hD, va_S.rf⟩
  have hl : lv_has ls 3 [(0, .ref (ad 0)), (1, .int x1), (2, .int x2)] := hl
  unfold f_X12_fault_ at hf
  refine lv_aload_n hx hb dX12_fault__0 rfl (lv_at hl 0 rfl) ?_
  refine gf_12_21 hK hx hb hts hown hH mo_n0 mo_k0 (hts _ tw_977) (fun _ h9 => h9) dX12_fault__1 ?_
  refine lv_if_ne (tgt := 14) hx hb dX12_fault__4 (by decide) (fun c1 => ?_) (fun c1 => ?_)
  · have hf := nm_ie c1 hf
    refine lv_iload_n hx hb dX12_fault__14 rfl (lv_at hl 1 rfl) ?_
    refine lv_i2l hx hb dX12_fault__15 rfl ?_
    refine lv_lconst (v := 0) hx hb dX12_fault__16 (by decide) ?_
    refine lv_aload_n hx hb dX12_fault__17 rfl (lv_at hl 0 rfl) ?_
    refine gf_12_46 hK hx hb hts hown hH mo_n0 mo_k0 (hts _ tw_1002) (fun _ h9 => h9) dX12_fault__18 ?_
    refine lv_sipush (v := 600) hx hb dX12_fault__21 (by decide) ?_
    have hJ37 : ∀ (t37_2 : Int32) (t37_1 : Int64) (t37_0 : Int64) (H : Heap) (locs : List Loc) (ls : Array Slot), nm_H D Y (fun q => s0 ≤ q) s.heap X moN ad (I, nJ0, moZ) H locs → lv_has ls 3 [(0, .ref (ad 0)), (1, .int x1), (2, .int x2)] → f_X12_fault__J37 x1 x2 t37_2 t37_1 t37_0 I = some (r0, M0) → W p l e R s m args below meth c H locs 0 0 Q (F0 m 37 ls [.int t37_2, .long t37_1, .long t37_0]) := by
      intro t37_2 t37_1 t37_0 H locs ls hH hl hf
      unfold f_X12_fault__J37 at hf
      refine lv_iconst (v := 1) hx hb dX12_fault__37 (by decide) ?_
      refine lv_isub hx hb dX12_fault__38 ?_
      refine lv_i2l hx hb dX12_fault__39 rfl ?_
      refine nm_calli (nm_runS (X := X) (nl := moN) (k_X12_isIn (hf := (rfl : f_X12_isIn t37_0 t37_1 ((t37_2 - (1 : Int32)).toInt64) = _))) hx hb hml hown hts hs0 hK hZ hH tw_1207 tw_1205 tw_1206 tw_9 hd_X12_isIn rfl rfl ⟨Nat.le_trans (Nat.le_of_ble_eq_true rfl) hRf, Nat.le_trans (Nat.le_of_ble_eq_true rfl) hRl⟩ rfl hl.1 rfl (Nat.le_of_ble_eq_true rfl) dX12_fault__40 ⟨Nat.zero_le _, Nat.zero_le _⟩) hH (fun H locs hH => ?_)
      have hH : nm_H D Y (fun q => s0 ≤ q) s.heap X moN ad (I, nJ0, moZ) H locs := hH
      refine lv_if_ne (tgt := 53) hx hb dX12_fault__43 (by decide) (fun c2 => ?_) (fun c2 => ?_)
      · have hf := nm_ie c2 hf
        refine lv_iload_n hx hb dX12_fault__53 rfl (lv_at hl 2 rfl) ?_
        by_cases c3 : x2 = (0 : Int32)
        · have hf := nm_it c3 hf
          refine nm_tab (off := 30) (tgt := 84) hx hb c3 dX12_fault__54 (by decide) (by decide) (by decide) (by decide) ?_
          refine lv_aload_n hx hb dX12_fault__84 rfl (lv_at hl 0 rfl) ?_
          refine gf_12_40 hK hx hb hts hown hH mo_n0 mo_k0 (hts _ tw_996) (fun _ h9 => h9) dX12_fault__85 ?_
          refine lv_iload_n hx hb dX12_fault__88 rfl (lv_at hl 1 rfl) ?_
          obtain ⟨hi4, hf⟩ := nm_chk hf
          refine nm_iald hx hb hK hH mo_n41 mo_k41 mo_l41 hi4 dX12_fault__89 ?_
          exact nm_iret hx hb hr hlocks hQ hH (congrArg Prod.fst (Option.some.inj hf)) (congrArg (fun q => (q.2, nJ0, moZ)) (Option.some.inj hf)) dX12_fault__90
        have hf := nm_ie c3 hf
        by_cases c5 : x2 = (1 : Int32)
        · have hf := nm_it c5 hf
          refine nm_tab (off := 37) (tgt := 91) hx hb c5 dX12_fault__54 (by decide) (by decide) (by decide) (by decide) ?_
          refine lv_aload_n hx hb dX12_fault__91 rfl (lv_at hl 0 rfl) ?_
          refine gf_12_41 hK hx hb hts hown hH mo_n0 mo_k0 (hts _ tw_997) (fun _ h9 => h9) dX12_fault__92 ?_
          refine lv_iload_n hx hb dX12_fault__95 rfl (lv_at hl 1 rfl) ?_
          obtain ⟨hi6, hf⟩ := nm_chk hf
          refine nm_iald hx hb hK hH mo_n42 mo_k42 mo_l42 hi6 dX12_fault__96 ?_
          exact nm_iret hx hb hr hlocks hQ hH (congrArg Prod.fst (Option.some.inj hf)) (congrArg (fun q => (q.2, nJ0, moZ)) (Option.some.inj hf)) dX12_fault__97
        have hf := nm_ie c5 hf
        by_cases c7 : x2 = (2 : Int32)
        · have hf := nm_it c7 hf
          refine nm_tab (off := 44) (tgt := 98) hx hb c7 dX12_fault__54 (by decide) (by decide) (by decide) (by decide) ?_
          refine lv_aload_n hx hb dX12_fault__98 rfl (lv_at hl 0 rfl) ?_
          refine gf_12_42 hK hx hb hts hown hH mo_n0 mo_k0 (hts _ tw_998) (fun _ h9 => h9) dX12_fault__99 ?_
          refine lv_iload_n hx hb dX12_fault__102 rfl (lv_at hl 1 rfl) ?_
          obtain ⟨hi8, hf⟩ := nm_chk hf
          refine nm_iald hx hb hK hH mo_n43 mo_k43 mo_l43 hi8 dX12_fault__103 ?_
          exact nm_iret hx hb hr hlocks hQ hH (congrArg Prod.fst (Option.some.inj hf)) (congrArg (fun q => (q.2, nJ0, moZ)) (Option.some.inj hf)) dX12_fault__104
        have hf := nm_ie c7 hf
        by_cases c9 : x2 = (3 : Int32)
        · have hf := nm_it c9 hf
          refine nm_tab (off := 51) (tgt := 105) hx hb c9 dX12_fault__54 (by decide) (by decide) (by decide) (by decide) ?_
          refine lv_aload_n hx hb dX12_fault__105 rfl (lv_at hl 0 rfl) ?_
          refine gf_12_43 hK hx hb hts hown hH mo_n0 mo_k0 (hts _ tw_999) (fun _ h9 => h9) dX12_fault__106 ?_
          refine lv_iload_n hx hb dX12_fault__109 rfl (lv_at hl 1 rfl) ?_
          obtain ⟨hi10, hf⟩ := nm_chk hf
          refine nm_iald hx hb hK hH mo_n44 mo_k44 mo_l44 hi10 dX12_fault__110 ?_
          exact nm_iret hx hb hr hlocks hQ hH (congrArg Prod.fst (Option.some.inj hf)) (congrArg (fun q => (q.2, nJ0, moZ)) (Option.some.inj hf)) dX12_fault__111
        have hf := nm_ie c9 hf
        refine lv_tableOut (tgt := 112) hx hb dX12_fault__54 (nm_sw x2 (fun k h1 h2 hk => by
          rcases (show k = 0 ∨ k = 1 ∨ k = 2 ∨ k = 3 by omega) with rfl | rfl | rfl | rfl <;> first | exact c3 hk | exact c5 hk | exact c7 hk | exact c9 hk)) (by decide) ?_
        refine lv_aload_n hx hb dX12_fault__112 rfl (lv_at hl 0 rfl) ?_
        refine lv_bipush (v := -7) hx hb dX12_fault__113 (by decide) ?_
        obtain ⟨r13, I11, hc12, hf⟩ := nm_sd2 hf
        refine nm_calli (nm_runV (X := X) (nl := moN) (k_X12_no (hf := hc12)) hx hb hml hown hts hs0 hK hZ hH tw_1214 tw_1211 tw_1213 (sw_X12_no) tw_9 hd_X12_no mo_n0 mo_k0 (by decide) rfl rfl rfl ⟨Nat.le_trans (Nat.le_of_ble_eq_true rfl) hRf, Nat.le_trans (Nat.le_of_ble_eq_true rfl) hRl⟩ rfl hl.1 rfl (Nat.le_of_ble_eq_true rfl) dX12_fault__115 ⟨Nat.zero_le _, Nat.zero_le _⟩) hH (fun H locs hH => ?_)
        have hH : nm_H D Y (fun q => s0 ≤ q) s.heap X moN ad (I11, nJ0, moZ) H locs := hH
        exact nm_iret hx hb hr hlocks hQ hH (congrArg Prod.fst (Option.some.inj hf)) (congrArg (fun q => (q.2, nJ0, moZ)) (Option.some.inj hf)) dX12_fault__118
      · have hf := nm_it c2 hf
        refine lv_aload_n hx hb dX12_fault__46 rfl (lv_at hl 0 rfl) ?_
        refine lv_bipush (v := -3) hx hb dX12_fault__47 (by decide) ?_
        obtain ⟨r16, I14, hc15, hf⟩ := nm_sd2 hf
        refine nm_calli (nm_runV (X := X) (nl := moN) (k_X12_no (hf := hc15)) hx hb hml hown hts hs0 hK hZ hH tw_1214 tw_1211 tw_1213 (sw_X12_no) tw_9 hd_X12_no mo_n0 mo_k0 (by decide) rfl rfl rfl ⟨Nat.le_trans (Nat.le_of_ble_eq_true rfl) hRf, Nat.le_trans (Nat.le_of_ble_eq_true rfl) hRl⟩ rfl hl.1 rfl (Nat.le_of_ble_eq_true rfl) dX12_fault__49 ⟨Nat.zero_le _, Nat.zero_le _⟩) hH (fun H locs hH => ?_)
        have hH : nm_H D Y (fun q => s0 ≤ q) s.heap X moN ad (I14, nJ0, moZ) H locs := hH
        exact nm_iret hx hb hr hlocks hQ hH (congrArg Prod.fst (Option.some.inj hf)) (congrArg (fun q => (q.2, nJ0, moZ)) (Option.some.inj hf)) dX12_fault__52
    refine lv_icmp_ge (tgt := 34) hx hb dX12_fault__24 (by decide) (fun c17 => ?_) (fun c17 => ?_)
    · have hf := nm_it c17 hf
      refine lv_sipush (v := 600) hx hb dX12_fault__34 (by decide) ?_
      exact hJ37 (600 : Int32) (0 : Int64) x1.toInt64 _ _ _ hH (lv_sub hl [0, 1, 2] rfl) hf
    · have hf := nm_ie c17 hf
      refine lv_aload_n hx hb dX12_fault__27 rfl (lv_at hl 0 rfl) ?_
      refine gf_12_46 hK hx hb hts hown hH mo_n0 mo_k0 (hts _ tw_1002) (fun _ h9 => h9) dX12_fault__28 ?_
      refine lv_goto (tgt := 37) hx hb dX12_fault__31 (by decide) ?_
      exact hJ37 (I 0 46) (0 : Int64) x1.toInt64 _ _ _ hH (lv_sub hl [0, 1, 2] rfl) hf
  · have hf := nm_it c1 hf
    refine lv_aload_n hx hb dX12_fault__7 rfl (lv_at hl 0 rfl) ?_
    refine lv_bipush (v := -2) hx hb dX12_fault__8 (by decide) ?_
    obtain ⟨r20, I18, hc19, hf⟩ := nm_sd2 hf
    refine nm_calli (nm_runV (X := X) (nl := moN) (k_X12_no (hf := hc19)) hx hb hml hown hts hs0 hK hZ hH tw_1214 tw_1211 tw_1213 (sw_X12_no) tw_9 hd_X12_no mo_n0 mo_k0 (by decide) rfl rfl rfl ⟨Nat.le_trans (Nat.le_of_ble_eq_true rfl) hRf, Nat.le_trans (Nat.le_of_ble_eq_true rfl) hRl⟩ rfl hl.1 rfl (Nat.le_of_ble_eq_true rfl) dX12_fault__10 ⟨Nat.zero_le _, Nat.zero_le _⟩) hH (fun H locs hH => ?_)
    have hH : nm_H D Y (fun q => s0 ≤ q) s.heap X moN ad (I18, nJ0, moZ) H locs := hH
    exact nm_iret hx hb hr hlocks hQ hH (congrArg Prod.fst (Option.some.inj hf)) (congrArg (fun q => (q.2, nJ0, moZ)) (Option.some.inj hf)) dX12_fault__13
def f_X12_faults (x1 : Int32) (x2 : Int32) (I : nm_I) : Option (Int32 × nm_I) :=
(if (f_X12_isIn x1.toInt64 (0 : Int64) (((I 0 39) - (1 : Int32)).toInt64)) = 0 then
nm_s2 (f_X12_no (-3 : Int32) I) fun r15 I13 =>
some (r15, I13)
else
(if (I 0 21) = 0 then
nm_s2 (f_X12_no (-2 : Int32) I) fun r12 I10 =>
some (r12, I10)
else
(if (f_X12_isIn x2.toInt64 (0 : Int64) (1 : Int64)) = 0 then
nm_s2 (f_X12_no (-7 : Int32) I) fun r9 I7 =>
some (r9, I7)
else
(if x2 = 0 then
nm_c x1 16 (
some (I 45 x1.toNatClampNeg, I))
else
nm_c x1 16 (
some (I 46 x1.toNatClampNeg, I))))))
set_option maxHeartbeats 4000000 in
set_option maxRecDepth 100000 in
theorem k_X12_faults {l : Launch} {D : va_G} {Y : nm_Y} {s0 : Nat} {X : va_W} {ad : Nat → Nat}  {x1 : Int32} {x2 : Int32} {I : nm_I} {r0 : Int32} {M0 : nm_I} (hf : f_X12_faults x1 x2 I = some (r0, M0)) :
    nm_Met l yX12_faults cX12_faults 3 (some .int) { frames := 1, cells := 0, slots := 0, locals := 25 } [.ref (ad 0), .int x1, .int x2] D Y s0 (nm_W Y X moN ad (I, nJ0, moZ)) (nm_Qi D s0 r0 (nm_W Y X moN ad (M0, nJ0, moZ))) 0 0 := by
  refine nm_of (by decide) (Nat.le_of_ble_eq_true rfl) ?_
  intro p e R s m args below meth c Q ls hx hb hr hlocks hml hown hts hs0 hK hZ hRf hRl hRc hRs hQ hP hD hl
  have hH : nm_H D Y (fun q => s0 ≤ q) s.heap X moN ad (I, nJ0, moZ) s.heap [] := ⟨hP, hD, va_S.rf⟩
  have hl : lv_has ls 3 [(0, .ref (ad 0)), (1, .int x1), (2, .int x2)] := hl
  unfold f_X12_faults at hf
  refine lv_iload_n hx hb dX12_faults_0 rfl (lv_at hl 1 rfl) ?_
  refine lv_i2l hx hb dX12_faults_1 rfl ?_
  refine lv_lconst (v := 0) hx hb dX12_faults_2 (by decide) ?_
  refine lv_aload_n hx hb dX12_faults_3 rfl (lv_at hl 0 rfl) ?_
  refine gf_12_39 hK hx hb hts hown hH mo_n0 mo_k0 (hts _ tw_995) (fun _ h9 => h9) dX12_faults_4 ?_
  refine lv_iconst (v := 1) hx hb dX12_faults_7 (by decide) ?_
  refine lv_isub hx hb dX12_faults_8 ?_
  refine lv_i2l hx hb dX12_faults_9 rfl ?_
  refine nm_calli (nm_runS (X := X) (nl := moN) (k_X12_isIn (hf := (rfl : f_X12_isIn x1.toInt64 (0 : Int64) (((I 0 39) - (1 : Int32)).toInt64) = _))) hx hb hml hown hts hs0 hK hZ hH tw_1207 tw_1205 tw_1206 tw_9 hd_X12_isIn rfl rfl ⟨Nat.le_trans (Nat.le_of_ble_eq_true rfl) hRf, Nat.le_trans (Nat.le_of_ble_eq_true rfl) hRl⟩ rfl hl.1 rfl (Nat.le_of_ble_eq_true rfl) dX12_faults_10 ⟨Nat.zero_le _, Nat.zero_le _⟩) hH (fun H locs hH => ?_)
  have hH : nm_H D Y (fun q => s0 ≤ q) s.heap X moN ad (I, nJ0, moZ) H locs := hH
  refine lv_if_ne (tgt := 23) hx hb dX12_faults_13 (by decide) (fun c1 => ?_) (fun c1 => ?_)
  · have hf := nm_ie c1 hf
    refine lv_aload_n hx hb dX12_faults_23 rfl (lv_at hl 0 rfl) ?_
    refine gf_12_21 hK hx hb hts hown hH mo_n0 mo_k0 (hts _ tw_977) (fun _ h9 => h9) dX12_faults_24 ?_
    refine lv_if_ne (tgt := 37) hx hb dX12_faults_27 (by decide) (fun c2 => ?_) (fun c2 => ?_)
    · have hf := nm_ie c2 hf
      refine lv_iload_n hx hb dX12_faults_37 rfl (lv_at hl 2 rfl) ?_
      refine lv_i2l hx hb dX12_faults_38 rfl ?_
      refine lv_lconst (v := 0) hx hb dX12_faults_39 (by decide) ?_
      refine lv_lconst (v := 1) hx hb dX12_faults_40 (by decide) ?_
      refine nm_calli (nm_runS (X := X) (nl := moN) (k_X12_isIn (hf := (rfl : f_X12_isIn x2.toInt64 (0 : Int64) (1 : Int64) = _))) hx hb hml hown hts hs0 hK hZ hH tw_1207 tw_1205 tw_1206 tw_9 hd_X12_isIn rfl rfl ⟨Nat.le_trans (Nat.le_of_ble_eq_true rfl) hRf, Nat.le_trans (Nat.le_of_ble_eq_true rfl) hRl⟩ rfl hl.1 rfl (Nat.le_of_ble_eq_true rfl) dX12_faults_41 ⟨Nat.zero_le _, Nat.zero_le _⟩) hH (fun H locs hH => ?_)
      have hH : nm_H D Y (fun q => s0 ≤ q) s.heap X moN ad (I, nJ0, moZ) H locs := hH
      refine lv_if_ne (tgt := 54) hx hb dX12_faults_44 (by decide) (fun c3 => ?_) (fun c3 => ?_)
      · have hf := nm_ie c3 hf
        refine lv_iload_n hx hb dX12_faults_54 rfl (lv_at hl 2 rfl) ?_
        refine lv_if_ne (tgt := 67) hx hb dX12_faults_55 (by decide) (fun c4 => ?_) (fun c4 => ?_)
        · have hf := nm_ie c4 hf
          refine lv_aload_n hx hb dX12_faults_67 rfl (lv_at hl 0 rfl) ?_
          refine gf_12_45 hK hx hb hts hown hH mo_n0 mo_k0 (hts _ tw_1001) (fun _ h9 => h9) dX12_faults_68 ?_
          refine lv_iload_n hx hb dX12_faults_71 rfl (lv_at hl 1 rfl) ?_
          obtain ⟨hi5, hf⟩ := nm_chk hf
          refine nm_iald hx hb hK hH mo_n46 mo_k46 mo_l46 hi5 dX12_faults_72 ?_
          exact nm_iret hx hb hr hlocks hQ hH (congrArg Prod.fst (Option.some.inj hf)) (congrArg (fun q => (q.2, nJ0, moZ)) (Option.some.inj hf)) dX12_faults_73
        · have hf := nm_it c4 hf
          refine lv_aload_n hx hb dX12_faults_58 rfl (lv_at hl 0 rfl) ?_
          refine gf_12_44 hK hx hb hts hown hH mo_n0 mo_k0 (hts _ tw_1000) (fun _ h9 => h9) dX12_faults_59 ?_
          refine lv_iload_n hx hb dX12_faults_62 rfl (lv_at hl 1 rfl) ?_
          obtain ⟨hi6, hf⟩ := nm_chk hf
          refine nm_iald hx hb hK hH mo_n45 mo_k45 mo_l45 hi6 dX12_faults_63 ?_
          refine lv_goto (tgt := 73) hx hb dX12_faults_64 (by decide) ?_
          exact nm_iret hx hb hr hlocks hQ hH (congrArg Prod.fst (Option.some.inj hf)) (congrArg (fun q => (q.2, nJ0, moZ)) (Option.some.inj hf)) dX12_faults_73
      · have hf := nm_it c3 hf
        refine lv_aload_n hx hb dX12_faults_47 rfl (lv_at hl 0 rfl) ?_
        refine lv_bipush (v := -7) hx hb dX12_faults_48 (by decide) ?_
        obtain ⟨r9, I7, hc8, hf⟩ := nm_sd2 hf
        refine nm_calli (nm_runV (X := X) (nl := moN) (k_X12_no (hf := hc8)) hx hb hml hown hts hs0 hK hZ hH tw_1214 tw_1211 tw_1213 (sw_X12_no) tw_9 hd_X12_no mo_n0 mo_k0 (by decide) rfl rfl rfl ⟨Nat.le_trans (Nat.le_of_ble_eq_true rfl) hRf, Nat.le_trans (Nat.le_of_ble_eq_true rfl) hRl⟩ rfl hl.1 rfl (Nat.le_of_ble_eq_true rfl) dX12_faults_50 ⟨Nat.zero_le _, Nat.zero_le _⟩) hH (fun H locs hH => ?_)
        have hH : nm_H D Y (fun q => s0 ≤ q) s.heap X moN ad (I7, nJ0, moZ) H locs := hH
        exact nm_iret hx hb hr hlocks hQ hH (congrArg Prod.fst (Option.some.inj hf)) (congrArg (fun q => (q.2, nJ0, moZ)) (Option.some.inj hf)) dX12_faults_53
    · have hf := nm_it c2 hf
      refine lv_aload_n hx hb dX12_faults_30 rfl (lv_at hl 0 rfl) ?_
      refine lv_bipush (v := -2) hx hb dX12_faults_31 (by decide) ?_
      obtain ⟨r12, I10, hc11, hf⟩ := nm_sd2 hf
      refine nm_calli (nm_runV (X := X) (nl := moN) (k_X12_no (hf := hc11)) hx hb hml hown hts hs0 hK hZ hH tw_1214 tw_1211 tw_1213 (sw_X12_no) tw_9 hd_X12_no mo_n0 mo_k0 (by decide) rfl rfl rfl ⟨Nat.le_trans (Nat.le_of_ble_eq_true rfl) hRf, Nat.le_trans (Nat.le_of_ble_eq_true rfl) hRl⟩ rfl hl.1 rfl (Nat.le_of_ble_eq_true rfl) dX12_faults_33 ⟨Nat.zero_le _, Nat.zero_le _⟩) hH (fun H locs hH => ?_)
      have hH : nm_H D Y (fun q => s0 ≤ q) s.heap X moN ad (I10, nJ0, moZ) H locs := hH
      exact nm_iret hx hb hr hlocks hQ hH (congrArg Prod.fst (Option.some.inj hf)) (congrArg (fun q => (q.2, nJ0, moZ)) (Option.some.inj hf)) dX12_faults_36
  · have hf := nm_it c1 hf
    refine lv_aload_n hx hb dX12_faults_16 rfl (lv_at hl 0 rfl) ?_
    refine lv_bipush (v := -3) hx hb dX12_faults_17 (by decide) ?_
    obtain ⟨r15, I13, hc14, hf⟩ := nm_sd2 hf
    refine nm_calli (nm_runV (X := X) (nl := moN) (k_X12_no (hf := hc14)) hx hb hml hown hts hs0 hK hZ hH tw_1214 tw_1211 tw_1213 (sw_X12_no) tw_9 hd_X12_no mo_n0 mo_k0 (by decide) rfl rfl rfl ⟨Nat.le_trans (Nat.le_of_ble_eq_true rfl) hRf, Nat.le_trans (Nat.le_of_ble_eq_true rfl) hRl⟩ rfl hl.1 rfl (Nat.le_of_ble_eq_true rfl) dX12_faults_19 ⟨Nat.zero_le _, Nat.zero_le _⟩) hH (fun H locs hH => ?_)
    have hH : nm_H D Y (fun q => s0 ≤ q) s.heap X moN ad (I13, nJ0, moZ) H locs := hH
    exact nm_iret hx hb hr hlocks hQ hH (congrArg Prod.fst (Option.some.inj hf)) (congrArg (fun q => (q.2, nJ0, moZ)) (Option.some.inj hf)) dX12_faults_22
def f_X12_conducts_J28 (x1 : Int32) (x2 : Int32) (t28_0 : Int32) (I : nm_I) : Option (Int32 × nm_I) :=
nm_c x1 16 (
nm_l (nm_up I 49 x1.toNatClampNeg (vp_nar .boolean x2)) fun I4 =>
some (t28_0, I4))
def f_X12_conducts (x1 : Int32) (x2 : Int32) (I : nm_I) : Option (Int32 × nm_I) :=
(if (f_X12_isLayer x1) = 0 then
nm_s2 (f_X12_no (-3 : Int32) I) fun r8 I6 =>
some (r8, I6)
else
nm_c x1 16 (
(if (I 49 x1.toNatClampNeg) = 0 then
f_X12_conducts_J28 x1 x2 (0 : Int32) I
else
f_X12_conducts_J28 x1 x2 (1 : Int32) I)))
set_option maxHeartbeats 4000000 in
set_option maxRecDepth 100000 in
theorem k_X12_conducts {l : Launch} {D : va_G} {Y : nm_Y} {s0 : Nat} {X : va_W} {ad : Nat → Nat}  {x1 : Int32} {x2 : Int32} {I : nm_I} {r0 : Int32} {M0 : nm_I} (hf : f_X12_conducts x1 x2 I = some (r0, M0)) :
    nm_Met l yX12_conducts cX12_conducts 4 (some .int) { frames := 1, cells := 0, slots := 0, locals := 21 } [.ref (ad 0), .int x1, .int x2] D Y s0 (nm_W Y X moN ad (I, nJ0, moZ)) (nm_Qi D s0 r0 (nm_W Y X moN ad (M0, nJ0, moZ))) 0 0 := by
  refine nm_of (by decide) (Nat.le_of_ble_eq_true rfl) ?_
  intro p e R s m args below meth c Q ls hx hb hr hlocks hml hown hts hs0 hK hZ hRf hRl hRc hRs hQ hP hD hl
  have hH : nm_H D Y (fun q => s0 ≤ q) s.heap X moN ad (I, nJ0, moZ) s.heap [] := ⟨hP, hD, va_S.rf⟩
  have hl : lv_has ls 4 [(0, .ref (ad 0)), (1, .int x1), (2, .int x2)] := hl
  unfold f_X12_conducts at hf
  refine lv_iload_n hx hb dX12_conducts_0 rfl (lv_at hl 1 rfl) ?_
  refine nm_calli (nm_runS (X := X) (nl := moN) (k_X12_isLayer (hf := (rfl : f_X12_isLayer x1 = _))) hx hb hml hown hts hs0 hK hZ hH tw_1231 tw_1229 tw_1230 tw_9 hd_X12_isLayer rfl rfl ⟨Nat.le_trans (Nat.le_of_ble_eq_true rfl) hRf, Nat.le_trans (Nat.le_of_ble_eq_true rfl) hRl⟩ rfl hl.1 rfl (Nat.le_of_ble_eq_true rfl) dX12_conducts_1 ⟨Nat.zero_le _, Nat.zero_le _⟩) hH (fun H locs hH => ?_)
  have hH : nm_H D Y (fun q => s0 ≤ q) s.heap X moN ad (I, nJ0, moZ) H locs := hH
  refine lv_if_ne (tgt := 14) hx hb dX12_conducts_4 (by decide) (fun c1 => ?_) (fun c1 => ?_)
  · have hf := nm_ie c1 hf
    refine lv_aload_n hx hb dX12_conducts_14 rfl (lv_at hl 0 rfl) ?_
    refine gf_12_48 hK hx hb hts hown hH mo_n0 mo_k0 (hts _ tw_1003) (fun _ h9 => h9) dX12_conducts_15 ?_
    refine lv_iload_n hx hb dX12_conducts_18 rfl (lv_at hl 1 rfl) ?_
    obtain ⟨hi2, hf⟩ := nm_chk hf
    refine nm_zald hx hb hK hH mo_n49 mo_k49 mo_l49 hi2 dX12_conducts_19 ?_
    have hJ28 : ∀ (t28_0 : Int32) (H : Heap) (locs : List Loc) (ls : Array Slot), nm_H D Y (fun q => s0 ≤ q) s.heap X moN ad (I, nJ0, moZ) H locs → lv_has ls 4 [(0, .ref (ad 0)), (1, .int x1), (2, .int x2)] → f_X12_conducts_J28 x1 x2 t28_0 I = some (r0, M0) → W p l e R s m args below meth c H locs 0 0 Q (F0 m 28 ls [.int t28_0]) := by
      intro t28_0 H locs ls hH hl hf
      unfold f_X12_conducts_J28 at hf
      refine lv_istore_n (lv' := [(3, .int t28_0), (0, .ref (ad 0)), (1, .int x1), (2, .int x2)]) hx hb dX12_conducts_28 rfl hl (by decide) rfl (fun ls hl => ?_)
      refine lv_aload_n hx hb dX12_conducts_29 rfl (lv_at hl 1 rfl) ?_
      refine gf_12_48 hK hx hb hts hown hH mo_n0 mo_k0 (hts _ tw_1003) (fun _ h9 => h9) dX12_conducts_30 ?_
      refine lv_iload_n hx hb dX12_conducts_33 rfl (lv_at hl 2 rfl) ?_
      refine lv_iload_n hx hb dX12_conducts_34 rfl (lv_at hl 3 rfl) ?_
      obtain ⟨hi3, hf⟩ := nm_chk hf
      obtain ⟨I4, eI4, hf⟩ := nm_let hf
      refine nm_zast hx hb hK hH mo_n49 mo_k49 mo_l49 hi3 dX12_conducts_35 (fun H locs hH => ?_)
      have hH : nm_H D Y (fun q => s0 ≤ q) s.heap X moN ad (I4, nJ0, moZ) H locs := by rw [eI4]; exact hH
      refine lv_iload_n hx hb dX12_conducts_36 rfl (lv_at hl 0 rfl) ?_
      exact nm_iret hx hb hr hlocks hQ hH (congrArg Prod.fst (Option.some.inj hf)) (congrArg (fun q => (q.2, nJ0, moZ)) (Option.some.inj hf)) dX12_conducts_37
    refine lv_if_eq (tgt := 27) hx hb dX12_conducts_20 (by decide) (fun c5 => ?_) (fun c5 => ?_)
    · have hf := nm_it c5 hf
      refine lv_iconst (v := 0) hx hb dX12_conducts_27 (by decide) ?_
      exact hJ28 (0 : Int32) _ _ _ hH (lv_sub hl [0, 1, 2] rfl) hf
    · have hf := nm_ie c5 hf
      refine lv_iconst (v := 1) hx hb dX12_conducts_23 (by decide) ?_
      refine lv_goto (tgt := 28) hx hb dX12_conducts_24 (by decide) ?_
      exact hJ28 (1 : Int32) _ _ _ hH (lv_sub hl [0, 1, 2] rfl) hf
  · have hf := nm_it c1 hf
    refine lv_aload_n hx hb dX12_conducts_7 rfl (lv_at hl 0 rfl) ?_
    refine lv_bipush (v := -3) hx hb dX12_conducts_8 (by decide) ?_
    obtain ⟨r8, I6, hc7, hf⟩ := nm_sd2 hf
    refine nm_calli (nm_runV (X := X) (nl := moN) (k_X12_no (hf := hc7)) hx hb hml hown hts hs0 hK hZ hH tw_1214 tw_1211 tw_1213 (sw_X12_no) tw_9 hd_X12_no mo_n0 mo_k0 (by decide) rfl rfl rfl ⟨Nat.le_trans (Nat.le_of_ble_eq_true rfl) hRf, Nat.le_trans (Nat.le_of_ble_eq_true rfl) hRl⟩ rfl hl.1 rfl (Nat.le_of_ble_eq_true rfl) dX12_conducts_10 ⟨Nat.zero_le _, Nat.zero_le _⟩) hH (fun H locs hH => ?_)
    have hH : nm_H D Y (fun q => s0 ≤ q) s.heap X moN ad (I6, nJ0, moZ) H locs := hH
    exact nm_iret hx hb hr hlocks hQ hH (congrArg Prod.fst (Option.some.inj hf)) (congrArg (fun q => (q.2, nJ0, moZ)) (Option.some.inj hf)) dX12_conducts_13
def f_X12_joint (x1 : Int32) (x2 : Int32) (x3 : Int32) (I : nm_I) : Option (Int32 × nm_I) :=
(if (f_X12_isLayer x1) = 0 then
nm_s2 (f_X12_no (-3 : Int32) I) fun r4 I2 =>
some (r4, I2)
else
(if (f_X12_isLayer x2) = 0 then
nm_s2 (f_X12_no (-3 : Int32) I) fun r8 I6 =>
some (r8, I6)
else
(if (f_X12_isLayer x3) = 0 then
nm_s2 (f_X12_no (-3 : Int32) I) fun r23 I21 =>
some (r23, I21)
else
(if (I 0 53) = (8 : Int32) then
nm_s2 (f_X12_no (-8 : Int32) I) fun r20 I18 =>
some (r20, I18)
else
nm_c (I 0 53) 8 (
nm_l (nm_up I 51 ((I 0 53).toNatClampNeg) x1) fun I12 =>
nm_c (I12 0 53) 8 (
nm_l (nm_up I12 52 ((I12 0 53).toNatClampNeg) x2) fun I14 =>
nm_c (I14 0 53) 8 (
nm_l (nm_up I14 53 ((I14 0 53).toNatClampNeg) x3) fun I16 =>
nm_l (nm_up I16 0 53 ((I16 0 53) + (1 : Int32))) fun I17 =>
some (I17 0 53, I17))))))))
set_option maxHeartbeats 4000000 in
set_option maxRecDepth 100000 in
theorem k_X12_joint {l : Launch} {D : va_G} {Y : nm_Y} {s0 : Nat} {X : va_W} {ad : Nat → Nat}  {x1 : Int32} {x2 : Int32} {x3 : Int32} {I : nm_I} {r0 : Int32} {M0 : nm_I} (hf : f_X12_joint x1 x2 x3 I = some (r0, M0)) :
    nm_Met l yX12_joint cX12_joint 4 (some .int) { frames := 1, cells := 0, slots := 0, locals := 21 } [.ref (ad 0), .int x1, .int x2, .int x3] D Y s0 (nm_W Y X moN ad (I, nJ0, moZ)) (nm_Qi D s0 r0 (nm_W Y X moN ad (M0, nJ0, moZ))) 0 0 := by
  refine nm_of (by decide) (Nat.le_of_ble_eq_true rfl) ?_
  intro p e R s m args below meth c Q ls hx hb hr hlocks hml hown hts hs0 hK hZ hRf hRl hRc hRs hQ hP hD hl
  have hH : nm_H D Y (fun q => s0 ≤ q) s.heap X moN ad (I, nJ0, moZ) s.heap [] := ⟨hP, hD, va_S.rf⟩
  have hl : lv_has ls 4 [(0, .ref (ad 0)), (1, .int x1), (2, .int x2), (3, .int x3)] := hl
  unfold f_X12_joint at hf
  refine lv_iload_n hx hb dX12_joint_0 rfl (lv_at hl 1 rfl) ?_
  refine nm_calli (nm_runS (X := X) (nl := moN) (k_X12_isLayer (hf := (rfl : f_X12_isLayer x1 = _))) hx hb hml hown hts hs0 hK hZ hH tw_1231 tw_1229 tw_1230 tw_9 hd_X12_isLayer rfl rfl ⟨Nat.le_trans (Nat.le_of_ble_eq_true rfl) hRf, Nat.le_trans (Nat.le_of_ble_eq_true rfl) hRl⟩ rfl hl.1 rfl (Nat.le_of_ble_eq_true rfl) dX12_joint_1 ⟨Nat.zero_le _, Nat.zero_le _⟩) hH (fun H locs hH => ?_)
  have hH : nm_H D Y (fun q => s0 ≤ q) s.heap X moN ad (I, nJ0, moZ) H locs := hH
  refine lv_if_eq (tgt := 21) hx hb dX12_joint_4 (by decide) (fun c1 => ?_) (fun c1 => ?_)
  · have hf := nm_it c1 hf
    refine lv_aload_n hx hb dX12_joint_21 rfl (lv_at hl 0 rfl) ?_
    refine lv_bipush (v := -3) hx hb dX12_joint_22 (by decide) ?_
    obtain ⟨r4, I2, hc3, hf⟩ := nm_sd2 hf
    refine nm_calli (nm_runV (X := X) (nl := moN) (k_X12_no (hf := hc3)) hx hb hml hown hts hs0 hK hZ hH tw_1214 tw_1211 tw_1213 (sw_X12_no) tw_9 hd_X12_no mo_n0 mo_k0 (by decide) rfl rfl rfl ⟨Nat.le_trans (Nat.le_of_ble_eq_true rfl) hRf, Nat.le_trans (Nat.le_of_ble_eq_true rfl) hRl⟩ rfl hl.1 rfl (Nat.le_of_ble_eq_true rfl) dX12_joint_24 ⟨Nat.zero_le _, Nat.zero_le _⟩) hH (fun H locs hH => ?_)
    have hH : nm_H D Y (fun q => s0 ≤ q) s.heap X moN ad (I2, nJ0, moZ) H locs := hH
    exact nm_iret hx hb hr hlocks hQ hH (congrArg Prod.fst (Option.some.inj hf)) (congrArg (fun q => (q.2, nJ0, moZ)) (Option.some.inj hf)) dX12_joint_27
  · have hf := nm_ie c1 hf
    refine lv_iload_n hx hb dX12_joint_7 rfl (lv_at hl 2 rfl) ?_
    refine nm_calli (nm_runS (X := X) (nl := moN) (k_X12_isLayer (hf := (rfl : f_X12_isLayer x2 = _))) hx hb hml hown hts hs0 hK hZ hH tw_1231 tw_1229 tw_1230 tw_9 hd_X12_isLayer rfl rfl ⟨Nat.le_trans (Nat.le_of_ble_eq_true rfl) hRf, Nat.le_trans (Nat.le_of_ble_eq_true rfl) hRl⟩ rfl hl.1 rfl (Nat.le_of_ble_eq_true rfl) dX12_joint_8 ⟨Nat.zero_le _, Nat.zero_le _⟩) hH (fun H locs hH => ?_)
    have hH : nm_H D Y (fun q => s0 ≤ q) s.heap X moN ad (I, nJ0, moZ) H locs := hH
    refine lv_if_eq (tgt := 21) hx hb dX12_joint_11 (by decide) (fun c5 => ?_) (fun c5 => ?_)
    · have hf := nm_it c5 hf
      refine lv_aload_n hx hb dX12_joint_21 rfl (lv_at hl 0 rfl) ?_
      refine lv_bipush (v := -3) hx hb dX12_joint_22 (by decide) ?_
      obtain ⟨r8, I6, hc7, hf⟩ := nm_sd2 hf
      refine nm_calli (nm_runV (X := X) (nl := moN) (k_X12_no (hf := hc7)) hx hb hml hown hts hs0 hK hZ hH tw_1214 tw_1211 tw_1213 (sw_X12_no) tw_9 hd_X12_no mo_n0 mo_k0 (by decide) rfl rfl rfl ⟨Nat.le_trans (Nat.le_of_ble_eq_true rfl) hRf, Nat.le_trans (Nat.le_of_ble_eq_true rfl) hRl⟩ rfl hl.1 rfl (Nat.le_of_ble_eq_true rfl) dX12_joint_24 ⟨Nat.zero_le _, Nat.zero_le _⟩) hH (fun H locs hH => ?_)
      have hH : nm_H D Y (fun q => s0 ≤ q) s.heap X moN ad (I6, nJ0, moZ) H locs := hH
      exact nm_iret hx hb hr hlocks hQ hH (congrArg Prod.fst (Option.some.inj hf)) (congrArg (fun q => (q.2, nJ0, moZ)) (Option.some.inj hf)) dX12_joint_27
    · have hf := nm_ie c5 hf
      refine lv_iload_n hx hb dX12_joint_14 rfl (lv_at hl 3 rfl) ?_
      refine nm_calli (nm_runS (X := X) (nl := moN) (k_X12_isLayer (hf := (rfl : f_X12_isLayer x3 = _))) hx hb hml hown hts hs0 hK hZ hH tw_1231 tw_1229 tw_1230 tw_9 hd_X12_isLayer rfl rfl ⟨Nat.le_trans (Nat.le_of_ble_eq_true rfl) hRf, Nat.le_trans (Nat.le_of_ble_eq_true rfl) hRl⟩ rfl hl.1 rfl (Nat.le_of_ble_eq_true rfl) dX12_joint_15 ⟨Nat.zero_le _, Nat.zero_le _⟩) hH (fun H locs hH => ?_)
      have hH : nm_H D Y (fun q => s0 ≤ q) s.heap X moN ad (I, nJ0, moZ) H locs := hH
      refine lv_if_ne (tgt := 28) hx hb dX12_joint_18 (by decide) (fun c9 => ?_) (fun c9 => ?_)
      · have hf := nm_ie c9 hf
        refine lv_aload_n hx hb dX12_joint_28 rfl (lv_at hl 0 rfl) ?_
        refine gf_12_53 hK hx hb hts hown hH mo_n0 mo_k0 (hts _ tw_1008) (fun _ h9 => h9) dX12_joint_29 ?_
        refine lv_bipush (v := 8) hx hb dX12_joint_32 (by decide) ?_
        refine lv_icmp_ne (tgt := 44) hx hb dX12_joint_34 (by decide) (fun c10 => ?_) (fun c10 => ?_)
        · have hf := nm_ie c10 hf
          refine lv_aload_n hx hb dX12_joint_44 rfl (lv_at hl 0 rfl) ?_
          refine gf_12_50 hK hx hb hts hown hH mo_n0 mo_k0 (hts _ tw_1005) (fun _ h9 => h9) dX12_joint_45 ?_
          refine lv_aload_n hx hb dX12_joint_48 rfl (lv_at hl 0 rfl) ?_
          refine gf_12_53 hK hx hb hts hown hH mo_n0 mo_k0 (hts _ tw_1008) (fun _ h9 => h9) dX12_joint_49 ?_
          refine lv_iload_n hx hb dX12_joint_52 rfl (lv_at hl 1 rfl) ?_
          obtain ⟨hi11, hf⟩ := nm_chk hf
          obtain ⟨I12, eI12, hf⟩ := nm_let hf
          refine nm_iast hx hb hK hH mo_n51 mo_k51 mo_l51 hi11 dX12_joint_53 (fun H locs hH => ?_)
          have hH : nm_H D Y (fun q => s0 ≤ q) s.heap X moN ad (I12, nJ0, moZ) H locs := by rw [eI12]; exact hH
          refine lv_aload_n hx hb dX12_joint_54 rfl (lv_at hl 0 rfl) ?_
          refine gf_12_51 hK hx hb hts hown hH mo_n0 mo_k0 (hts _ tw_1006) (fun _ h9 => h9) dX12_joint_55 ?_
          refine lv_aload_n hx hb dX12_joint_58 rfl (lv_at hl 0 rfl) ?_
          refine gf_12_53 hK hx hb hts hown hH mo_n0 mo_k0 (hts _ tw_1008) (fun _ h9 => h9) dX12_joint_59 ?_
          refine lv_iload_n hx hb dX12_joint_62 rfl (lv_at hl 2 rfl) ?_
          obtain ⟨hi13, hf⟩ := nm_chk hf
          obtain ⟨I14, eI14, hf⟩ := nm_let hf
          refine nm_iast hx hb hK hH mo_n52 mo_k52 mo_l52 hi13 dX12_joint_63 (fun H locs hH => ?_)
          have hH : nm_H D Y (fun q => s0 ≤ q) s.heap X moN ad (I14, nJ0, moZ) H locs := by rw [eI14]; exact hH
          refine lv_aload_n hx hb dX12_joint_64 rfl (lv_at hl 0 rfl) ?_
          refine gf_12_52 hK hx hb hts hown hH mo_n0 mo_k0 (hts _ tw_1007) (fun _ h9 => h9) dX12_joint_65 ?_
          refine lv_aload_n hx hb dX12_joint_68 rfl (lv_at hl 0 rfl) ?_
          refine gf_12_53 hK hx hb hts hown hH mo_n0 mo_k0 (hts _ tw_1008) (fun _ h9 => h9) dX12_joint_69 ?_
          refine lv_iload_n hx hb dX12_joint_72 rfl (lv_at hl 3 rfl) ?_
          obtain ⟨hi15, hf⟩ := nm_chk hf
          obtain ⟨I16, eI16, hf⟩ := nm_let hf
          refine nm_iast hx hb hK hH mo_n53 mo_k53 mo_l53 hi15 dX12_joint_73 (fun H locs hH => ?_)
          have hH : nm_H D Y (fun q => s0 ≤ q) s.heap X moN ad (I16, nJ0, moZ) H locs := by rw [eI16]; exact hH
          refine lv_aload_n hx hb dX12_joint_74 rfl (lv_at hl 0 rfl) ?_
          refine lv_dup hx hb dX12_joint_75 rfl ?_
          refine gf_12_53 hK hx hb hts hown hH mo_n0 mo_k0 (hts _ tw_1008) (fun _ h9 => h9) dX12_joint_76 ?_
          refine lv_iconst (v := 1) hx hb dX12_joint_79 (by decide) ?_
          refine lv_iadd hx hb dX12_joint_80 ?_
          obtain ⟨I17, eI17, hf⟩ := nm_let hf
          refine pf_12_53 hK hx hb hts hown hH mo_n0 mo_k0 (hts _ tw_1008) (fun _ h9 => h9) dX12_joint_81 (fun H locs hH => ?_)
          have hH : nm_H D Y (fun q => s0 ≤ q) s.heap X moN ad (I17, nJ0, moZ) H locs := by rw [eI17]; exact hH
          refine lv_aload_n hx hb dX12_joint_84 rfl (lv_at hl 0 rfl) ?_
          refine gf_12_53 hK hx hb hts hown hH mo_n0 mo_k0 (hts _ tw_1008) (fun _ h9 => h9) dX12_joint_85 ?_
          exact nm_iret hx hb hr hlocks hQ hH (congrArg Prod.fst (Option.some.inj hf)) (congrArg (fun q => (q.2, nJ0, moZ)) (Option.some.inj hf)) dX12_joint_88
        · have hf := nm_it c10 hf
          refine lv_aload_n hx hb dX12_joint_37 rfl (lv_at hl 0 rfl) ?_
          refine lv_bipush (v := -8) hx hb dX12_joint_38 (by decide) ?_
          obtain ⟨r20, I18, hc19, hf⟩ := nm_sd2 hf
          refine nm_calli (nm_runV (X := X) (nl := moN) (k_X12_no (hf := hc19)) hx hb hml hown hts hs0 hK hZ hH tw_1214 tw_1211 tw_1213 (sw_X12_no) tw_9 hd_X12_no mo_n0 mo_k0 (by decide) rfl rfl rfl ⟨Nat.le_trans (Nat.le_of_ble_eq_true rfl) hRf, Nat.le_trans (Nat.le_of_ble_eq_true rfl) hRl⟩ rfl hl.1 rfl (Nat.le_of_ble_eq_true rfl) dX12_joint_40 ⟨Nat.zero_le _, Nat.zero_le _⟩) hH (fun H locs hH => ?_)
          have hH : nm_H D Y (fun q => s0 ≤ q) s.heap X moN ad (I18, nJ0, moZ) H locs := hH
          exact nm_iret hx hb hr hlocks hQ hH (congrArg Prod.fst (Option.some.inj hf)) (congrArg (fun q => (q.2, nJ0, moZ)) (Option.some.inj hf)) dX12_joint_43
      · have hf := nm_it c9 hf
        refine lv_aload_n hx hb dX12_joint_21 rfl (lv_at hl 0 rfl) ?_
        refine lv_bipush (v := -3) hx hb dX12_joint_22 (by decide) ?_
        obtain ⟨r23, I21, hc22, hf⟩ := nm_sd2 hf
        refine nm_calli (nm_runV (X := X) (nl := moN) (k_X12_no (hf := hc22)) hx hb hml hown hts hs0 hK hZ hH tw_1214 tw_1211 tw_1213 (sw_X12_no) tw_9 hd_X12_no mo_n0 mo_k0 (by decide) rfl rfl rfl ⟨Nat.le_trans (Nat.le_of_ble_eq_true rfl) hRf, Nat.le_trans (Nat.le_of_ble_eq_true rfl) hRl⟩ rfl hl.1 rfl (Nat.le_of_ble_eq_true rfl) dX12_joint_24 ⟨Nat.zero_le _, Nat.zero_le _⟩) hH (fun H locs hH => ?_)
        have hH : nm_H D Y (fun q => s0 ≤ q) s.heap X moN ad (I21, nJ0, moZ) H locs := hH
        exact nm_iret hx hb hr hlocks hQ hH (congrArg Prod.fst (Option.some.inj hf)) (congrArg (fun q => (q.2, nJ0, moZ)) (Option.some.inj hf)) dX12_joint_27
def f_X12_gates (x1 : Int32) (x2 : Int32) (x3 : Int32) (I : nm_I) : Option (Int32 × nm_I) :=
(if (f_X12_isLayer x1) = 0 then
nm_s2 (f_X12_no (-3 : Int32) I) fun r4 I2 =>
some (r4, I2)
else
(if (f_X12_isLayer x2) = 0 then
nm_s2 (f_X12_no (-3 : Int32) I) fun r8 I6 =>
some (r8, I6)
else
(if (f_X12_isLayer x3) = 0 then
nm_s2 (f_X12_no (-3 : Int32) I) fun r20 I18 =>
some (r20, I18)
else
nm_c x3 16 (
(if (I 49 x3.toNatClampNeg) = 0 then
nm_s2 (f_X12_no (-7 : Int32) I) fun r17 I15 =>
some (r17, I15)
else
nm_l (nm_up I 0 54 x1) fun I12 =>
nm_l (nm_up I12 0 55 x2) fun I13 =>
nm_l (nm_up I13 0 56 x3) fun I14 =>
some ((1 : Int32), I14))))))
set_option maxHeartbeats 4000000 in
set_option maxRecDepth 100000 in
theorem k_X12_gates {l : Launch} {D : va_G} {Y : nm_Y} {s0 : Nat} {X : va_W} {ad : Nat → Nat}  {x1 : Int32} {x2 : Int32} {x3 : Int32} {I : nm_I} {r0 : Int32} {M0 : nm_I} (hf : f_X12_gates x1 x2 x3 I = some (r0, M0)) :
    nm_Met l yX12_gates cX12_gates 4 (some .int) { frames := 1, cells := 0, slots := 0, locals := 21 } [.ref (ad 0), .int x1, .int x2, .int x3] D Y s0 (nm_W Y X moN ad (I, nJ0, moZ)) (nm_Qi D s0 r0 (nm_W Y X moN ad (M0, nJ0, moZ))) 0 0 := by
  refine nm_of (by decide) (Nat.le_of_ble_eq_true rfl) ?_
  intro p e R s m args below meth c Q ls hx hb hr hlocks hml hown hts hs0 hK hZ hRf hRl hRc hRs hQ hP hD hl
  have hH : nm_H D Y (fun q => s0 ≤ q) s.heap X moN ad (I, nJ0, moZ) s.heap [] := ⟨hP, hD, va_S.rf⟩
  have hl : lv_has ls 4 [(0, .ref (ad 0)), (1, .int x1), (2, .int x2), (3, .int x3)] := hl
  unfold f_X12_gates at hf
  refine lv_iload_n hx hb dX12_gates_0 rfl (lv_at hl 1 rfl) ?_
  refine nm_calli (nm_runS (X := X) (nl := moN) (k_X12_isLayer (hf := (rfl : f_X12_isLayer x1 = _))) hx hb hml hown hts hs0 hK hZ hH tw_1231 tw_1229 tw_1230 tw_9 hd_X12_isLayer rfl rfl ⟨Nat.le_trans (Nat.le_of_ble_eq_true rfl) hRf, Nat.le_trans (Nat.le_of_ble_eq_true rfl) hRl⟩ rfl hl.1 rfl (Nat.le_of_ble_eq_true rfl) dX12_gates_1 ⟨Nat.zero_le _, Nat.zero_le _⟩) hH (fun H locs hH => ?_)
  have hH : nm_H D Y (fun q => s0 ≤ q) s.heap X moN ad (I, nJ0, moZ) H locs := hH
  refine lv_if_eq (tgt := 21) hx hb dX12_gates_4 (by decide) (fun c1 => ?_) (fun c1 => ?_)
  · have hf := nm_it c1 hf
    refine lv_aload_n hx hb dX12_gates_21 rfl (lv_at hl 0 rfl) ?_
    refine lv_bipush (v := -3) hx hb dX12_gates_22 (by decide) ?_
    obtain ⟨r4, I2, hc3, hf⟩ := nm_sd2 hf
    refine nm_calli (nm_runV (X := X) (nl := moN) (k_X12_no (hf := hc3)) hx hb hml hown hts hs0 hK hZ hH tw_1214 tw_1211 tw_1213 (sw_X12_no) tw_9 hd_X12_no mo_n0 mo_k0 (by decide) rfl rfl rfl ⟨Nat.le_trans (Nat.le_of_ble_eq_true rfl) hRf, Nat.le_trans (Nat.le_of_ble_eq_true rfl) hRl⟩ rfl hl.1 rfl (Nat.le_of_ble_eq_true rfl) dX12_gates_24 ⟨Nat.zero_le _, Nat.zero_le _⟩) hH (fun H locs hH => ?_)
    have hH : nm_H D Y (fun q => s0 ≤ q) s.heap X moN ad (I2, nJ0, moZ) H locs := hH
    exact nm_iret hx hb hr hlocks hQ hH (congrArg Prod.fst (Option.some.inj hf)) (congrArg (fun q => (q.2, nJ0, moZ)) (Option.some.inj hf)) dX12_gates_27
  · have hf := nm_ie c1 hf
    refine lv_iload_n hx hb dX12_gates_7 rfl (lv_at hl 2 rfl) ?_
    refine nm_calli (nm_runS (X := X) (nl := moN) (k_X12_isLayer (hf := (rfl : f_X12_isLayer x2 = _))) hx hb hml hown hts hs0 hK hZ hH tw_1231 tw_1229 tw_1230 tw_9 hd_X12_isLayer rfl rfl ⟨Nat.le_trans (Nat.le_of_ble_eq_true rfl) hRf, Nat.le_trans (Nat.le_of_ble_eq_true rfl) hRl⟩ rfl hl.1 rfl (Nat.le_of_ble_eq_true rfl) dX12_gates_8 ⟨Nat.zero_le _, Nat.zero_le _⟩) hH (fun H locs hH => ?_)
    have hH : nm_H D Y (fun q => s0 ≤ q) s.heap X moN ad (I, nJ0, moZ) H locs := hH
    refine lv_if_eq (tgt := 21) hx hb dX12_gates_11 (by decide) (fun c5 => ?_) (fun c5 => ?_)
    · have hf := nm_it c5 hf
      refine lv_aload_n hx hb dX12_gates_21 rfl (lv_at hl 0 rfl) ?_
      refine lv_bipush (v := -3) hx hb dX12_gates_22 (by decide) ?_
      obtain ⟨r8, I6, hc7, hf⟩ := nm_sd2 hf
      refine nm_calli (nm_runV (X := X) (nl := moN) (k_X12_no (hf := hc7)) hx hb hml hown hts hs0 hK hZ hH tw_1214 tw_1211 tw_1213 (sw_X12_no) tw_9 hd_X12_no mo_n0 mo_k0 (by decide) rfl rfl rfl ⟨Nat.le_trans (Nat.le_of_ble_eq_true rfl) hRf, Nat.le_trans (Nat.le_of_ble_eq_true rfl) hRl⟩ rfl hl.1 rfl (Nat.le_of_ble_eq_true rfl) dX12_gates_24 ⟨Nat.zero_le _, Nat.zero_le _⟩) hH (fun H locs hH => ?_)
      have hH : nm_H D Y (fun q => s0 ≤ q) s.heap X moN ad (I6, nJ0, moZ) H locs := hH
      exact nm_iret hx hb hr hlocks hQ hH (congrArg Prod.fst (Option.some.inj hf)) (congrArg (fun q => (q.2, nJ0, moZ)) (Option.some.inj hf)) dX12_gates_27
    · have hf := nm_ie c5 hf
      refine lv_iload_n hx hb dX12_gates_14 rfl (lv_at hl 3 rfl) ?_
      refine nm_calli (nm_runS (X := X) (nl := moN) (k_X12_isLayer (hf := (rfl : f_X12_isLayer x3 = _))) hx hb hml hown hts hs0 hK hZ hH tw_1231 tw_1229 tw_1230 tw_9 hd_X12_isLayer rfl rfl ⟨Nat.le_trans (Nat.le_of_ble_eq_true rfl) hRf, Nat.le_trans (Nat.le_of_ble_eq_true rfl) hRl⟩ rfl hl.1 rfl (Nat.le_of_ble_eq_true rfl) dX12_gates_15 ⟨Nat.zero_le _, Nat.zero_le _⟩) hH (fun H locs hH => ?_)
      have hH : nm_H D Y (fun q => s0 ≤ q) s.heap X moN ad (I, nJ0, moZ) H locs := hH
      refine lv_if_ne (tgt := 28) hx hb dX12_gates_18 (by decide) (fun c9 => ?_) (fun c9 => ?_)
      · have hf := nm_ie c9 hf
        refine lv_aload_n hx hb dX12_gates_28 rfl (lv_at hl 0 rfl) ?_
        refine gf_12_48 hK hx hb hts hown hH mo_n0 mo_k0 (hts _ tw_1003) (fun _ h9 => h9) dX12_gates_29 ?_
        refine lv_iload_n hx hb dX12_gates_32 rfl (lv_at hl 3 rfl) ?_
        obtain ⟨hi10, hf⟩ := nm_chk hf
        refine nm_zald hx hb hK hH mo_n49 mo_k49 mo_l49 hi10 dX12_gates_33 ?_
        refine lv_if_ne (tgt := 44) hx hb dX12_gates_34 (by decide) (fun c11 => ?_) (fun c11 => ?_)
        · have hf := nm_ie c11 hf
          refine lv_aload_n hx hb dX12_gates_44 rfl (lv_at hl 0 rfl) ?_
          refine lv_iload_n hx hb dX12_gates_45 rfl (lv_at hl 1 rfl) ?_
          obtain ⟨I12, eI12, hf⟩ := nm_let hf
          refine pf_12_54 hK hx hb hts hown hH mo_n0 mo_k0 (hts _ tw_1009) (fun _ h9 => h9) dX12_gates_46 (fun H locs hH => ?_)
          have hH : nm_H D Y (fun q => s0 ≤ q) s.heap X moN ad (I12, nJ0, moZ) H locs := by rw [eI12]; exact hH
          refine lv_aload_n hx hb dX12_gates_49 rfl (lv_at hl 0 rfl) ?_
          refine lv_iload_n hx hb dX12_gates_50 rfl (lv_at hl 2 rfl) ?_
          obtain ⟨I13, eI13, hf⟩ := nm_let hf
          refine pf_12_55 hK hx hb hts hown hH mo_n0 mo_k0 (hts _ tw_1010) (fun _ h9 => h9) dX12_gates_51 (fun H locs hH => ?_)
          have hH : nm_H D Y (fun q => s0 ≤ q) s.heap X moN ad (I13, nJ0, moZ) H locs := by rw [eI13]; exact hH
          refine lv_aload_n hx hb dX12_gates_54 rfl (lv_at hl 0 rfl) ?_
          refine lv_iload_n hx hb dX12_gates_55 rfl (lv_at hl 3 rfl) ?_
          obtain ⟨I14, eI14, hf⟩ := nm_let hf
          refine pf_12_56 hK hx hb hts hown hH mo_n0 mo_k0 (hts _ tw_1011) (fun _ h9 => h9) dX12_gates_56 (fun H locs hH => ?_)
          have hH : nm_H D Y (fun q => s0 ≤ q) s.heap X moN ad (I14, nJ0, moZ) H locs := by rw [eI14]; exact hH
          refine lv_iconst (v := 1) hx hb dX12_gates_59 (by decide) ?_
          exact nm_iret hx hb hr hlocks hQ hH (congrArg Prod.fst (Option.some.inj hf)) (congrArg (fun q => (q.2, nJ0, moZ)) (Option.some.inj hf)) dX12_gates_60
        · have hf := nm_it c11 hf
          refine lv_aload_n hx hb dX12_gates_37 rfl (lv_at hl 0 rfl) ?_
          refine lv_bipush (v := -7) hx hb dX12_gates_38 (by decide) ?_
          obtain ⟨r17, I15, hc16, hf⟩ := nm_sd2 hf
          refine nm_calli (nm_runV (X := X) (nl := moN) (k_X12_no (hf := hc16)) hx hb hml hown hts hs0 hK hZ hH tw_1214 tw_1211 tw_1213 (sw_X12_no) tw_9 hd_X12_no mo_n0 mo_k0 (by decide) rfl rfl rfl ⟨Nat.le_trans (Nat.le_of_ble_eq_true rfl) hRf, Nat.le_trans (Nat.le_of_ble_eq_true rfl) hRl⟩ rfl hl.1 rfl (Nat.le_of_ble_eq_true rfl) dX12_gates_40 ⟨Nat.zero_le _, Nat.zero_le _⟩) hH (fun H locs hH => ?_)
          have hH : nm_H D Y (fun q => s0 ≤ q) s.heap X moN ad (I15, nJ0, moZ) H locs := hH
          exact nm_iret hx hb hr hlocks hQ hH (congrArg Prod.fst (Option.some.inj hf)) (congrArg (fun q => (q.2, nJ0, moZ)) (Option.some.inj hf)) dX12_gates_43
      · have hf := nm_it c9 hf
        refine lv_aload_n hx hb dX12_gates_21 rfl (lv_at hl 0 rfl) ?_
        refine lv_bipush (v := -3) hx hb dX12_gates_22 (by decide) ?_
        obtain ⟨r20, I18, hc19, hf⟩ := nm_sd2 hf
        refine nm_calli (nm_runV (X := X) (nl := moN) (k_X12_no (hf := hc19)) hx hb hml hown hts hs0 hK hZ hH tw_1214 tw_1211 tw_1213 (sw_X12_no) tw_9 hd_X12_no mo_n0 mo_k0 (by decide) rfl rfl rfl ⟨Nat.le_trans (Nat.le_of_ble_eq_true rfl) hRf, Nat.le_trans (Nat.le_of_ble_eq_true rfl) hRl⟩ rfl hl.1 rfl (Nat.le_of_ble_eq_true rfl) dX12_gates_24 ⟨Nat.zero_le _, Nat.zero_le _⟩) hH (fun H locs hH => ?_)
        have hH : nm_H D Y (fun q => s0 ≤ q) s.heap X moN ad (I18, nJ0, moZ) H locs := hH
        exact nm_iret hx hb hr hlocks hQ hH (congrArg Prod.fst (Option.some.inj hf)) (congrArg (fun q => (q.2, nJ0, moZ)) (Option.some.inj hf)) dX12_gates_27
def f_X12_reaches (x1 : Int32) (I : nm_I) : Option (nm_I) :=
nm_c x1 65536 (
(if (I 20 x1.toNatClampNeg) = 0 then
some I
else
nm_c (x1 / (4096 : Int32)) 16 (
(if (I 50 (x1 / (4096 : Int32)).toNatClampNeg) = 0 then
some I
else
nm_c x1 65536 (
(if (I 59 x1.toNatClampNeg) < 0 then
nm_c x1 65536 (
nm_l (nm_up I 59 x1.toNatClampNeg (I 0 57)) fun I8 =>
nm_c (I8 0 60) 65536 (
nm_l (nm_up I8 60 ((I8 0 60).toNatClampNeg) x1) fun I10 =>
nm_l (nm_up I10 0 60 ((I10 0 60) + (1 : Int32))) fun I11 =>
some I11))
else
some I))))))
set_option maxHeartbeats 4000000 in
set_option maxRecDepth 100000 in
theorem k_X12_reaches {l : Launch} {D : va_G} {Y : nm_Y} {s0 : Nat} {X : va_W} {ad : Nat → Nat}  {x1 : Int32} {I : nm_I} {M0 : nm_I} (hf : f_X12_reaches x1 I = some M0) :
    nm_Met l yX12_reaches cX12_reaches 2 none { frames := 0, cells := 0, slots := 0, locals := 0 } [.ref (ad 0), .int x1] D Y s0 (nm_W Y X moN ad (I, nJ0, moZ)) (nm_Qv D s0 (nm_W Y X moN ad (M0, nJ0, moZ))) 0 0 := by
  refine nm_of (by decide) (Nat.le_of_ble_eq_true rfl) ?_
  intro p e R s m args below meth c Q ls hx hb hr hlocks hml hown hts hs0 hK hZ hRf hRl hRc hRs hQ hP hD hl
  have hH : nm_H D Y (fun q => s0 ≤ q) s.heap X moN ad (I, nJ0, moZ) s.heap [] := ⟨hP, hD, va_S.rf⟩
  have hl : lv_has ls 2 [(0, .ref (ad 0)), (1, .int x1)] := hl
  unfold f_X12_reaches at hf
  refine lv_aload_n hx hb dX12_reaches_0 rfl (lv_at hl 0 rfl) ?_
  refine gf_12_19 hK hx hb hts hown hH mo_n0 mo_k0 (hts _ tw_975) (fun _ h9 => h9) dX12_reaches_1 ?_
  refine lv_iload_n hx hb dX12_reaches_4 rfl (lv_at hl 1 rfl) ?_
  obtain ⟨hi1, hf⟩ := nm_chk hf
  refine nm_zald hx hb hK hH mo_n20 mo_k20 mo_l20 hi1 dX12_reaches_5 ?_
  refine lv_if_eq (tgt := 31) hx hb dX12_reaches_6 (by decide) (fun c2 => ?_) (fun c2 => ?_)
  · have hf := nm_it c2 hf
    exact nm_vret hx hb hr hlocks hQ hH (congrArg (fun q => (q, nJ0, moZ)) (Option.some.inj hf)) dX12_reaches_31
  · have hf := nm_ie c2 hf
    refine lv_aload_n hx hb dX12_reaches_9 rfl (lv_at hl 0 rfl) ?_
    refine gf_12_49 hK hx hb hts hown hH mo_n0 mo_k0 (hts _ tw_1004) (fun _ h9 => h9) dX12_reaches_10 ?_
    refine lv_iload_n hx hb dX12_reaches_13 rfl (lv_at hl 1 rfl) ?_
    refine lv_sipush (v := 4096) hx hb dX12_reaches_14 (by decide) ?_
    refine lv_idiv hx hb dX12_reaches_17 (by decide) ?_
    obtain ⟨hi3, hf⟩ := nm_chk hf
    refine nm_zald hx hb hK hH mo_n50 mo_k50 mo_l50 hi3 dX12_reaches_18 ?_
    refine lv_if_eq (tgt := 31) hx hb dX12_reaches_19 (by decide) (fun c4 => ?_) (fun c4 => ?_)
    · have hf := nm_it c4 hf
      exact nm_vret hx hb hr hlocks hQ hH (congrArg (fun q => (q, nJ0, moZ)) (Option.some.inj hf)) dX12_reaches_31
    · have hf := nm_ie c4 hf
      refine lv_aload_n hx hb dX12_reaches_22 rfl (lv_at hl 0 rfl) ?_
      refine gf_12_58 hK hx hb hts hown hH mo_n0 mo_k0 (hts _ tw_1013) (fun _ h9 => h9) dX12_reaches_23 ?_
      refine lv_iload_n hx hb dX12_reaches_26 rfl (lv_at hl 1 rfl) ?_
      obtain ⟨hi5, hf⟩ := nm_chk hf
      refine nm_iald hx hb hK hH mo_n59 mo_k59 mo_l59 hi5 dX12_reaches_27 ?_
      refine lv_if_lt (tgt := 32) hx hb dX12_reaches_28 (by decide) (fun c6 => ?_) (fun c6 => ?_)
      · have hf := nm_it c6 hf
        refine lv_aload_n hx hb dX12_reaches_32 rfl (lv_at hl 0 rfl) ?_
        refine gf_12_58 hK hx hb hts hown hH mo_n0 mo_k0 (hts _ tw_1013) (fun _ h9 => h9) dX12_reaches_33 ?_
        refine lv_iload_n hx hb dX12_reaches_36 rfl (lv_at hl 1 rfl) ?_
        refine lv_aload_n hx hb dX12_reaches_37 rfl (lv_at hl 0 rfl) ?_
        refine gf_12_57 hK hx hb hts hown hH mo_n0 mo_k0 (hts _ tw_1012) (fun _ h9 => h9) dX12_reaches_38 ?_
        obtain ⟨hi7, hf⟩ := nm_chk hf
        obtain ⟨I8, eI8, hf⟩ := nm_let hf
        refine nm_iast hx hb hK hH mo_n59 mo_k59 mo_l59 hi7 dX12_reaches_41 (fun H locs hH => ?_)
        have hH : nm_H D Y (fun q => s0 ≤ q) s.heap X moN ad (I8, nJ0, moZ) H locs := by rw [eI8]; exact hH
        refine lv_aload_n hx hb dX12_reaches_42 rfl (lv_at hl 0 rfl) ?_
        refine gf_12_59 hK hx hb hts hown hH mo_n0 mo_k0 (hts _ tw_1014) (fun _ h9 => h9) dX12_reaches_43 ?_
        refine lv_aload_n hx hb dX12_reaches_46 rfl (lv_at hl 0 rfl) ?_
        refine gf_12_60 hK hx hb hts hown hH mo_n0 mo_k0 (hts _ tw_1015) (fun _ h9 => h9) dX12_reaches_47 ?_
        refine lv_iload_n hx hb dX12_reaches_50 rfl (lv_at hl 1 rfl) ?_
        obtain ⟨hi9, hf⟩ := nm_chk hf
        obtain ⟨I10, eI10, hf⟩ := nm_let hf
        refine nm_iast hx hb hK hH mo_n60 mo_k60 mo_l60 hi9 dX12_reaches_51 (fun H locs hH => ?_)
        have hH : nm_H D Y (fun q => s0 ≤ q) s.heap X moN ad (I10, nJ0, moZ) H locs := by rw [eI10]; exact hH
        refine lv_aload_n hx hb dX12_reaches_52 rfl (lv_at hl 0 rfl) ?_
        refine lv_dup hx hb dX12_reaches_53 rfl ?_
        refine gf_12_60 hK hx hb hts hown hH mo_n0 mo_k0 (hts _ tw_1015) (fun _ h9 => h9) dX12_reaches_54 ?_
        refine lv_iconst (v := 1) hx hb dX12_reaches_57 (by decide) ?_
        refine lv_iadd hx hb dX12_reaches_58 ?_
        obtain ⟨I11, eI11, hf⟩ := nm_let hf
        refine pf_12_60 hK hx hb hts hown hH mo_n0 mo_k0 (hts _ tw_1015) (fun _ h9 => h9) dX12_reaches_59 (fun H locs hH => ?_)
        have hH : nm_H D Y (fun q => s0 ≤ q) s.heap X moN ad (I11, nJ0, moZ) H locs := by rw [eI11]; exact hH
        exact nm_vret hx hb hr hlocks hQ hH (congrArg (fun q => (q, nJ0, moZ)) (Option.some.inj hf)) dX12_reaches_62
      · have hf := nm_ie c6 hf
        exact nm_vret hx hb hr hlocks hQ hH (congrArg (fun q => (q, nJ0, moZ)) (Option.some.inj hf)) dX12_reaches_31
def f_X12_goesOnFrom_J163 (x4 : Int32) (I11 : nm_I) (k : Int32 → nm_I → Option (nm_I)) : Option (nm_I) :=
k (x4 + 1) I11
def f_X12_goesOnFrom_J135 (v1 : Int32) (v2 : Int32) (x4 : Int32) (I14 : nm_I) (k : Int32 → nm_I → Option (nm_I)) : Option (nm_I) :=
nm_c x4 8 (
(if (I14 53 x4.toNatClampNeg) = v2 then
nm_c x4 8 (
nm_s1 (f_X12_reaches (((4096 : Int32) * (I14 51 x4.toNatClampNeg)) + v1) I14) fun I18 =>
f_X12_goesOnFrom_J163 x4 I18 k)
else
f_X12_goesOnFrom_J163 x4 I14 k))
def f_X12_goesOnFrom_L74 (v1 : Int32) (v2 : Int32) : Nat → Int32 → nm_I → Option (nm_I)
  | 0, _, _ => none
  | n74 + 1, x4, I7 =>
    (if (I7 0 53) ≤ x4 then
    some I7
    else
    nm_c x4 8 (
    nm_c (((4096 : Int32) * (I7 52 x4.toNatClampNeg)) + v1) 65536 (
    (if (I7 20 (((4096 : Int32) * (I7 52 x4.toNatClampNeg)) + v1).toNatClampNeg) = 0 then
    f_X12_goesOnFrom_J163 x4 I7 (f_X12_goesOnFrom_L74 v1 v2 n74)
    else
    nm_c x4 8 (
    (if (I7 51 x4.toNatClampNeg) = v2 then
    nm_c x4 8 (
    nm_s1 (f_X12_reaches (((4096 : Int32) * (I7 53 x4.toNatClampNeg)) + v1) I7) fun I22 =>
    f_X12_goesOnFrom_J135 v1 v2 x4 I22 (f_X12_goesOnFrom_L74 v1 v2 n74))
    else
    f_X12_goesOnFrom_J135 v1 v2 x4 I7 (f_X12_goesOnFrom_L74 v1 v2 n74)))))))
def f_X12_goesOnFrom_J71 (v1 : Int32) (v2 : Int32) (I6 : nm_I) : Option (nm_I) :=
nm_s1 (f_X12_goesOnFrom_L74 v1 v2 nm_F (0 : Int32) I6) fun I24 =>
some I24
def f_X12_goesOnFrom_J56 (x1 : Int32) (v1 : Int32) (v2 : Int32) (I5 : nm_I) : Option (nm_I) :=
(if (4032 : Int32) ≤ v1 then
f_X12_goesOnFrom_J71 v1 v2 I5
else
nm_s1 (f_X12_reaches (x1 + (64 : Int32)) I5) fun I27 =>
f_X12_goesOnFrom_J71 v1 v2 I27)
def f_X12_goesOnFrom_J42 (x1 : Int32) (v1 : Int32) (v2 : Int32) (I4 : nm_I) : Option (nm_I) :=
(if v1 < (64 : Int32) then
f_X12_goesOnFrom_J56 x1 v1 v2 I4
else
nm_s1 (f_X12_reaches (x1 - (64 : Int32)) I4) fun I30 =>
f_X12_goesOnFrom_J56 x1 v1 v2 I30)
def f_X12_goesOnFrom_J26 (x1 : Int32) (v1 : Int32) (v2 : Int32) (I3 : nm_I) : Option (nm_I) :=
(if (63 : Int32) ≤ (v1 - v1 / (64 : Int32) * (64 : Int32)) then
f_X12_goesOnFrom_J42 x1 v1 v2 I3
else
nm_s1 (f_X12_reaches (x1 + (1 : Int32)) I3) fun I33 =>
f_X12_goesOnFrom_J42 x1 v1 v2 I33)
def f_X12_goesOnFrom (x1 : Int32) (I : nm_I) : Option (nm_I) :=
nm_l (x1 - x1 / (4096 : Int32) * (4096 : Int32)) fun v1 =>
nm_l (x1 / (4096 : Int32)) fun v2 =>
(if (v1 - v1 / (64 : Int32) * (64 : Int32)) ≤ 0 then
f_X12_goesOnFrom_J26 x1 v1 v2 I
else
nm_s1 (f_X12_reaches (x1 - (1 : Int32)) I) fun I36 =>
f_X12_goesOnFrom_J26 x1 v1 v2 I36)
set_option maxHeartbeats 4000000 in
set_option maxRecDepth 100000 in
theorem k_X12_goesOnFrom {l : Launch} {D : va_G} {Y : nm_Y} {s0 : Nat} {X : va_W} {ad : Nat → Nat}  {x1 : Int32} {I : nm_I} {M0 : nm_I} (hf : f_X12_goesOnFrom x1 I = some M0) :
    nm_Met l yX12_goesOnFrom cX12_goesOnFrom 5 none { frames := 1, cells := 0, slots := 0, locals := 21 } [.ref (ad 0), .int x1] D Y s0 (nm_W Y X moN ad (I, nJ0, moZ)) (nm_Qv D s0 (nm_W Y X moN ad (M0, nJ0, moZ))) 0 0 := by
  refine nm_of (by decide) (Nat.le_of_ble_eq_true rfl) ?_
  intro p e R s m args below meth c Q ls hx hb hr hlocks hml hown hts hs0 hK hZ hRf hRl hRc hRs hQ hP hD hl
  have hH : nm_H D Y (fun q => s0 ≤ q) s.heap X moN ad (I, nJ0, moZ) s.heap [] := ⟨hP, hD, va_S.rf⟩
  have hl : lv_has ls 5 [(0, .ref (ad 0)), (1, .int x1)] := hl
  unfold f_X12_goesOnFrom at hf
  refine lv_iload_n hx hb dX12_goesOnFrom_0 rfl (lv_at hl 1 rfl) ?_
  refine lv_sipush (v := 4096) hx hb dX12_goesOnFrom_1 (by decide) ?_
  refine lv_irem hx hb dX12_goesOnFrom_4 (by decide) ?_
  obtain ⟨v1, ev1, hf⟩ := nm_let hf
  refine nm_topi ev1 ?_
  refine lv_istore_n (lv' := [(2, .int v1), (0, .ref (ad 0)), (1, .int x1)]) hx hb dX12_goesOnFrom_5 rfl hl (by decide) rfl (fun ls hl => ?_)
  refine lv_iload_n hx hb dX12_goesOnFrom_6 rfl (lv_at hl 2 rfl) ?_
  refine lv_sipush (v := 4096) hx hb dX12_goesOnFrom_7 (by decide) ?_
  refine lv_idiv hx hb dX12_goesOnFrom_10 (by decide) ?_
  obtain ⟨v2, ev2, hf⟩ := nm_let hf
  refine nm_topi ev2 ?_
  refine lv_istore_n (lv' := [(3, .int v2), (2, .int v1), (0, .ref (ad 0)), (1, .int x1)]) hx hb dX12_goesOnFrom_11 rfl hl (by decide) rfl (fun ls hl => ?_)
  refine lv_iload_n hx hb dX12_goesOnFrom_12 rfl (lv_at hl 1 rfl) ?_
  refine lv_bipush (v := 64) hx hb dX12_goesOnFrom_13 (by decide) ?_
  refine lv_irem hx hb dX12_goesOnFrom_15 (by decide) ?_
  have hJ26 : ∀ (I3 : nm_I) (H : Heap) (locs : List Loc) (ls : Array Slot), nm_H D Y (fun q => s0 ≤ q) s.heap X moN ad (I3, nJ0, moZ) H locs → lv_has ls 5 [(0, .ref (ad 0)), (1, .int x1), (2, .int v1), (3, .int v2)] → f_X12_goesOnFrom_J26 x1 v1 v2 I3 = some M0 → W p l e R s m args below meth c H locs 0 0 Q (F0 m 26 ls []) := by
    intro I3 H locs ls hH hl hf
    unfold f_X12_goesOnFrom_J26 at hf
    refine lv_iload_n hx hb dX12_goesOnFrom_26 rfl (lv_at hl 2 rfl) ?_
    refine lv_bipush (v := 64) hx hb dX12_goesOnFrom_27 (by decide) ?_
    refine lv_irem hx hb dX12_goesOnFrom_29 (by decide) ?_
    refine lv_bipush (v := 63) hx hb dX12_goesOnFrom_30 (by decide) ?_
    have hJ42 : ∀ (I4 : nm_I) (H : Heap) (locs : List Loc) (ls : Array Slot), nm_H D Y (fun q => s0 ≤ q) s.heap X moN ad (I4, nJ0, moZ) H locs → lv_has ls 5 [(0, .ref (ad 0)), (1, .int x1), (2, .int v1), (3, .int v2)] → f_X12_goesOnFrom_J42 x1 v1 v2 I4 = some M0 → W p l e R s m args below meth c H locs 0 0 Q (F0 m 42 ls []) := by
      intro I4 H locs ls hH hl hf
      unfold f_X12_goesOnFrom_J42 at hf
      refine lv_iload_n hx hb dX12_goesOnFrom_42 rfl (lv_at hl 2 rfl) ?_
      refine lv_bipush (v := 64) hx hb dX12_goesOnFrom_43 (by decide) ?_
      have hJ56 : ∀ (I5 : nm_I) (H : Heap) (locs : List Loc) (ls : Array Slot), nm_H D Y (fun q => s0 ≤ q) s.heap X moN ad (I5, nJ0, moZ) H locs → lv_has ls 5 [(0, .ref (ad 0)), (1, .int x1), (2, .int v1), (3, .int v2)] → f_X12_goesOnFrom_J56 x1 v1 v2 I5 = some M0 → W p l e R s m args below meth c H locs 0 0 Q (F0 m 56 ls []) := by
        intro I5 H locs ls hH hl hf
        unfold f_X12_goesOnFrom_J56 at hf
        refine lv_iload_n hx hb dX12_goesOnFrom_56 rfl (lv_at hl 2 rfl) ?_
        refine lv_sipush (v := 4032) hx hb dX12_goesOnFrom_57 (by decide) ?_
        have hJ71 : ∀ (I6 : nm_I) (H : Heap) (locs : List Loc) (ls : Array Slot), nm_H D Y (fun q => s0 ≤ q) s.heap X moN ad (I6, nJ0, moZ) H locs → lv_has ls 5 [(0, .ref (ad 0)), (2, .int v1), (3, .int v2)] → f_X12_goesOnFrom_J71 v1 v2 I6 = some M0 → W p l e R s m args below meth c H locs 0 0 Q (F0 m 71 ls []) := by
          intro I6 H locs ls hH hl hf
          unfold f_X12_goesOnFrom_J71 at hf
          refine lv_iconst (v := 0) hx hb dX12_goesOnFrom_71 (by decide) ?_
          refine lv_istore (lv' := [(4, .int (0 : Int32)), (0, .ref (ad 0)), (2, .int v1), (3, .int v2)]) hx hb dX12_goesOnFrom_72 hl (by decide) rfl (fun ls hl => ?_)
          have hL74 : ∀ (n74 : Nat) (x4 : Int32) (I7 : nm_I) (H : Heap) (locs : List Loc) (ls : Array Slot) (o74 : nm_I), nm_H D Y (fun q => s0 ≤ q) s.heap X moN ad (I7, nJ0, moZ) H locs → lv_has ls 5 [(0, .ref (ad 0)), (2, .int v1), (3, .int v2), (4, .int x4)] → f_X12_goesOnFrom_L74 v1 v2 n74 x4 I7 = some o74 → (∀ (H : Heap) (locs : List Loc) (ls : Array Slot), nm_H D Y (fun q => s0 ≤ q) s.heap X moN ad (o74, nJ0, moZ) H locs → lv_has ls 5 [] → W p l e R s m args below meth c H locs 0 0 Q (F0 m 169 ls [])) → W p l e R s m args below meth c H locs 0 0 Q (F0 m 74 ls []) := by
            intro n74
            induction n74 with
            | zero =>
              intro x4 I7 H locs ls o74 hH hl hf hX74
              cases hf
            | succ n74 ih74 =>
              intro x4 I7 H locs ls o74 hH hl hf hX74
              rw [f_X12_goesOnFrom_L74] at hf
              refine lv_iload hx hb dX12_goesOnFrom_74 (lv_at hl 3 rfl) ?_
              refine lv_aload_n hx hb dX12_goesOnFrom_76 rfl (lv_at hl 0 rfl) ?_
              refine gf_12_53 hK hx hb hts hown hH mo_n0 mo_k0 (hts _ tw_1008) (fun _ h9 => h9) dX12_goesOnFrom_77 ?_
              refine lv_icmp_ge (tgt := 169) hx hb dX12_goesOnFrom_80 (by decide) (fun c8 => ?_) (fun c8 => ?_)
              · have hf := nm_it c8 hf
                cases hf
                exact hX74 _ _ _ hH (lv_sub hl [] rfl)
              · have hf := nm_ie c8 hf
                refine lv_aload_n hx hb dX12_goesOnFrom_83 rfl (lv_at hl 0 rfl) ?_
                refine gf_12_19 hK hx hb hts hown hH mo_n0 mo_k0 (hts _ tw_975) (fun _ h9 => h9) dX12_goesOnFrom_84 ?_
                refine lv_sipush (v := 4096) hx hb dX12_goesOnFrom_87 (by decide) ?_
                refine lv_aload_n hx hb dX12_goesOnFrom_90 rfl (lv_at hl 0 rfl) ?_
                refine gf_12_51 hK hx hb hts hown hH mo_n0 mo_k0 (hts _ tw_1006) (fun _ h9 => h9) dX12_goesOnFrom_91 ?_
                refine lv_iload hx hb dX12_goesOnFrom_94 (lv_at hl 3 rfl) ?_
                obtain ⟨hi9, hf⟩ := nm_chk hf
                refine nm_iald hx hb hK hH mo_n52 mo_k52 mo_l52 hi9 dX12_goesOnFrom_96 ?_
                refine lv_imul hx hb dX12_goesOnFrom_97 ?_
                refine lv_iload_n hx hb dX12_goesOnFrom_98 rfl (lv_at hl 1 rfl) ?_
                refine lv_iadd hx hb dX12_goesOnFrom_99 ?_
                obtain ⟨hi10, hf⟩ := nm_chk hf
                refine nm_zald hx hb hK hH mo_n20 mo_k20 mo_l20 hi10 dX12_goesOnFrom_100 ?_
                have hJ163 : ∀ (I11 : nm_I) (H : Heap) (locs : List Loc) (ls : Array Slot), nm_H D Y (fun q => s0 ≤ q) s.heap X moN ad (I11, nJ0, moZ) H locs → lv_has ls 5 [(0, .ref (ad 0)), (2, .int v1), (3, .int v2), (4, .int x4)] → f_X12_goesOnFrom_J163 x4 I11 (f_X12_goesOnFrom_L74 v1 v2 n74) = some o74 → W p l e R s m args below meth c H locs 0 0 Q (F0 m 163 ls []) := by
                  intro I11 H locs ls hH hl hf
                  unfold f_X12_goesOnFrom_J163 at hf
                  refine lv_iinc (v := x4 + 1) (lv' := [(4, .int (x4 + 1)), (0, .ref (ad 0)), (2, .int v1), (3, .int v2)]) hx hb dX12_goesOnFrom_163 hl (k := 3) rfl rfl (by decide) rfl (fun ls hl => ?_)
                  refine lv_goto (tgt := 74) hx hb dX12_goesOnFrom_166 (by decide) ?_
                  exact ih74 (x4 + 1) I11 _ _ _ _ hH (lv_sub hl [1, 2, 3, 0] rfl) hf hX74
                refine lv_if_ne (tgt := 107) hx hb dX12_goesOnFrom_101 (by decide) (fun c12 => ?_) (fun c12 => ?_)
                · have hf := nm_ie c12 hf
                  refine lv_aload_n hx hb dX12_goesOnFrom_107 rfl (lv_at hl 0 rfl) ?_
                  refine gf_12_50 hK hx hb hts hown hH mo_n0 mo_k0 (hts _ tw_1005) (fun _ h9 => h9) dX12_goesOnFrom_108 ?_
                  refine lv_iload hx hb dX12_goesOnFrom_111 (lv_at hl 3 rfl) ?_
                  obtain ⟨hi13, hf⟩ := nm_chk hf
                  refine nm_iald hx hb hK hH mo_n51 mo_k51 mo_l51 hi13 dX12_goesOnFrom_113 ?_
                  refine lv_iload_n hx hb dX12_goesOnFrom_114 rfl (lv_at hl 2 rfl) ?_
                  have hJ135 : ∀ (I14 : nm_I) (H : Heap) (locs : List Loc) (ls : Array Slot), nm_H D Y (fun q => s0 ≤ q) s.heap X moN ad (I14, nJ0, moZ) H locs → lv_has ls 5 [(0, .ref (ad 0)), (2, .int v1), (3, .int v2), (4, .int x4)] → f_X12_goesOnFrom_J135 v1 v2 x4 I14 (f_X12_goesOnFrom_L74 v1 v2 n74) = some o74 → W p l e R s m args below meth c H locs 0 0 Q (F0 m 135 ls []) := by
                    intro I14 H locs ls hH hl hf
                    unfold f_X12_goesOnFrom_J135 at hf
                    refine lv_aload_n hx hb dX12_goesOnFrom_135 rfl (lv_at hl 0 rfl) ?_
                    refine gf_12_52 hK hx hb hts hown hH mo_n0 mo_k0 (hts _ tw_1007) (fun _ h9 => h9) dX12_goesOnFrom_136 ?_
                    refine lv_iload hx hb dX12_goesOnFrom_139 (lv_at hl 3 rfl) ?_
                    obtain ⟨hi15, hf⟩ := nm_chk hf
                    refine nm_iald hx hb hK hH mo_n53 mo_k53 mo_l53 hi15 dX12_goesOnFrom_141 ?_
                    refine lv_iload_n hx hb dX12_goesOnFrom_142 rfl (lv_at hl 2 rfl) ?_
                    refine lv_icmp_ne (tgt := 163) hx hb dX12_goesOnFrom_143 (by decide) (fun c16 => ?_) (fun c16 => ?_)
                    · have hf := nm_ie c16 hf
                      exact hJ163  I14 _ _ _ hH (lv_sub hl [0, 1, 2, 3] rfl) hf
                    · have hf := nm_it c16 hf
                      refine lv_aload_n hx hb dX12_goesOnFrom_146 rfl (lv_at hl 0 rfl) ?_
                      refine lv_sipush (v := 4096) hx hb dX12_goesOnFrom_147 (by decide) ?_
                      refine lv_aload_n hx hb dX12_goesOnFrom_150 rfl (lv_at hl 0 rfl) ?_
                      refine gf_12_50 hK hx hb hts hown hH mo_n0 mo_k0 (hts _ tw_1005) (fun _ h9 => h9) dX12_goesOnFrom_151 ?_
                      refine lv_iload hx hb dX12_goesOnFrom_154 (lv_at hl 3 rfl) ?_
                      obtain ⟨hi17, hf⟩ := nm_chk hf
                      refine nm_iald hx hb hK hH mo_n51 mo_k51 mo_l51 hi17 dX12_goesOnFrom_156 ?_
                      refine lv_imul hx hb dX12_goesOnFrom_157 ?_
                      refine lv_iload_n hx hb dX12_goesOnFrom_158 rfl (lv_at hl 1 rfl) ?_
                      refine lv_iadd hx hb dX12_goesOnFrom_159 ?_
                      obtain ⟨I18, hc19, hf⟩ := nm_sd1 hf
                      refine nm_callv (nm_runV (X := X) (nl := moN) (k_X12_reaches (hf := hc19)) hx hb hml hown hts hs0 hK hZ hH tw_1414 tw_1411 tw_1413 (sw_X12_reaches) tw_9 hd_X12_reaches mo_n0 mo_k0 (by decide) rfl rfl rfl ⟨Nat.le_trans (Nat.le_of_ble_eq_true rfl) hRf, Nat.le_trans (Nat.le_of_ble_eq_true rfl) hRl⟩ rfl hl.1 rfl (Nat.le_of_ble_eq_true rfl) dX12_goesOnFrom_160 ⟨Nat.zero_le _, Nat.zero_le _⟩) hH (fun H locs hH => ?_)
                      have hH : nm_H D Y (fun q => s0 ≤ q) s.heap X moN ad (I18, nJ0, moZ) H locs := hH
                      exact hJ163  I18 _ _ _ hH (lv_sub hl [0, 1, 2, 3] rfl) hf
                  refine lv_icmp_ne (tgt := 135) hx hb dX12_goesOnFrom_115 (by decide) (fun c20 => ?_) (fun c20 => ?_)
                  · have hf := nm_ie c20 hf
                    exact hJ135  I7 _ _ _ hH (lv_sub hl [0, 1, 2, 3] rfl) hf
                  · have hf := nm_it c20 hf
                    refine lv_aload_n hx hb dX12_goesOnFrom_118 rfl (lv_at hl 0 rfl) ?_
                    refine lv_sipush (v := 4096) hx hb dX12_goesOnFrom_119 (by decide) ?_
                    refine lv_aload_n hx hb dX12_goesOnFrom_122 rfl (lv_at hl 0 rfl) ?_
                    refine gf_12_52 hK hx hb hts hown hH mo_n0 mo_k0 (hts _ tw_1007) (fun _ h9 => h9) dX12_goesOnFrom_123 ?_
                    refine lv_iload hx hb dX12_goesOnFrom_126 (lv_at hl 3 rfl) ?_
                    obtain ⟨hi21, hf⟩ := nm_chk hf
                    refine nm_iald hx hb hK hH mo_n53 mo_k53 mo_l53 hi21 dX12_goesOnFrom_128 ?_
                    refine lv_imul hx hb dX12_goesOnFrom_129 ?_
                    refine lv_iload_n hx hb dX12_goesOnFrom_130 rfl (lv_at hl 1 rfl) ?_
                    refine lv_iadd hx hb dX12_goesOnFrom_131 ?_
                    obtain ⟨I22, hc23, hf⟩ := nm_sd1 hf
                    refine nm_callv (nm_runV (X := X) (nl := moN) (k_X12_reaches (hf := hc23)) hx hb hml hown hts hs0 hK hZ hH tw_1414 tw_1411 tw_1413 (sw_X12_reaches) tw_9 hd_X12_reaches mo_n0 mo_k0 (by decide) rfl rfl rfl ⟨Nat.le_trans (Nat.le_of_ble_eq_true rfl) hRf, Nat.le_trans (Nat.le_of_ble_eq_true rfl) hRl⟩ rfl hl.1 rfl (Nat.le_of_ble_eq_true rfl) dX12_goesOnFrom_132 ⟨Nat.zero_le _, Nat.zero_le _⟩) hH (fun H locs hH => ?_)
                    have hH : nm_H D Y (fun q => s0 ≤ q) s.heap X moN ad (I22, nJ0, moZ) H locs := hH
                    exact hJ135  I22 _ _ _ hH (lv_sub hl [0, 1, 2, 3] rfl) hf
                · have hf := nm_it c12 hf
                  refine lv_goto (tgt := 163) hx hb dX12_goesOnFrom_104 (by decide) ?_
                  exact hJ163  I7 _ _ _ hH (lv_sub hl [0, 1, 2, 3] rfl) hf
          obtain ⟨I24, hl25, hf⟩ := nm_sd1 hf
          refine hL74 nm_F (0 : Int32) I6 _ _ _ _ hH (lv_sub hl [1, 2, 3, 0] rfl) hl25 (fun H locs ls hH hl => ?_)
          have hl : lv_has ls 5 [] := hl
          have hH : nm_H D Y (fun q => s0 ≤ q) s.heap X moN ad (I24, nJ0, moZ) H locs := hH
          exact nm_vret hx hb hr hlocks hQ hH (congrArg (fun q => (q, nJ0, moZ)) (Option.some.inj hf)) dX12_goesOnFrom_169
        refine lv_icmp_ge (tgt := 71) hx hb dX12_goesOnFrom_60 (by decide) (fun c26 => ?_) (fun c26 => ?_)
        · have hf := nm_it c26 hf
          exact hJ71  I5 _ _ _ hH (lv_sub hl [0, 2, 3] rfl) hf
        · have hf := nm_ie c26 hf
          refine lv_aload_n hx hb dX12_goesOnFrom_63 rfl (lv_at hl 0 rfl) ?_
          refine lv_iload_n hx hb dX12_goesOnFrom_64 rfl (lv_at hl 1 rfl) ?_
          refine lv_bipush (v := 64) hx hb dX12_goesOnFrom_65 (by decide) ?_
          refine lv_iadd hx hb dX12_goesOnFrom_67 ?_
          obtain ⟨I27, hc28, hf⟩ := nm_sd1 hf
          refine nm_callv (nm_runV (X := X) (nl := moN) (k_X12_reaches (hf := hc28)) hx hb hml hown hts hs0 hK hZ hH tw_1414 tw_1411 tw_1413 (sw_X12_reaches) tw_9 hd_X12_reaches mo_n0 mo_k0 (by decide) rfl rfl rfl ⟨Nat.le_trans (Nat.le_of_ble_eq_true rfl) hRf, Nat.le_trans (Nat.le_of_ble_eq_true rfl) hRl⟩ rfl hl.1 rfl (Nat.le_of_ble_eq_true rfl) dX12_goesOnFrom_68 ⟨Nat.zero_le _, Nat.zero_le _⟩) hH (fun H locs hH => ?_)
          have hH : nm_H D Y (fun q => s0 ≤ q) s.heap X moN ad (I27, nJ0, moZ) H locs := hH
          exact hJ71  I27 _ _ _ hH (lv_sub hl [0, 2, 3] rfl) hf
      refine lv_icmp_lt (tgt := 56) hx hb dX12_goesOnFrom_45 (by decide) (fun c29 => ?_) (fun c29 => ?_)
      · have hf := nm_it c29 hf
        exact hJ56  I4 _ _ _ hH (lv_sub hl [0, 1, 2, 3] rfl) hf
      · have hf := nm_ie c29 hf
        refine lv_aload_n hx hb dX12_goesOnFrom_48 rfl (lv_at hl 0 rfl) ?_
        refine lv_iload_n hx hb dX12_goesOnFrom_49 rfl (lv_at hl 1 rfl) ?_
        refine lv_bipush (v := 64) hx hb dX12_goesOnFrom_50 (by decide) ?_
        refine lv_isub hx hb dX12_goesOnFrom_52 ?_
        obtain ⟨I30, hc31, hf⟩ := nm_sd1 hf
        refine nm_callv (nm_runV (X := X) (nl := moN) (k_X12_reaches (hf := hc31)) hx hb hml hown hts hs0 hK hZ hH tw_1414 tw_1411 tw_1413 (sw_X12_reaches) tw_9 hd_X12_reaches mo_n0 mo_k0 (by decide) rfl rfl rfl ⟨Nat.le_trans (Nat.le_of_ble_eq_true rfl) hRf, Nat.le_trans (Nat.le_of_ble_eq_true rfl) hRl⟩ rfl hl.1 rfl (Nat.le_of_ble_eq_true rfl) dX12_goesOnFrom_53 ⟨Nat.zero_le _, Nat.zero_le _⟩) hH (fun H locs hH => ?_)
        have hH : nm_H D Y (fun q => s0 ≤ q) s.heap X moN ad (I30, nJ0, moZ) H locs := hH
        exact hJ56  I30 _ _ _ hH (lv_sub hl [0, 1, 2, 3] rfl) hf
    refine lv_icmp_ge (tgt := 42) hx hb dX12_goesOnFrom_32 (by decide) (fun c32 => ?_) (fun c32 => ?_)
    · have hf := nm_it c32 hf
      exact hJ42  I3 _ _ _ hH (lv_sub hl [0, 1, 2, 3] rfl) hf
    · have hf := nm_ie c32 hf
      refine lv_aload_n hx hb dX12_goesOnFrom_35 rfl (lv_at hl 0 rfl) ?_
      refine lv_iload_n hx hb dX12_goesOnFrom_36 rfl (lv_at hl 1 rfl) ?_
      refine lv_iconst (v := 1) hx hb dX12_goesOnFrom_37 (by decide) ?_
      refine lv_iadd hx hb dX12_goesOnFrom_38 ?_
      obtain ⟨I33, hc34, hf⟩ := nm_sd1 hf
      refine nm_callv (nm_runV (X := X) (nl := moN) (k_X12_reaches (hf := hc34)) hx hb hml hown hts hs0 hK hZ hH tw_1414 tw_1411 tw_1413 (sw_X12_reaches) tw_9 hd_X12_reaches mo_n0 mo_k0 (by decide) rfl rfl rfl ⟨Nat.le_trans (Nat.le_of_ble_eq_true rfl) hRf, Nat.le_trans (Nat.le_of_ble_eq_true rfl) hRl⟩ rfl hl.1 rfl (Nat.le_of_ble_eq_true rfl) dX12_goesOnFrom_39 ⟨Nat.zero_le _, Nat.zero_le _⟩) hH (fun H locs hH => ?_)
      have hH : nm_H D Y (fun q => s0 ≤ q) s.heap X moN ad (I33, nJ0, moZ) H locs := hH
      exact hJ42  I33 _ _ _ hH (lv_sub hl [0, 1, 2, 3] rfl) hf
  refine lv_if_le (tgt := 26) hx hb dX12_goesOnFrom_16 (by decide) (fun c35 => ?_) (fun c35 => ?_)
  · have hf := nm_it c35 hf
    exact hJ26  I _ _ _ hH (lv_sub hl [2, 3, 1, 0] rfl) hf
  · have hf := nm_ie c35 hf
    refine lv_aload_n hx hb dX12_goesOnFrom_19 rfl (lv_at hl 2 rfl) ?_
    refine lv_iload_n hx hb dX12_goesOnFrom_20 rfl (lv_at hl 3 rfl) ?_
    refine lv_iconst (v := 1) hx hb dX12_goesOnFrom_21 (by decide) ?_
    refine lv_isub hx hb dX12_goesOnFrom_22 ?_
    obtain ⟨I36, hc37, hf⟩ := nm_sd1 hf
    refine nm_callv (nm_runV (X := X) (nl := moN) (k_X12_reaches (hf := hc37)) hx hb hml hown hts hs0 hK hZ hH tw_1414 tw_1411 tw_1413 (sw_X12_reaches) tw_9 hd_X12_reaches mo_n0 mo_k0 (by decide) rfl rfl rfl ⟨Nat.le_trans (Nat.le_of_ble_eq_true rfl) hRf, Nat.le_trans (Nat.le_of_ble_eq_true rfl) hRl⟩ rfl hl.1 rfl (Nat.le_of_ble_eq_true rfl) dX12_goesOnFrom_23 ⟨Nat.zero_le _, Nat.zero_le _⟩) hH (fun H locs hH => ?_)
    have hH : nm_H D Y (fun q => s0 ≤ q) s.heap X moN ad (I36, nJ0, moZ) H locs := hH
    exact hJ26  I36 _ _ _ hH (lv_sub hl [2, 3, 1, 0] rfl) hf
def f_X12_findNets_L2  : Nat → Int32 → nm_I → Option (nm_I)
  | 0, _, _ => none
  | n2 + 1, x1, I1 =>
    (if (65536 : Int32) ≤ x1 then
    some I1
    else
    nm_c x1 65536 (
    nm_l (nm_up I1 59 x1.toNatClampNeg (-1 : Int32)) fun I4 =>
    f_X12_findNets_L2 n2 (x1 + 1) I4))
def f_X12_findNets_J114 (x1 : Int32) (I10 : nm_I) (k : Int32 → nm_I → Option (nm_I)) : Option (nm_I) :=
k (x1 + 1) I10
def f_X12_findNets_L80  : Nat → Int32 → nm_I → Option (nm_I)
  | 0, _, _ => none
  | n80 + 1, x2, I19 =>
    (if (I19 0 60) ≤ x2 then
    some I19
    else
    nm_c x2 65536 (
    nm_s1 (f_X12_goesOnFrom (I19 60 x2.toNatClampNeg) I19) fun I22 =>
    f_X12_findNets_L80 n80 (x2 + 1) I22))
def f_X12_findNets_L28  : Nat → Int32 → nm_I → Option (nm_I)
  | 0, _, _ => none
  | n28 + 1, x1, I7 =>
    (if (65536 : Int32) ≤ x1 then
    some I7
    else
    nm_c x1 65536 (
    (if (I7 20 x1.toNatClampNeg) = 0 then
    f_X12_findNets_J114 x1 I7 (f_X12_findNets_L28 n28)
    else
    nm_c (x1 / (4096 : Int32)) 16 (
    (if (I7 50 (x1 / (4096 : Int32)).toNatClampNeg) = 0 then
    f_X12_findNets_J114 x1 I7 (f_X12_findNets_L28 n28)
    else
    nm_c x1 65536 (
    (if (I7 59 x1.toNatClampNeg) < 0 then
    nm_l (nm_up I7 0 60 (0 : Int32)) fun I16 =>
    nm_s1 (f_X12_reaches x1 I16) fun I17 =>
    nm_s1 (f_X12_findNets_L80 nm_F (0 : Int32) I17) fun I24 =>
    nm_l (nm_up I24 0 57 ((I24 0 57) + (1 : Int32))) fun I25 =>
    f_X12_findNets_J114 x1 I25 (f_X12_findNets_L28 n28)
    else
    f_X12_findNets_J114 x1 I7 (f_X12_findNets_L28 n28))))))))
def f_X12_findNets (I : nm_I) : Option (nm_I) :=
nm_s1 (f_X12_findNets_L2 nm_F (0 : Int32) I) fun I5 =>
nm_l (nm_up I5 0 57 (0 : Int32)) fun I6 =>
nm_s1 (f_X12_findNets_L28 nm_F (0 : Int32) I6) fun I27 =>
some I27
set_option maxHeartbeats 4000000 in
set_option maxRecDepth 100000 in
theorem k_X12_findNets {l : Launch} {D : va_G} {Y : nm_Y} {s0 : Nat} {X : va_W} {ad : Nat → Nat}  {I : nm_I} {M0 : nm_I} (hf : f_X12_findNets I = some M0) :
    nm_Met l yX12_findNets cX12_findNets 3 none { frames := 2, cells := 0, slots := 0, locals := 45 } [.ref (ad 0)] D Y s0 (nm_W Y X moN ad (I, nJ0, moZ)) (nm_Qv D s0 (nm_W Y X moN ad (M0, nJ0, moZ))) 0 0 := by
  refine nm_of (by decide) (Nat.le_of_ble_eq_true rfl) ?_
  intro p e R s m args below meth c Q ls hx hb hr hlocks hml hown hts hs0 hK hZ hRf hRl hRc hRs hQ hP hD hl
  have hH : nm_H D Y (fun q => s0 ≤ q) s.heap X moN ad (I, nJ0, moZ) s.heap [] := ⟨hP, hD, va_S.rf⟩
  have hl : lv_has ls 3 [(0, .ref (ad 0))] := hl
  unfold f_X12_findNets at hf
  refine lv_iconst (v := 0) hx hb dX12_findNets_0 (by decide) ?_
  refine lv_istore_n (lv' := [(1, .int (0 : Int32)), (0, .ref (ad 0))]) hx hb dX12_findNets_1 rfl hl (by decide) rfl (fun ls hl => ?_)
  have hL2 : ∀ (n2 : Nat) (x1 : Int32) (I1 : nm_I) (H : Heap) (locs : List Loc) (ls : Array Slot) (o2 : nm_I), nm_H D Y (fun q => s0 ≤ q) s.heap X moN ad (I1, nJ0, moZ) H locs → lv_has ls 3 [(0, .ref (ad 0)), (1, .int x1)] → f_X12_findNets_L2 n2 x1 I1 = some o2 → (∀ (H : Heap) (locs : List Loc) (ls : Array Slot), nm_H D Y (fun q => s0 ≤ q) s.heap X moN ad (o2, nJ0, moZ) H locs → lv_has ls 3 [(0, .ref (ad 0))] → W p l e R s m args below meth c H locs 0 0 Q (F0 m 21 ls [])) → W p l e R s m args below meth c H locs 0 0 Q (F0 m 2 ls []) := by
    intro n2
    induction n2 with
    | zero =>
      intro x1 I1 H locs ls o2 hH hl hf hX2
      cases hf
    | succ n2 ih2 =>
      intro x1 I1 H locs ls o2 hH hl hf hX2
      rw [f_X12_findNets_L2] at hf
      refine lv_iload_n hx hb dX12_findNets_2 rfl (lv_at hl 1 rfl) ?_
      refine lv_ldc hx hb hown (hts _ tw_955) dX12_findNets_3 ?_
      refine lv_icmp_ge (tgt := 21) hx hb dX12_findNets_5 (by decide) (fun c2 => ?_) (fun c2 => ?_)
      · have hf := nm_it c2 hf
        cases hf
        exact hX2 _ _ _ hH (lv_sub hl [0] rfl)
      · have hf := nm_ie c2 hf
        refine lv_aload_n hx hb dX12_findNets_8 rfl (lv_at hl 0 rfl) ?_
        refine gf_12_58 hK hx hb hts hown hH mo_n0 mo_k0 (hts _ tw_1013) (fun _ h9 => h9) dX12_findNets_9 ?_
        refine lv_iload_n hx hb dX12_findNets_12 rfl (lv_at hl 1 rfl) ?_
        refine lv_iconst (v := -1) hx hb dX12_findNets_13 (by decide) ?_
        obtain ⟨hi3, hf⟩ := nm_chk hf
        obtain ⟨I4, eI4, hf⟩ := nm_let hf
        refine nm_iast hx hb hK hH mo_n59 mo_k59 mo_l59 hi3 dX12_findNets_14 (fun H locs hH => ?_)
        have hH : nm_H D Y (fun q => s0 ≤ q) s.heap X moN ad (I4, nJ0, moZ) H locs := by rw [eI4]; exact hH
        refine lv_iinc (v := x1 + 1) (lv' := [(1, .int (x1 + 1)), (0, .ref (ad 0))]) hx hb dX12_findNets_15 hl (k := 1) rfl rfl (by decide) rfl (fun ls hl => ?_)
        refine lv_goto (tgt := 2) hx hb dX12_findNets_18 (by decide) ?_
        exact ih2 (x1 + 1) I4 _ _ _ _ hH (lv_sub hl [1, 0] rfl) hf hX2
  obtain ⟨I5, hl29, hf⟩ := nm_sd1 hf
  refine hL2 nm_F (0 : Int32) I _ _ _ _ hH (lv_sub hl [1, 0] rfl) hl29 (fun H locs ls hH hl => ?_)
  have hl : lv_has ls 3 [(0, .ref (ad 0))] := hl
  have hH : nm_H D Y (fun q => s0 ≤ q) s.heap X moN ad (I5, nJ0, moZ) H locs := hH
  refine lv_aload_n hx hb dX12_findNets_21 rfl (lv_at hl 0 rfl) ?_
  refine lv_iconst (v := 0) hx hb dX12_findNets_22 (by decide) ?_
  obtain ⟨I6, eI6, hf⟩ := nm_let hf
  refine pf_12_57 hK hx hb hts hown hH mo_n0 mo_k0 (hts _ tw_1012) (fun _ h9 => h9) dX12_findNets_23 (fun H locs hH => ?_)
  have hH : nm_H D Y (fun q => s0 ≤ q) s.heap X moN ad (I6, nJ0, moZ) H locs := by rw [eI6]; exact hH
  refine lv_iconst (v := 0) hx hb dX12_findNets_26 (by decide) ?_
  refine lv_istore_n (lv' := [(1, .int (0 : Int32)), (0, .ref (ad 0))]) hx hb dX12_findNets_27 rfl hl (by decide) rfl (fun ls hl => ?_)
  have hL28 : ∀ (n28 : Nat) (x1 : Int32) (I7 : nm_I) (H : Heap) (locs : List Loc) (ls : Array Slot) (o28 : nm_I), nm_H D Y (fun q => s0 ≤ q) s.heap X moN ad (I7, nJ0, moZ) H locs → lv_has ls 3 [(0, .ref (ad 0)), (1, .int x1)] → f_X12_findNets_L28 n28 x1 I7 = some o28 → (∀ (H : Heap) (locs : List Loc) (ls : Array Slot), nm_H D Y (fun q => s0 ≤ q) s.heap X moN ad (o28, nJ0, moZ) H locs → lv_has ls 3 [] → W p l e R s m args below meth c H locs 0 0 Q (F0 m 120 ls [])) → W p l e R s m args below meth c H locs 0 0 Q (F0 m 28 ls []) := by
    intro n28
    induction n28 with
    | zero =>
      intro x1 I7 H locs ls o28 hH hl hf hX28
      cases hf
    | succ n28 ih28 =>
      intro x1 I7 H locs ls o28 hH hl hf hX28
      rw [f_X12_findNets_L28] at hf
      refine lv_iload_n hx hb dX12_findNets_28 rfl (lv_at hl 1 rfl) ?_
      refine lv_ldc hx hb hown (hts _ tw_955) dX12_findNets_29 ?_
      refine lv_icmp_ge (tgt := 120) hx hb dX12_findNets_31 (by decide) (fun c8 => ?_) (fun c8 => ?_)
      · have hf := nm_it c8 hf
        cases hf
        exact hX28 _ _ _ hH (lv_sub hl [] rfl)
      · have hf := nm_ie c8 hf
        refine lv_aload_n hx hb dX12_findNets_34 rfl (lv_at hl 0 rfl) ?_
        refine gf_12_19 hK hx hb hts hown hH mo_n0 mo_k0 (hts _ tw_975) (fun _ h9 => h9) dX12_findNets_35 ?_
        refine lv_iload_n hx hb dX12_findNets_38 rfl (lv_at hl 1 rfl) ?_
        obtain ⟨hi9, hf⟩ := nm_chk hf
        refine nm_zald hx hb hK hH mo_n20 mo_k20 mo_l20 hi9 dX12_findNets_39 ?_
        have hJ114 : ∀ (I10 : nm_I) (H : Heap) (locs : List Loc) (ls : Array Slot), nm_H D Y (fun q => s0 ≤ q) s.heap X moN ad (I10, nJ0, moZ) H locs → lv_has ls 3 [(0, .ref (ad 0)), (1, .int x1)] → f_X12_findNets_J114 x1 I10 (f_X12_findNets_L28 n28) = some o28 → W p l e R s m args below meth c H locs 0 0 Q (F0 m 114 ls []) := by
          intro I10 H locs ls hH hl hf
          unfold f_X12_findNets_J114 at hf
          refine lv_iinc (v := x1 + 1) (lv' := [(1, .int (x1 + 1)), (0, .ref (ad 0))]) hx hb dX12_findNets_114 hl (k := 1) rfl rfl (by decide) rfl (fun ls hl => ?_)
          refine lv_goto (tgt := 28) hx hb dX12_findNets_117 (by decide) ?_
          exact ih28 (x1 + 1) I10 _ _ _ _ hH (lv_sub hl [1, 0] rfl) hf hX28
        refine lv_if_eq (tgt := 114) hx hb dX12_findNets_40 (by decide) (fun c11 => ?_) (fun c11 => ?_)
        · have hf := nm_it c11 hf
          exact hJ114  I7 _ _ _ hH (lv_sub hl [0, 1] rfl) hf
        · have hf := nm_ie c11 hf
          refine lv_aload_n hx hb dX12_findNets_43 rfl (lv_at hl 0 rfl) ?_
          refine gf_12_49 hK hx hb hts hown hH mo_n0 mo_k0 (hts _ tw_1004) (fun _ h9 => h9) dX12_findNets_44 ?_
          refine lv_iload_n hx hb dX12_findNets_47 rfl (lv_at hl 1 rfl) ?_
          refine lv_sipush (v := 4096) hx hb dX12_findNets_48 (by decide) ?_
          refine lv_idiv hx hb dX12_findNets_51 (by decide) ?_
          obtain ⟨hi12, hf⟩ := nm_chk hf
          refine nm_zald hx hb hK hH mo_n50 mo_k50 mo_l50 hi12 dX12_findNets_52 ?_
          refine lv_if_eq (tgt := 114) hx hb dX12_findNets_53 (by decide) (fun c13 => ?_) (fun c13 => ?_)
          · have hf := nm_it c13 hf
            exact hJ114  I7 _ _ _ hH (lv_sub hl [0, 1] rfl) hf
          · have hf := nm_ie c13 hf
            refine lv_aload_n hx hb dX12_findNets_56 rfl (lv_at hl 0 rfl) ?_
            refine gf_12_58 hK hx hb hts hown hH mo_n0 mo_k0 (hts _ tw_1013) (fun _ h9 => h9) dX12_findNets_57 ?_
            refine lv_iload_n hx hb dX12_findNets_60 rfl (lv_at hl 1 rfl) ?_
            obtain ⟨hi14, hf⟩ := nm_chk hf
            refine nm_iald hx hb hK hH mo_n59 mo_k59 mo_l59 hi14 dX12_findNets_61 ?_
            refine lv_if_lt (tgt := 68) hx hb dX12_findNets_62 (by decide) (fun c15 => ?_) (fun c15 => ?_)
            · have hf := nm_it c15 hf
              refine lv_aload_n hx hb dX12_findNets_68 rfl (lv_at hl 0 rfl) ?_
              refine lv_iconst (v := 0) hx hb dX12_findNets_69 (by decide) ?_
              obtain ⟨I16, eI16, hf⟩ := nm_let hf
              refine pf_12_60 hK hx hb hts hown hH mo_n0 mo_k0 (hts _ tw_1015) (fun _ h9 => h9) dX12_findNets_70 (fun H locs hH => ?_)
              have hH : nm_H D Y (fun q => s0 ≤ q) s.heap X moN ad (I16, nJ0, moZ) H locs := by rw [eI16]; exact hH
              refine lv_aload_n hx hb dX12_findNets_73 rfl (lv_at hl 0 rfl) ?_
              refine lv_iload_n hx hb dX12_findNets_74 rfl (lv_at hl 1 rfl) ?_
              obtain ⟨I17, hc18, hf⟩ := nm_sd1 hf
              refine nm_callv (nm_runV (X := X) (nl := moN) (k_X12_reaches (hf := hc18)) hx hb hml hown hts hs0 hK hZ hH tw_1414 tw_1411 tw_1413 (sw_X12_reaches) tw_9 hd_X12_reaches mo_n0 mo_k0 (by decide) rfl rfl rfl ⟨Nat.le_trans (Nat.le_of_ble_eq_true rfl) hRf, Nat.le_trans (Nat.le_of_ble_eq_true rfl) hRl⟩ rfl hl.1 rfl (Nat.le_of_ble_eq_true rfl) dX12_findNets_75 ⟨Nat.zero_le _, Nat.zero_le _⟩) hH (fun H locs hH => ?_)
              have hH : nm_H D Y (fun q => s0 ≤ q) s.heap X moN ad (I17, nJ0, moZ) H locs := hH
              refine lv_iconst (v := 0) hx hb dX12_findNets_78 (by decide) ?_
              refine lv_istore_n (lv' := [(2, .int (0 : Int32)), (0, .ref (ad 0)), (1, .int x1)]) hx hb dX12_findNets_79 rfl hl (by decide) rfl (fun ls hl => ?_)
              have hL80 : ∀ (n80 : Nat) (x2 : Int32) (I19 : nm_I) (H : Heap) (locs : List Loc) (ls : Array Slot) (o80 : nm_I), nm_H D Y (fun q => s0 ≤ q) s.heap X moN ad (I19, nJ0, moZ) H locs → lv_has ls 3 [(0, .ref (ad 0)), (1, .int x1), (2, .int x2)] → f_X12_findNets_L80 n80 x2 I19 = some o80 → (∀ (H : Heap) (locs : List Loc) (ls : Array Slot), nm_H D Y (fun q => s0 ≤ q) s.heap X moN ad (o80, nJ0, moZ) H locs → lv_has ls 3 [(0, .ref (ad 0)), (1, .int x1)] → W p l e R s m args below meth c H locs 0 0 Q (F0 m 104 ls [])) → W p l e R s m args below meth c H locs 0 0 Q (F0 m 80 ls []) := by
                intro n80
                induction n80 with
                | zero =>
                  intro x2 I19 H locs ls o80 hH hl hf hX80
                  cases hf
                | succ n80 ih80 =>
                  intro x2 I19 H locs ls o80 hH hl hf hX80
                  rw [f_X12_findNets_L80] at hf
                  refine lv_iload_n hx hb dX12_findNets_80 rfl (lv_at hl 2 rfl) ?_
                  refine lv_aload_n hx hb dX12_findNets_81 rfl (lv_at hl 0 rfl) ?_
                  refine gf_12_60 hK hx hb hts hown hH mo_n0 mo_k0 (hts _ tw_1015) (fun _ h9 => h9) dX12_findNets_82 ?_
                  refine lv_icmp_ge (tgt := 104) hx hb dX12_findNets_85 (by decide) (fun c20 => ?_) (fun c20 => ?_)
                  · have hf := nm_it c20 hf
                    cases hf
                    exact hX80 _ _ _ hH (lv_sub hl [0, 1] rfl)
                  · have hf := nm_ie c20 hf
                    refine lv_aload_n hx hb dX12_findNets_88 rfl (lv_at hl 0 rfl) ?_
                    refine lv_aload_n hx hb dX12_findNets_89 rfl (lv_at hl 0 rfl) ?_
                    refine gf_12_59 hK hx hb hts hown hH mo_n0 mo_k0 (hts _ tw_1014) (fun _ h9 => h9) dX12_findNets_90 ?_
                    refine lv_iload_n hx hb dX12_findNets_93 rfl (lv_at hl 2 rfl) ?_
                    obtain ⟨hi21, hf⟩ := nm_chk hf
                    refine nm_iald hx hb hK hH mo_n60 mo_k60 mo_l60 hi21 dX12_findNets_94 ?_
                    obtain ⟨I22, hc23, hf⟩ := nm_sd1 hf
                    refine nm_callv (nm_runV (X := X) (nl := moN) (k_X12_goesOnFrom (hf := hc23)) hx hb hml hown hts hs0 hK hZ hH tw_1418 tw_1415 tw_1417 (sw_X12_goesOnFrom) tw_9 hd_X12_goesOnFrom mo_n0 mo_k0 (by decide) rfl rfl rfl ⟨Nat.le_trans (Nat.le_of_ble_eq_true rfl) hRf, Nat.le_trans (Nat.le_of_ble_eq_true rfl) hRl⟩ rfl hl.1 rfl (Nat.le_of_ble_eq_true rfl) dX12_findNets_95 ⟨Nat.zero_le _, Nat.zero_le _⟩) hH (fun H locs hH => ?_)
                    have hH : nm_H D Y (fun q => s0 ≤ q) s.heap X moN ad (I22, nJ0, moZ) H locs := hH
                    refine lv_iinc (v := x2 + 1) (lv' := [(2, .int (x2 + 1)), (0, .ref (ad 0)), (1, .int x1)]) hx hb dX12_findNets_98 hl (k := 2) rfl rfl (by decide) rfl (fun ls hl => ?_)
                    refine lv_goto (tgt := 80) hx hb dX12_findNets_101 (by decide) ?_
                    exact ih80 (x2 + 1) I22 _ _ _ _ hH (lv_sub hl [1, 2, 0] rfl) hf hX80
              obtain ⟨I24, hl26, hf⟩ := nm_sd1 hf
              refine hL80 nm_F (0 : Int32) I17 _ _ _ _ hH (lv_sub hl [1, 2, 0] rfl) hl26 (fun H locs ls hH hl => ?_)
              have hl : lv_has ls 3 [(0, .ref (ad 0)), (1, .int x1)] := hl
              have hH : nm_H D Y (fun q => s0 ≤ q) s.heap X moN ad (I24, nJ0, moZ) H locs := hH
              refine lv_aload_n hx hb dX12_findNets_104 rfl (lv_at hl 0 rfl) ?_
              refine lv_dup hx hb dX12_findNets_105 rfl ?_
              refine gf_12_57 hK hx hb hts hown hH mo_n0 mo_k0 (hts _ tw_1012) (fun _ h9 => h9) dX12_findNets_106 ?_
              refine lv_iconst (v := 1) hx hb dX12_findNets_109 (by decide) ?_
              refine lv_iadd hx hb dX12_findNets_110 ?_
              obtain ⟨I25, eI25, hf⟩ := nm_let hf
              refine pf_12_57 hK hx hb hts hown hH mo_n0 mo_k0 (hts _ tw_1012) (fun _ h9 => h9) dX12_findNets_111 (fun H locs hH => ?_)
              have hH : nm_H D Y (fun q => s0 ≤ q) s.heap X moN ad (I25, nJ0, moZ) H locs := by rw [eI25]; exact hH
              exact hJ114  I25 _ _ _ hH (lv_sub hl [0, 1] rfl) hf
            · have hf := nm_ie c15 hf
              refine lv_goto (tgt := 114) hx hb dX12_findNets_65 (by decide) ?_
              exact hJ114  I7 _ _ _ hH (lv_sub hl [0, 1] rfl) hf
  obtain ⟨I27, hl28, hf⟩ := nm_sd1 hf
  refine hL28 nm_F (0 : Int32) I6 _ _ _ _ hH (lv_sub hl [1, 0] rfl) hl28 (fun H locs ls hH hl => ?_)
  have hl : lv_has ls 3 [] := hl
  have hH : nm_H D Y (fun q => s0 ≤ q) s.heap X moN ad (I27, nJ0, moZ) H locs := hH
  exact nm_vret hx hb hr hlocks hQ hH (congrArg (fun q => (q, nJ0, moZ)) (Option.some.inj hf)) dX12_findNets_120
