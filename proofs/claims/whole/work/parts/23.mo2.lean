def f_X12_touches_L2  : Nat → Int32 → nm_I → Option (nm_I)
  | 0, _, _ => none
  | n2 + 1, x2, I1 =>
    (if (I1 0 33) ≤ x2 then
    some I1
    else
    nm_c x2 4096 (
    nm_l (nm_up I1 33 x2.toNatClampNeg (vp_nar .boolean (0 : Int32))) fun I4 =>
    f_X12_touches_L2 n2 (x2 + 1) I4))
def f_X12_touches_J73 (x2 : Int32) (I9 : nm_I) (k : Int32 → nm_I → Option (nm_I)) : Option (nm_I) :=
k (x2 + 1) I9
def f_X12_touches_L25 (x1 : Int32) : Nat → Int32 → nm_I → Option (nm_I)
  | 0, _, _ => none
  | n25 + 1, x2, I6 =>
    (if (4096 : Int32) ≤ x2 then
    some I6
    else
    nm_c x2 4096 (
    (if (I6 28 x2.toNatClampNeg) < 0 then
    f_X12_touches_J73 x2 I6 (f_X12_touches_L25 x1 n25)
    else
    nm_c x1 16 (
    nm_c (((4096 : Int32) * (I6 11 x1.toNatClampNeg)) + x2) 65536 (
    (if (I6 20 (((4096 : Int32) * (I6 11 x1.toNatClampNeg)) + x2).toNatClampNeg) = 0 then
    f_X12_touches_J73 x2 I6 (f_X12_touches_L25 x1 n25)
    else
    nm_c x2 4096 (
    nm_c (I6 28 x2.toNatClampNeg) 4096 (
    nm_l (nm_up I6 33 ((I6 28 x2.toNatClampNeg).toNatClampNeg) (vp_nar .boolean (1 : Int32))) fun I16 =>
    f_X12_touches_J73 x2 I16 (f_X12_touches_L25 x1 n25)))))))))
def f_X12_touches_J127 (x2 : Int32) (t127_2 : Int32) (t127_1 : Int32) (I18 : nm_I) (k : Int32 → nm_I → Option (nm_I)) : Option (nm_I) :=
nm_c t127_1 65536 (
nm_l (nm_up I18 20 t127_1.toNatClampNeg (vp_nar .boolean t127_2)) fun I22 =>
k (x2 + 1) I22)
def f_X12_touches_J126 (x2 : Int32) (t126_1 : Int32) (I18 : nm_I) (k : Int32 → nm_I → Option (nm_I)) : Option (nm_I) :=
f_X12_touches_J127 x2 (0 : Int32) t126_1 I18 k
def f_X12_touches_L81 (x1 : Int32) : Nat → Int32 → nm_I → Option (nm_I)
  | 0, _, _ => none
  | n81 + 1, x2, I18 =>
    (if (4096 : Int32) ≤ x2 then
    some I18
    else
    nm_c x2 4096 (
    (if (I18 28 x2.toNatClampNeg) < 0 then
    f_X12_touches_J126 x2 (((4096 : Int32) * x1) + x2) I18 (f_X12_touches_L81 x1 n81)
    else
    nm_c x2 4096 (
    nm_c (I18 28 x2.toNatClampNeg) 4096 (
    (if (I18 33 (I18 28 x2.toNatClampNeg).toNatClampNeg) = 0 then
    f_X12_touches_J126 x2 (((4096 : Int32) * x1) + x2) I18 (f_X12_touches_L81 x1 n81)
    else
    f_X12_touches_J127 x2 (1 : Int32) (((4096 : Int32) * x1) + x2) I18 (f_X12_touches_L81 x1 n81)))))))
def f_X12_touches (x1 : Int32) (I : nm_I) : Option (nm_I) :=
nm_s1 (f_X12_touches_L2 nm_F (0 : Int32) I) fun I5 =>
nm_s1 (f_X12_touches_L25 x1 nm_F (0 : Int32) I5) fun I17 =>
nm_s1 (f_X12_touches_L81 x1 nm_F (0 : Int32) I17) fun I27 =>
some I27
set_option maxHeartbeats 4000000 in
set_option maxRecDepth 100000 in
theorem k_X12_touches {l : Launch} {D : va_G} {Y : nm_Y} {s0 : Nat} {X : va_W} {ad : Nat → Nat}  {x1 : Int32} {I : nm_I} {M0 : nm_I} (hf : f_X12_touches x1 I = some M0) :
    nm_Met l yX12_touches cX12_touches 3 none { frames := 0, cells := 0, slots := 0, locals := 0 } [.ref (ad 0), .int x1] D Y s0 (nm_W Y X moN ad (I, nJ0, moZ)) (nm_Qv D s0 (nm_W Y X moN ad (M0, nJ0, moZ))) 0 0 := by
  refine nm_of (by decide) (Nat.le_of_ble_eq_true rfl) ?_
  intro p e R s m args below meth c Q ls hx hb hr hlocks hml hown hts hs0 hK hZ hRf hRl hRc hRs hQ hP hD hl
  have hH : nm_H D Y (fun q => s0 ≤ q) s.heap X moN ad (I, nJ0, moZ) s.heap [] := ⟨hP, hD, va_S.rf⟩
  have hl : lv_has ls 3 [(0, .ref (ad 0)), (1, .int x1)] := hl
  unfold f_X12_touches at hf
  refine lv_iconst (v := 0) hx hb dX12_touches_0 (by decide) ?_
  refine lv_istore_n (lv' := [(2, .int (0 : Int32)), (0, .ref (ad 0)), (1, .int x1)]) hx hb dX12_touches_1 rfl hl (by decide) rfl (fun ls hl => ?_)
  have hL2 : ∀ (n2 : Nat) (x2 : Int32) (I1 : nm_I) (H : Heap) (locs : List Loc) (ls : Array Slot) (o2 : nm_I), nm_H D Y (fun q => s0 ≤ q) s.heap X moN ad (I1, nJ0, moZ) H locs → lv_has ls 3 [(0, .ref (ad 0)), (1, .int x1), (2, .int x2)] → f_X12_touches_L2 n2 x2 I1 = some o2 → (∀ (H : Heap) (locs : List Loc) (ls : Array Slot), nm_H D Y (fun q => s0 ≤ q) s.heap X moN ad (o2, nJ0, moZ) H locs → lv_has ls 3 [(0, .ref (ad 0)), (1, .int x1)] → W p l e R s m args below meth c H locs 0 0 Q (F0 m 23 ls [])) → W p l e R s m args below meth c H locs 0 0 Q (F0 m 2 ls []) := by
    intro n2
    induction n2 with
    | zero =>
      intro x2 I1 H locs ls o2 hH hl hf hX2
      cases hf
    | succ n2 ih2 =>
      intro x2 I1 H locs ls o2 hH hl hf hX2
      rw [f_X12_touches_L2] at hf
      refine lv_iload_n hx hb dX12_touches_2 rfl (lv_at hl 2 rfl) ?_
      refine lv_aload_n hx hb dX12_touches_3 rfl (lv_at hl 0 rfl) ?_
      refine gf_12_33 hK hx hb hts hown hH mo_n0 mo_k0 (hts _ tw_989) (fun _ h9 => h9) dX12_touches_4 ?_
      refine lv_icmp_ge (tgt := 23) hx hb dX12_touches_7 (by decide) (fun c2 => ?_) (fun c2 => ?_)
      · have hf := nm_it c2 hf
        cases hf
        exact hX2 _ _ _ hH (lv_sub hl [0, 1] rfl)
      · have hf := nm_ie c2 hf
        refine lv_aload_n hx hb dX12_touches_10 rfl (lv_at hl 0 rfl) ?_
        refine gf_12_32 hK hx hb hts hown hH mo_n0 mo_k0 (hts _ tw_988) (fun _ h9 => h9) dX12_touches_11 ?_
        refine lv_iload_n hx hb dX12_touches_14 rfl (lv_at hl 2 rfl) ?_
        refine lv_iconst (v := 0) hx hb dX12_touches_15 (by decide) ?_
        obtain ⟨hi3, hf⟩ := nm_chk hf
        obtain ⟨I4, eI4, hf⟩ := nm_let hf
        refine nm_zast hx hb hK hH mo_n33 mo_k33 mo_l33 hi3 dX12_touches_16 (fun H locs hH => ?_)
        have hH : nm_H D Y (fun q => s0 ≤ q) s.heap X moN ad (I4, nJ0, moZ) H locs := by rw [eI4]; exact hH
        refine lv_iinc (v := x2 + 1) (lv' := [(2, .int (x2 + 1)), (0, .ref (ad 0)), (1, .int x1)]) hx hb dX12_touches_17 hl (k := 2) rfl rfl (by decide) rfl (fun ls hl => ?_)
        refine lv_goto (tgt := 2) hx hb dX12_touches_20 (by decide) ?_
        exact ih2 (x2 + 1) I4 _ _ _ _ hH (lv_sub hl [1, 2, 0] rfl) hf hX2
  obtain ⟨I5, hl30, hf⟩ := nm_sd1 hf
  refine hL2 nm_F (0 : Int32) I _ _ _ _ hH (lv_sub hl [1, 2, 0] rfl) hl30 (fun H locs ls hH hl => ?_)
  have hl : lv_has ls 3 [(0, .ref (ad 0)), (1, .int x1)] := hl
  have hH : nm_H D Y (fun q => s0 ≤ q) s.heap X moN ad (I5, nJ0, moZ) H locs := hH
  refine lv_iconst (v := 0) hx hb dX12_touches_23 (by decide) ?_
  refine lv_istore_n (lv' := [(2, .int (0 : Int32)), (0, .ref (ad 0)), (1, .int x1)]) hx hb dX12_touches_24 rfl hl (by decide) rfl (fun ls hl => ?_)
  have hL25 : ∀ (n25 : Nat) (x2 : Int32) (I6 : nm_I) (H : Heap) (locs : List Loc) (ls : Array Slot) (o25 : nm_I), nm_H D Y (fun q => s0 ≤ q) s.heap X moN ad (I6, nJ0, moZ) H locs → lv_has ls 3 [(0, .ref (ad 0)), (1, .int x1), (2, .int x2)] → f_X12_touches_L25 x1 n25 x2 I6 = some o25 → (∀ (H : Heap) (locs : List Loc) (ls : Array Slot), nm_H D Y (fun q => s0 ≤ q) s.heap X moN ad (o25, nJ0, moZ) H locs → lv_has ls 3 [(0, .ref (ad 0)), (1, .int x1)] → W p l e R s m args below meth c H locs 0 0 Q (F0 m 79 ls [])) → W p l e R s m args below meth c H locs 0 0 Q (F0 m 25 ls []) := by
    intro n25
    induction n25 with
    | zero =>
      intro x2 I6 H locs ls o25 hH hl hf hX25
      cases hf
    | succ n25 ih25 =>
      intro x2 I6 H locs ls o25 hH hl hf hX25
      rw [f_X12_touches_L25] at hf
      refine lv_iload_n hx hb dX12_touches_25 rfl (lv_at hl 2 rfl) ?_
      refine lv_sipush (v := 4096) hx hb dX12_touches_26 (by decide) ?_
      refine lv_icmp_ge (tgt := 79) hx hb dX12_touches_29 (by decide) (fun c7 => ?_) (fun c7 => ?_)
      · have hf := nm_it c7 hf
        cases hf
        exact hX25 _ _ _ hH (lv_sub hl [0, 1] rfl)
      · have hf := nm_ie c7 hf
        refine lv_aload_n hx hb dX12_touches_32 rfl (lv_at hl 0 rfl) ?_
        refine gf_12_27 hK hx hb hts hown hH mo_n0 mo_k0 (hts _ tw_983) (fun _ h9 => h9) dX12_touches_33 ?_
        refine lv_iload_n hx hb dX12_touches_36 rfl (lv_at hl 2 rfl) ?_
        obtain ⟨hi8, hf⟩ := nm_chk hf
        refine nm_iald hx hb hK hH mo_n28 mo_k28 mo_l28 hi8 dX12_touches_37 ?_
        have hJ73 : ∀ (I9 : nm_I) (H : Heap) (locs : List Loc) (ls : Array Slot), nm_H D Y (fun q => s0 ≤ q) s.heap X moN ad (I9, nJ0, moZ) H locs → lv_has ls 3 [(0, .ref (ad 0)), (1, .int x1), (2, .int x2)] → f_X12_touches_J73 x2 I9 (f_X12_touches_L25 x1 n25) = some o25 → W p l e R s m args below meth c H locs 0 0 Q (F0 m 73 ls []) := by
          intro I9 H locs ls hH hl hf
          unfold f_X12_touches_J73 at hf
          refine lv_iinc (v := x2 + 1) (lv' := [(2, .int (x2 + 1)), (0, .ref (ad 0)), (1, .int x1)]) hx hb dX12_touches_73 hl (k := 2) rfl rfl (by decide) rfl (fun ls hl => ?_)
          refine lv_goto (tgt := 25) hx hb dX12_touches_76 (by decide) ?_
          exact ih25 (x2 + 1) I9 _ _ _ _ hH (lv_sub hl [1, 2, 0] rfl) hf hX25
        refine lv_if_lt (tgt := 73) hx hb dX12_touches_38 (by decide) (fun c10 => ?_) (fun c10 => ?_)
        · have hf := nm_it c10 hf
          exact hJ73  I6 _ _ _ hH (lv_sub hl [0, 1, 2] rfl) hf
        · have hf := nm_ie c10 hf
          refine lv_aload_n hx hb dX12_touches_41 rfl (lv_at hl 0 rfl) ?_
          refine gf_12_19 hK hx hb hts hown hH mo_n0 mo_k0 (hts _ tw_975) (fun _ h9 => h9) dX12_touches_42 ?_
          refine lv_sipush (v := 4096) hx hb dX12_touches_45 (by decide) ?_
          refine lv_aload_n hx hb dX12_touches_48 rfl (lv_at hl 0 rfl) ?_
          refine gf_12_10 hK hx hb hts hown hH mo_n0 mo_k0 (hts _ tw_966) (fun _ h9 => h9) dX12_touches_49 ?_
          refine lv_iload_n hx hb dX12_touches_52 rfl (lv_at hl 1 rfl) ?_
          obtain ⟨hi11, hf⟩ := nm_chk hf
          refine nm_iald hx hb hK hH mo_n11 mo_k11 mo_l11 hi11 dX12_touches_53 ?_
          refine lv_imul hx hb dX12_touches_54 ?_
          refine lv_iload_n hx hb dX12_touches_55 rfl (lv_at hl 2 rfl) ?_
          refine lv_iadd hx hb dX12_touches_56 ?_
          obtain ⟨hi12, hf⟩ := nm_chk hf
          refine nm_zald hx hb hK hH mo_n20 mo_k20 mo_l20 hi12 dX12_touches_57 ?_
          refine lv_if_eq (tgt := 73) hx hb dX12_touches_58 (by decide) (fun c13 => ?_) (fun c13 => ?_)
          · have hf := nm_it c13 hf
            exact hJ73  I6 _ _ _ hH (lv_sub hl [0, 1, 2] rfl) hf
          · have hf := nm_ie c13 hf
            refine lv_aload_n hx hb dX12_touches_61 rfl (lv_at hl 0 rfl) ?_
            refine gf_12_32 hK hx hb hts hown hH mo_n0 mo_k0 (hts _ tw_988) (fun _ h9 => h9) dX12_touches_62 ?_
            refine lv_aload_n hx hb dX12_touches_65 rfl (lv_at hl 0 rfl) ?_
            refine gf_12_27 hK hx hb hts hown hH mo_n0 mo_k0 (hts _ tw_983) (fun _ h9 => h9) dX12_touches_66 ?_
            refine lv_iload_n hx hb dX12_touches_69 rfl (lv_at hl 2 rfl) ?_
            obtain ⟨hi14, hf⟩ := nm_chk hf
            refine nm_iald hx hb hK hH mo_n28 mo_k28 mo_l28 hi14 dX12_touches_70 ?_
            refine lv_iconst (v := 1) hx hb dX12_touches_71 (by decide) ?_
            obtain ⟨hi15, hf⟩ := nm_chk hf
            obtain ⟨I16, eI16, hf⟩ := nm_let hf
            refine nm_zast hx hb hK hH mo_n33 mo_k33 mo_l33 hi15 dX12_touches_72 (fun H locs hH => ?_)
            have hH : nm_H D Y (fun q => s0 ≤ q) s.heap X moN ad (I16, nJ0, moZ) H locs := by rw [eI16]; exact hH
            exact hJ73  I16 _ _ _ hH (lv_sub hl [0, 1, 2] rfl) hf
  obtain ⟨I17, hl29, hf⟩ := nm_sd1 hf
  refine hL25 nm_F (0 : Int32) I5 _ _ _ _ hH (lv_sub hl [1, 2, 0] rfl) hl29 (fun H locs ls hH hl => ?_)
  have hl : lv_has ls 3 [(0, .ref (ad 0)), (1, .int x1)] := hl
  have hH : nm_H D Y (fun q => s0 ≤ q) s.heap X moN ad (I17, nJ0, moZ) H locs := hH
  refine lv_iconst (v := 0) hx hb dX12_touches_79 (by decide) ?_
  refine lv_istore_n (lv' := [(2, .int (0 : Int32)), (0, .ref (ad 0)), (1, .int x1)]) hx hb dX12_touches_80 rfl hl (by decide) rfl (fun ls hl => ?_)
  have hL81 : ∀ (n81 : Nat) (x2 : Int32) (I18 : nm_I) (H : Heap) (locs : List Loc) (ls : Array Slot) (o81 : nm_I), nm_H D Y (fun q => s0 ≤ q) s.heap X moN ad (I18, nJ0, moZ) H locs → lv_has ls 3 [(0, .ref (ad 0)), (1, .int x1), (2, .int x2)] → f_X12_touches_L81 x1 n81 x2 I18 = some o81 → (∀ (H : Heap) (locs : List Loc) (ls : Array Slot), nm_H D Y (fun q => s0 ≤ q) s.heap X moN ad (o81, nJ0, moZ) H locs → lv_has ls 3 [] → W p l e R s m args below meth c H locs 0 0 Q (F0 m 134 ls [])) → W p l e R s m args below meth c H locs 0 0 Q (F0 m 81 ls []) := by
    intro n81
    induction n81 with
    | zero =>
      intro x2 I18 H locs ls o81 hH hl hf hX81
      cases hf
    | succ n81 ih81 =>
      intro x2 I18 H locs ls o81 hH hl hf hX81
      rw [f_X12_touches_L81] at hf
      refine lv_iload_n hx hb dX12_touches_81 rfl (lv_at hl 2 rfl) ?_
      refine lv_sipush (v := 4096) hx hb dX12_touches_82 (by decide) ?_
      refine lv_icmp_ge (tgt := 134) hx hb dX12_touches_85 (by decide) (fun c19 => ?_) (fun c19 => ?_)
      · have hf := nm_it c19 hf
        cases hf
        exact hX81 _ _ _ hH (lv_sub hl [] rfl)
      · have hf := nm_ie c19 hf
        refine lv_aload_n hx hb dX12_touches_88 rfl (lv_at hl 0 rfl) ?_
        refine gf_12_19 hK hx hb hts hown hH mo_n0 mo_k0 (hts _ tw_975) (fun _ h9 => h9) dX12_touches_89 ?_
        refine lv_sipush (v := 4096) hx hb dX12_touches_92 (by decide) ?_
        refine lv_iload_n hx hb dX12_touches_95 rfl (lv_at hl 1 rfl) ?_
        refine lv_imul hx hb dX12_touches_96 ?_
        refine lv_iload_n hx hb dX12_touches_97 rfl (lv_at hl 2 rfl) ?_
        refine lv_iadd hx hb dX12_touches_98 ?_
        refine lv_aload_n hx hb dX12_touches_99 rfl (lv_at hl 0 rfl) ?_
        refine gf_12_27 hK hx hb hts hown hH mo_n0 mo_k0 (hts _ tw_983) (fun _ h9 => h9) dX12_touches_100 ?_
        refine lv_iload_n hx hb dX12_touches_103 rfl (lv_at hl 2 rfl) ?_
        obtain ⟨hi20, hf⟩ := nm_chk hf
        refine nm_iald hx hb hK hH mo_n28 mo_k28 mo_l28 hi20 dX12_touches_104 ?_
        have hJ127 : ∀ (t127_2 : Int32) (t127_1 : Int32) (H : Heap) (locs : List Loc) (ls : Array Slot), nm_H D Y (fun q => s0 ≤ q) s.heap X moN ad (I18, nJ0, moZ) H locs → lv_has ls 3 [(0, .ref (ad 0)), (1, .int x1), (2, .int x2)] → f_X12_touches_J127 x2 t127_2 t127_1 I18 (f_X12_touches_L81 x1 n81) = some o81 → W p l e R s m args below meth c H locs 0 0 Q (F0 m 127 ls [.int t127_2, .int t127_1, .ref (ad 20)]) := by
          intro t127_2 t127_1 H locs ls hH hl hf
          unfold f_X12_touches_J127 at hf
          obtain ⟨hi21, hf⟩ := nm_chk hf
          obtain ⟨I22, eI22, hf⟩ := nm_let hf
          refine nm_zast hx hb hK hH mo_n20 mo_k20 mo_l20 hi21 dX12_touches_127 (fun H locs hH => ?_)
          have hH : nm_H D Y (fun q => s0 ≤ q) s.heap X moN ad (I22, nJ0, moZ) H locs := by rw [eI22]; exact hH
          refine lv_iinc (v := x2 + 1) (lv' := [(2, .int (x2 + 1)), (0, .ref (ad 0)), (1, .int x1)]) hx hb dX12_touches_128 hl (k := 2) rfl rfl (by decide) rfl (fun ls hl => ?_)
          refine lv_goto (tgt := 81) hx hb dX12_touches_131 (by decide) ?_
          exact ih81 (x2 + 1) I22 _ _ _ _ hH (lv_sub hl [1, 2, 0] rfl) hf hX81
        have hJ126 : ∀ (t126_1 : Int32) (H : Heap) (locs : List Loc) (ls : Array Slot), nm_H D Y (fun q => s0 ≤ q) s.heap X moN ad (I18, nJ0, moZ) H locs → lv_has ls 3 [(0, .ref (ad 0)), (1, .int x1), (2, .int x2)] → f_X12_touches_J126 x2 t126_1 I18 (f_X12_touches_L81 x1 n81) = some o81 → W p l e R s m args below meth c H locs 0 0 Q (F0 m 126 ls [.int t126_1, .ref (ad 20)]) := by
          intro t126_1 H locs ls hH hl hf
          unfold f_X12_touches_J126 at hf
          refine lv_iconst (v := 0) hx hb dX12_touches_126 (by decide) ?_
          exact hJ127 (0 : Int32) t126_1 _ _ _ hH (lv_sub hl [0, 1, 2] rfl) hf
        refine lv_if_lt (tgt := 126) hx hb dX12_touches_105 (by decide) (fun c23 => ?_) (fun c23 => ?_)
        · have hf := nm_it c23 hf
          exact hJ126 (((4096 : Int32) * x1) + x2) _ _ _ hH (lv_sub hl [0, 1, 2] rfl) hf
        · have hf := nm_ie c23 hf
          refine lv_aload_n hx hb dX12_touches_108 rfl (lv_at hl 0 rfl) ?_
          refine gf_12_32 hK hx hb hts hown hH mo_n0 mo_k0 (hts _ tw_988) (fun _ h9 => h9) dX12_touches_109 ?_
          refine lv_aload_n hx hb dX12_touches_112 rfl (lv_at hl 0 rfl) ?_
          refine gf_12_27 hK hx hb hts hown hH mo_n0 mo_k0 (hts _ tw_983) (fun _ h9 => h9) dX12_touches_113 ?_
          refine lv_iload_n hx hb dX12_touches_116 rfl (lv_at hl 2 rfl) ?_
          obtain ⟨hi24, hf⟩ := nm_chk hf
          refine nm_iald hx hb hK hH mo_n28 mo_k28 mo_l28 hi24 dX12_touches_117 ?_
          obtain ⟨hi25, hf⟩ := nm_chk hf
          refine nm_zald hx hb hK hH mo_n33 mo_k33 mo_l33 hi25 dX12_touches_118 ?_
          refine lv_if_eq (tgt := 126) hx hb dX12_touches_119 (by decide) (fun c26 => ?_) (fun c26 => ?_)
          · have hf := nm_it c26 hf
            exact hJ126 (((4096 : Int32) * x1) + x2) _ _ _ hH (lv_sub hl [0, 1, 2] rfl) hf
          · have hf := nm_ie c26 hf
            refine lv_iconst (v := 1) hx hb dX12_touches_122 (by decide) ?_
            refine lv_goto (tgt := 127) hx hb dX12_touches_123 (by decide) ?_
            exact hJ127 (1 : Int32) (((4096 : Int32) * x1) + x2) _ _ _ hH (lv_sub hl [0, 1, 2] rfl) hf
  obtain ⟨I27, hl28, hf⟩ := nm_sd1 hf
  refine hL81 nm_F (0 : Int32) I17 _ _ _ _ hH (lv_sub hl [1, 2, 0] rfl) hl28 (fun H locs ls hH hl => ?_)
  have hl : lv_has ls 3 [] := hl
  have hH : nm_H D Y (fun q => s0 ≤ q) s.heap X moN ad (I27, nJ0, moZ) H locs := hH
  exact nm_vret hx hb hr hlocks hQ hH (congrArg (fun q => (q, nJ0, moZ)) (Option.some.inj hf)) dX12_touches_134
def f_X12_makes_J313 (x3 : Int32) (I9 : nm_I) (k : Int32 → nm_I → Option (nm_I)) : Option (nm_I) :=
k (x3 + 1) I9
def f_X12_makes_J190 (x3 : Int32) (t190_2 : Int32) (t190_1 : Int32) (I4 : nm_I) (k : Int32 → nm_I → Option (nm_I)) : Option (nm_I) :=
nm_c t190_1 65536 (
nm_l (nm_up I4 20 t190_1.toNatClampNeg (vp_nar .boolean t190_2)) fun I12 =>
f_X12_makes_J313 x3 I12 k)
def f_X12_makes_J189 (x3 : Int32) (t189_1 : Int32) (I4 : nm_I) (k : Int32 → nm_I → Option (nm_I)) : Option (nm_I) :=
f_X12_makes_J190 x3 (0 : Int32) t189_1 I4 k
def f_X12_makes_J216 (x3 : Int32) (t216_2 : Int32) (t216_1 : Int32) (I4 : nm_I) (k : Int32 → nm_I → Option (nm_I)) : Option (nm_I) :=
nm_c t216_1 65536 (
nm_l (nm_up I4 20 t216_1.toNatClampNeg (vp_nar .boolean t216_2)) fun I17 =>
f_X12_makes_J313 x3 I17 k)
def f_X12_makes_J211 (x3 : Int32) (t211_1 : Int32) (I4 : nm_I) (k : Int32 → nm_I → Option (nm_I)) : Option (nm_I) :=
f_X12_makes_J216 x3 (1 : Int32) t211_1 I4 k
def f_X12_makes_J242 (x3 : Int32) (t242_2 : Int32) (t242_1 : Int32) (I4 : nm_I) (k : Int32 → nm_I → Option (nm_I)) : Option (nm_I) :=
nm_c t242_1 65536 (
nm_l (nm_up I4 20 t242_1.toNatClampNeg (vp_nar .boolean t242_2)) fun I22 =>
f_X12_makes_J313 x3 I22 k)
def f_X12_makes_J241 (x3 : Int32) (t241_1 : Int32) (I4 : nm_I) (k : Int32 → nm_I → Option (nm_I)) : Option (nm_I) :=
f_X12_makes_J242 x3 (0 : Int32) t241_1 I4 k
def f_X12_makes_J125 (x1 : Int32) (v1 : Int32) (x3 : Int32) (t79_0 : Int32) (t125_0 : Int32) (I4 : nm_I) (k : Int32 → nm_I → Option (nm_I)) : Option (nm_I) :=
nm_c x1 16 (
(if (I4 9 x1.toNatClampNeg) = (0 : Int32) then
(if t79_0 = 0 then
f_X12_makes_J189 x3 (v1 + x3) I4 k
else
(if t125_0 = 0 then
f_X12_makes_J189 x3 (v1 + x3) I4 k
else
f_X12_makes_J190 x3 (1 : Int32) (v1 + x3) I4 k))
else
if (I4 9 x1.toNatClampNeg) = (1 : Int32) then
(if t79_0 = 0 then
(if t125_0 = 0 then
f_X12_makes_J216 x3 (0 : Int32) (v1 + x3) I4 k
else
f_X12_makes_J211 x3 (v1 + x3) I4 k)
else
f_X12_makes_J211 x3 (v1 + x3) I4 k)
else
if (I4 9 x1.toNatClampNeg) = (2 : Int32) then
(if t79_0 = 0 then
f_X12_makes_J241 x3 (v1 + x3) I4 k
else
(if t125_0 = 0 then
f_X12_makes_J242 x3 (1 : Int32) (v1 + x3) I4 k
else
f_X12_makes_J241 x3 (v1 + x3) I4 k))
else
if (I4 9 x1.toNatClampNeg) = (3 : Int32) then
nm_c x1 16 (
nm_c x1 16 (
nm_s1 (f_X12_around (I4 10 x1.toNatClampNeg) x3 (I4 11 x1.toNatClampNeg) (0 : Int32) I4) fun r28 =>
nm_c (v1 + x3) 65536 (
nm_l (nm_up I4 20 ((v1 + x3).toNatClampNeg) (vp_nar .boolean r28)) fun I31 =>
f_X12_makes_J313 x3 I31 k)))
else
if (I4 9 x1.toNatClampNeg) = (4 : Int32) then
nm_c x1 16 (
nm_c x1 16 (
nm_s1 (f_X12_around (I4 10 x1.toNatClampNeg) x3 (I4 11 x1.toNatClampNeg) (1 : Int32) I4) fun r35 =>
nm_c (v1 + x3) 65536 (
nm_l (nm_up I4 20 ((v1 + x3).toNatClampNeg) (vp_nar .boolean r35)) fun I38 =>
f_X12_makes_J313 x3 I38 k)))
else
nm_c (v1 + x3) 65536 (
nm_l (nm_up I4 20 ((v1 + x3).toNatClampNeg) (vp_nar .boolean (0 : Int32))) fun I40 =>
f_X12_makes_J313 x3 I40 k)))
def f_X12_makes_J124 (x1 : Int32) (v1 : Int32) (x3 : Int32) (t79_0 : Int32) (I4 : nm_I) (k : Int32 → nm_I → Option (nm_I)) : Option (nm_I) :=
f_X12_makes_J125 x1 v1 x3 t79_0 (0 : Int32) I4 k
def f_X12_makes_J79 (x1 : Int32) (v1 : Int32) (x3 : Int32) (t79_0 : Int32) (I4 : nm_I) (k : Int32 → nm_I → Option (nm_I)) : Option (nm_I) :=
nm_c x1 16 (
(if (I4 9 x1.toNatClampNeg) < 0 then
f_X12_makes_J124 x1 v1 x3 t79_0 I4 k
else
nm_c x1 16 (
(if (3 : Int32) ≤ (I4 9 x1.toNatClampNeg) then
f_X12_makes_J124 x1 v1 x3 t79_0 I4 k
else
nm_c x1 16 (
nm_c (((4096 : Int32) * (I4 11 x1.toNatClampNeg)) + x3) 65536 (
(if (I4 20 (((4096 : Int32) * (I4 11 x1.toNatClampNeg)) + x3).toNatClampNeg) = 0 then
f_X12_makes_J124 x1 v1 x3 t79_0 I4 k
else
f_X12_makes_J125 x1 v1 x3 t79_0 (1 : Int32) I4 k)))))))
def f_X12_makes_J78 (x1 : Int32) (v1 : Int32) (x3 : Int32) (I4 : nm_I) (k : Int32 → nm_I → Option (nm_I)) : Option (nm_I) :=
f_X12_makes_J79 x1 v1 x3 (0 : Int32) I4 k
def f_X12_makes_L38 (x1 : Int32) (v1 : Int32) : Nat → Int32 → nm_I → Option (nm_I)
  | 0, _, _ => none
  | n38 + 1, x3, I4 =>
    (if (4096 : Int32) ≤ x3 then
    some I4
    else
    nm_c x1 16 (
    (if (I4 9 x1.toNatClampNeg) < 0 then
    f_X12_makes_J78 x1 v1 x3 I4 (f_X12_makes_L38 x1 v1 n38)
    else
    nm_c x1 16 (
    nm_c (((4096 : Int32) * (I4 10 x1.toNatClampNeg)) + x3) 65536 (
    (if (I4 20 (((4096 : Int32) * (I4 10 x1.toNatClampNeg)) + x3).toNatClampNeg) = 0 then
    f_X12_makes_J78 x1 v1 x3 I4 (f_X12_makes_L38 x1 v1 n38)
    else
    f_X12_makes_J79 x1 v1 x3 (1 : Int32) I4 (f_X12_makes_L38 x1 v1 n38)))))))
def f_X12_makes_J36 (x1 : Int32) (v1 : Int32) (I3 : nm_I) : Option (nm_I) :=
nm_s1 (f_X12_makes_L38 x1 v1 nm_F (0 : Int32) I3) fun I51 =>
nm_c x1 16 (
(if (I51 9 x1.toNatClampNeg) = (5 : Int32) then
nm_s1 (f_X12_touches x1 I51) fun I54 =>
some I54
else
some I51))
def f_X12_makes (x1 : Int32) (I : nm_I) : Option (nm_I) :=
nm_l ((4096 : Int32) * x1) fun v1 =>
nm_c x1 16 (
(if (I 9 x1.toNatClampNeg) = (5 : Int32) then
nm_c x1 16 (
nm_c x1 16 (
nm_s1 (f_X12_findPieces ((4096 : Int32) * (I 10 x1.toNatClampNeg)) (I 10 x1.toNatClampNeg) I) fun I60 =>
f_X12_makes_J36 x1 v1 I60))
else
f_X12_makes_J36 x1 v1 I))
set_option maxHeartbeats 4000000 in
set_option maxRecDepth 100000 in
theorem k_X12_makes {l : Launch} {D : va_G} {Y : nm_Y} {s0 : Nat} {X : va_W} {ad : Nat → Nat}  {x1 : Int32} {I : nm_I} {M0 : nm_I} (hf : f_X12_makes x1 I = some M0) :
    nm_Met l yX12_makes cX12_makes 6 none { frames := 2, cells := 0, slots := 0, locals := 52 } [.ref (ad 0), .int x1] D Y s0 (nm_W Y X moN ad (I, nJ0, moZ)) (nm_Qv D s0 (nm_W Y X moN ad (M0, nJ0, moZ))) 0 0 := by
  refine nm_of (by decide) (Nat.le_of_ble_eq_true rfl) ?_
  intro p e R s m args below meth c Q ls hx hb hr hlocks hml hown hts hs0 hK hZ hRf hRl hRc hRs hQ hP hD hl
  have hH : nm_H D Y (fun q => s0 ≤ q) s.heap X moN ad (I, nJ0, moZ) s.heap [] := ⟨hP, hD, va_S.rf⟩
  have hl : lv_has ls 6 [(0, .ref (ad 0)), (1, .int x1)] := hl
  unfold f_X12_makes at hf
  refine lv_sipush (v := 4096) hx hb dX12_makes_0 (by decide) ?_
  refine lv_iload_n hx hb dX12_makes_3 rfl (lv_at hl 1 rfl) ?_
  refine lv_imul hx hb dX12_makes_4 ?_
  obtain ⟨v1, ev1, hf⟩ := nm_let hf
  refine nm_topi ev1 ?_
  refine lv_istore_n (lv' := [(2, .int v1), (0, .ref (ad 0)), (1, .int x1)]) hx hb dX12_makes_5 rfl hl (by decide) rfl (fun ls hl => ?_)
  refine lv_aload_n hx hb dX12_makes_6 rfl (lv_at hl 1 rfl) ?_
  refine gf_12_8 hK hx hb hts hown hH mo_n0 mo_k0 (hts _ tw_964) (fun _ h9 => h9) dX12_makes_7 ?_
  refine lv_iload_n hx hb dX12_makes_10 rfl (lv_at hl 2 rfl) ?_
  obtain ⟨hi2, hf⟩ := nm_chk hf
  refine nm_iald hx hb hK hH mo_n9 mo_k9 mo_l9 hi2 dX12_makes_11 ?_
  refine lv_iconst (v := 5) hx hb dX12_makes_12 (by decide) ?_
  have hJ36 : ∀ (I3 : nm_I) (H : Heap) (locs : List Loc) (ls : Array Slot), nm_H D Y (fun q => s0 ≤ q) s.heap X moN ad (I3, nJ0, moZ) H locs → lv_has ls 6 [(0, .ref (ad 0)), (1, .int x1), (2, .int v1)] → f_X12_makes_J36 x1 v1 I3 = some M0 → W p l e R s m args below meth c H locs 0 0 Q (F0 m 36 ls []) := by
    intro I3 H locs ls hH hl hf
    unfold f_X12_makes_J36 at hf
    refine lv_iconst (v := 0) hx hb dX12_makes_36 (by decide) ?_
    refine lv_istore_n (lv' := [(3, .int (0 : Int32)), (0, .ref (ad 0)), (1, .int x1), (2, .int v1)]) hx hb dX12_makes_37 rfl hl (by decide) rfl (fun ls hl => ?_)
    have hL38 : ∀ (n38 : Nat) (x3 : Int32) (I4 : nm_I) (H : Heap) (locs : List Loc) (ls : Array Slot) (o38 : nm_I), nm_H D Y (fun q => s0 ≤ q) s.heap X moN ad (I4, nJ0, moZ) H locs → lv_has ls 6 [(0, .ref (ad 0)), (1, .int x1), (2, .int v1), (3, .int x3)] → f_X12_makes_L38 x1 v1 n38 x3 I4 = some o38 → (∀ (H : Heap) (locs : List Loc) (ls : Array Slot), nm_H D Y (fun q => s0 ≤ q) s.heap X moN ad (o38, nJ0, moZ) H locs → lv_has ls 6 [(0, .ref (ad 0)), (1, .int x1)] → W p l e R s m args below meth c H locs 0 0 Q (F0 m 319 ls [])) → W p l e R s m args below meth c H locs 0 0 Q (F0 m 38 ls []) := by
      intro n38
      induction n38 with
      | zero =>
        intro x3 I4 H locs ls o38 hH hl hf hX38
        cases hf
      | succ n38 ih38 =>
        intro x3 I4 H locs ls o38 hH hl hf hX38
        rw [f_X12_makes_L38] at hf
        refine lv_iload_n hx hb dX12_makes_38 rfl (lv_at hl 3 rfl) ?_
        refine lv_sipush (v := 4096) hx hb dX12_makes_39 (by decide) ?_
        refine lv_icmp_ge (tgt := 319) hx hb dX12_makes_42 (by decide) (fun c5 => ?_) (fun c5 => ?_)
        · have hf := nm_it c5 hf
          cases hf
          exact hX38 _ _ _ hH (lv_sub hl [0, 1] rfl)
        · have hf := nm_ie c5 hf
          refine lv_aload_n hx hb dX12_makes_45 rfl (lv_at hl 0 rfl) ?_
          refine gf_12_8 hK hx hb hts hown hH mo_n0 mo_k0 (hts _ tw_964) (fun _ h9 => h9) dX12_makes_46 ?_
          refine lv_iload_n hx hb dX12_makes_49 rfl (lv_at hl 1 rfl) ?_
          obtain ⟨hi6, hf⟩ := nm_chk hf
          refine nm_iald hx hb hK hH mo_n9 mo_k9 mo_l9 hi6 dX12_makes_50 ?_
          have hJ79 : ∀ (t79_0 : Int32) (H : Heap) (locs : List Loc) (ls : Array Slot), nm_H D Y (fun q => s0 ≤ q) s.heap X moN ad (I4, nJ0, moZ) H locs → lv_has ls 6 [(0, .ref (ad 0)), (1, .int x1), (2, .int v1), (3, .int x3)] → f_X12_makes_J79 x1 v1 x3 t79_0 I4 (f_X12_makes_L38 x1 v1 n38) = some o38 → W p l e R s m args below meth c H locs 0 0 Q (F0 m 79 ls [.int t79_0]) := by
            intro t79_0 H locs ls hH hl hf
            unfold f_X12_makes_J79 at hf
            refine lv_istore (lv' := [(4, .int t79_0), (0, .ref (ad 0)), (1, .int x1), (2, .int v1), (3, .int x3)]) hx hb dX12_makes_79 hl (by decide) rfl (fun ls hl => ?_)
            refine lv_aload_n hx hb dX12_makes_81 rfl (lv_at hl 1 rfl) ?_
            refine gf_12_8 hK hx hb hts hown hH mo_n0 mo_k0 (hts _ tw_964) (fun _ h9 => h9) dX12_makes_82 ?_
            refine lv_iload_n hx hb dX12_makes_85 rfl (lv_at hl 2 rfl) ?_
            obtain ⟨hi7, hf⟩ := nm_chk hf
            refine nm_iald hx hb hK hH mo_n9 mo_k9 mo_l9 hi7 dX12_makes_86 ?_
            have hJ125 : ∀ (t125_0 : Int32) (H : Heap) (locs : List Loc) (ls : Array Slot), nm_H D Y (fun q => s0 ≤ q) s.heap X moN ad (I4, nJ0, moZ) H locs → lv_has ls 6 [(0, .ref (ad 0)), (1, .int x1), (2, .int v1), (3, .int x3), (4, .int t79_0)] → f_X12_makes_J125 x1 v1 x3 t79_0 t125_0 I4 (f_X12_makes_L38 x1 v1 n38) = some o38 → W p l e R s m args below meth c H locs 0 0 Q (F0 m 125 ls [.int t125_0]) := by
              intro t125_0 H locs ls hH hl hf
              unfold f_X12_makes_J125 at hf
              refine lv_istore (lv' := [(5, .int t125_0), (0, .ref (ad 0)), (1, .int x1), (2, .int v1), (3, .int x3), (4, .int t79_0)]) hx hb dX12_makes_125 hl (by decide) rfl (fun ls hl => ?_)
              refine lv_aload_n hx hb dX12_makes_127 rfl (lv_at hl 1 rfl) ?_
              refine gf_12_8 hK hx hb hts hown hH mo_n0 mo_k0 (hts _ tw_964) (fun _ h9 => h9) dX12_makes_128 ?_
              refine lv_iload_n hx hb dX12_makes_131 rfl (lv_at hl 2 rfl) ?_
              obtain ⟨hi8, hf⟩ := nm_chk hf
              refine nm_iald hx hb hK hH mo_n9 mo_k9 mo_l9 hi8 dX12_makes_132 ?_
              have hJ313 : ∀ (I9 : nm_I) (H : Heap) (locs : List Loc) (ls : Array Slot), nm_H D Y (fun q => s0 ≤ q) s.heap X moN ad (I9, nJ0, moZ) H locs → lv_has ls 6 [(0, .ref (ad 0)), (1, .int x1), (2, .int v1), (3, .int x3)] → f_X12_makes_J313 x3 I9 (f_X12_makes_L38 x1 v1 n38) = some o38 → W p l e R s m args below meth c H locs 0 0 Q (F0 m 313 ls []) := by
                intro I9 H locs ls hH hl hf
                unfold f_X12_makes_J313 at hf
                refine lv_iinc (v := x3 + 1) (lv' := [(3, .int (x3 + 1)), (0, .ref (ad 0)), (1, .int x1), (2, .int v1)]) hx hb dX12_makes_313 hl (k := 3) rfl rfl (by decide) rfl (fun ls hl => ?_)
                refine lv_goto (tgt := 38) hx hb dX12_makes_316 (by decide) ?_
                exact ih38 (x3 + 1) I9 _ _ _ _ hH (lv_sub hl [1, 2, 3, 0] rfl) hf hX38
              by_cases c10 : (I4 9 x1.toNatClampNeg) = (0 : Int32)
              · have hf := nm_it c10 hf
                refine nm_tab (off := 35) (tgt := 168) hx hb c10 dX12_makes_133 (by decide) (by decide) (by decide) (by decide) ?_
                refine lv_aload_n hx hb dX12_makes_168 rfl (lv_at hl 1 rfl) ?_
                refine gf_12_19 hK hx hb hts hown hH mo_n0 mo_k0 (hts _ tw_975) (fun _ h9 => h9) dX12_makes_169 ?_
                refine lv_iload_n hx hb dX12_makes_172 rfl (lv_at hl 3 rfl) ?_
                refine lv_iload_n hx hb dX12_makes_173 rfl (lv_at hl 4 rfl) ?_
                refine lv_iadd hx hb dX12_makes_174 ?_
                refine lv_iload hx hb dX12_makes_175 (lv_at hl 5 rfl) ?_
                have hJ190 : ∀ (t190_2 : Int32) (t190_1 : Int32) (H : Heap) (locs : List Loc) (ls : Array Slot), nm_H D Y (fun q => s0 ≤ q) s.heap X moN ad (I4, nJ0, moZ) H locs → lv_has ls 6 [(0, .ref (ad 0)), (1, .int x1), (2, .int v1), (3, .int x3)] → f_X12_makes_J190 x3 t190_2 t190_1 I4 (f_X12_makes_L38 x1 v1 n38) = some o38 → W p l e R s m args below meth c H locs 0 0 Q (F0 m 190 ls [.int t190_2, .int t190_1, .ref (ad 20)]) := by
                  intro t190_2 t190_1 H locs ls hH hl hf
                  unfold f_X12_makes_J190 at hf
                  obtain ⟨hi11, hf⟩ := nm_chk hf
                  obtain ⟨I12, eI12, hf⟩ := nm_let hf
                  refine nm_zast hx hb hK hH mo_n20 mo_k20 mo_l20 hi11 dX12_makes_190 (fun H locs hH => ?_)
                  have hH : nm_H D Y (fun q => s0 ≤ q) s.heap X moN ad (I12, nJ0, moZ) H locs := by rw [eI12]; exact hH
                  refine lv_goto (tgt := 313) hx hb dX12_makes_191 (by decide) ?_
                  exact hJ313  I12 _ _ _ hH (lv_sub hl [0, 1, 2, 3] rfl) hf
                have hJ189 : ∀ (t189_1 : Int32) (H : Heap) (locs : List Loc) (ls : Array Slot), nm_H D Y (fun q => s0 ≤ q) s.heap X moN ad (I4, nJ0, moZ) H locs → lv_has ls 6 [(0, .ref (ad 0)), (1, .int x1), (2, .int v1), (3, .int x3)] → f_X12_makes_J189 x3 t189_1 I4 (f_X12_makes_L38 x1 v1 n38) = some o38 → W p l e R s m args below meth c H locs 0 0 Q (F0 m 189 ls [.int t189_1, .ref (ad 20)]) := by
                  intro t189_1 H locs ls hH hl hf
                  unfold f_X12_makes_J189 at hf
                  refine lv_iconst (v := 0) hx hb dX12_makes_189 (by decide) ?_
                  exact hJ190 (0 : Int32) t189_1 _ _ _ hH (lv_sub hl [0, 1, 2, 3] rfl) hf
                refine lv_if_eq (tgt := 189) hx hb dX12_makes_177 (by decide) (fun c13 => ?_) (fun c13 => ?_)
                · have hf := nm_it c13 hf
                  exact hJ189 (v1 + x3) _ _ _ hH (lv_sub hl [1, 2, 3, 4] rfl) hf
                · have hf := nm_ie c13 hf
                  refine lv_iload hx hb dX12_makes_180 (lv_at hl 0 rfl) ?_
                  refine lv_if_eq (tgt := 189) hx hb dX12_makes_182 (by decide) (fun c14 => ?_) (fun c14 => ?_)
                  · have hf := nm_it c14 hf
                    exact hJ189 (v1 + x3) _ _ _ hH (lv_sub hl [1, 2, 3, 4] rfl) hf
                  · have hf := nm_ie c14 hf
                    refine lv_iconst (v := 1) hx hb dX12_makes_185 (by decide) ?_
                    refine lv_goto (tgt := 190) hx hb dX12_makes_186 (by decide) ?_
                    exact hJ190 (1 : Int32) (v1 + x3) _ _ _ hH (lv_sub hl [1, 2, 3, 4] rfl) hf
              have hf := nm_ie c10 hf
              by_cases c15 : (I4 9 x1.toNatClampNeg) = (1 : Int32)
              · have hf := nm_it c15 hf
                refine nm_tab (off := 61) (tgt := 194) hx hb c15 dX12_makes_133 (by decide) (by decide) (by decide) (by decide) ?_
                refine lv_aload_n hx hb dX12_makes_194 rfl (lv_at hl 1 rfl) ?_
                refine gf_12_19 hK hx hb hts hown hH mo_n0 mo_k0 (hts _ tw_975) (fun _ h9 => h9) dX12_makes_195 ?_
                refine lv_iload_n hx hb dX12_makes_198 rfl (lv_at hl 3 rfl) ?_
                refine lv_iload_n hx hb dX12_makes_199 rfl (lv_at hl 4 rfl) ?_
                refine lv_iadd hx hb dX12_makes_200 ?_
                refine lv_iload hx hb dX12_makes_201 (lv_at hl 5 rfl) ?_
                have hJ216 : ∀ (t216_2 : Int32) (t216_1 : Int32) (H : Heap) (locs : List Loc) (ls : Array Slot), nm_H D Y (fun q => s0 ≤ q) s.heap X moN ad (I4, nJ0, moZ) H locs → lv_has ls 6 [(0, .ref (ad 0)), (1, .int x1), (2, .int v1), (3, .int x3)] → f_X12_makes_J216 x3 t216_2 t216_1 I4 (f_X12_makes_L38 x1 v1 n38) = some o38 → W p l e R s m args below meth c H locs 0 0 Q (F0 m 216 ls [.int t216_2, .int t216_1, .ref (ad 20)]) := by
                  intro t216_2 t216_1 H locs ls hH hl hf
                  unfold f_X12_makes_J216 at hf
                  obtain ⟨hi16, hf⟩ := nm_chk hf
                  obtain ⟨I17, eI17, hf⟩ := nm_let hf
                  refine nm_zast hx hb hK hH mo_n20 mo_k20 mo_l20 hi16 dX12_makes_216 (fun H locs hH => ?_)
                  have hH : nm_H D Y (fun q => s0 ≤ q) s.heap X moN ad (I17, nJ0, moZ) H locs := by rw [eI17]; exact hH
                  refine lv_goto (tgt := 313) hx hb dX12_makes_217 (by decide) ?_
                  exact hJ313  I17 _ _ _ hH (lv_sub hl [0, 1, 2, 3] rfl) hf
                have hJ211 : ∀ (t211_1 : Int32) (H : Heap) (locs : List Loc) (ls : Array Slot), nm_H D Y (fun q => s0 ≤ q) s.heap X moN ad (I4, nJ0, moZ) H locs → lv_has ls 6 [(0, .ref (ad 0)), (1, .int x1), (2, .int v1), (3, .int x3)] → f_X12_makes_J211 x3 t211_1 I4 (f_X12_makes_L38 x1 v1 n38) = some o38 → W p l e R s m args below meth c H locs 0 0 Q (F0 m 211 ls [.int t211_1, .ref (ad 20)]) := by
                  intro t211_1 H locs ls hH hl hf
                  unfold f_X12_makes_J211 at hf
                  refine lv_iconst (v := 1) hx hb dX12_makes_211 (by decide) ?_
                  refine lv_goto (tgt := 216) hx hb dX12_makes_212 (by decide) ?_
                  exact hJ216 (1 : Int32) t211_1 _ _ _ hH (lv_sub hl [0, 1, 2, 3] rfl) hf
                refine lv_if_ne (tgt := 211) hx hb dX12_makes_203 (by decide) (fun c18 => ?_) (fun c18 => ?_)
                · have hf := nm_ie c18 hf
                  exact hJ211 (v1 + x3) _ _ _ hH (lv_sub hl [1, 2, 3, 4] rfl) hf
                · have hf := nm_it c18 hf
                  refine lv_iload hx hb dX12_makes_206 (lv_at hl 0 rfl) ?_
                  refine lv_if_eq (tgt := 215) hx hb dX12_makes_208 (by decide) (fun c19 => ?_) (fun c19 => ?_)
                  · have hf := nm_it c19 hf
                    refine lv_iconst (v := 0) hx hb dX12_makes_215 (by decide) ?_
                    exact hJ216 (0 : Int32) (v1 + x3) _ _ _ hH (lv_sub hl [1, 2, 3, 4] rfl) hf
                  · have hf := nm_ie c19 hf
                    exact hJ211 (v1 + x3) _ _ _ hH (lv_sub hl [1, 2, 3, 4] rfl) hf
              have hf := nm_ie c15 hf
              by_cases c20 : (I4 9 x1.toNatClampNeg) = (2 : Int32)
              · have hf := nm_it c20 hf
                refine nm_tab (off := 87) (tgt := 220) hx hb c20 dX12_makes_133 (by decide) (by decide) (by decide) (by decide) ?_
                refine lv_aload_n hx hb dX12_makes_220 rfl (lv_at hl 1 rfl) ?_
                refine gf_12_19 hK hx hb hts hown hH mo_n0 mo_k0 (hts _ tw_975) (fun _ h9 => h9) dX12_makes_221 ?_
                refine lv_iload_n hx hb dX12_makes_224 rfl (lv_at hl 3 rfl) ?_
                refine lv_iload_n hx hb dX12_makes_225 rfl (lv_at hl 4 rfl) ?_
                refine lv_iadd hx hb dX12_makes_226 ?_
                refine lv_iload hx hb dX12_makes_227 (lv_at hl 5 rfl) ?_
                have hJ242 : ∀ (t242_2 : Int32) (t242_1 : Int32) (H : Heap) (locs : List Loc) (ls : Array Slot), nm_H D Y (fun q => s0 ≤ q) s.heap X moN ad (I4, nJ0, moZ) H locs → lv_has ls 6 [(0, .ref (ad 0)), (1, .int x1), (2, .int v1), (3, .int x3)] → f_X12_makes_J242 x3 t242_2 t242_1 I4 (f_X12_makes_L38 x1 v1 n38) = some o38 → W p l e R s m args below meth c H locs 0 0 Q (F0 m 242 ls [.int t242_2, .int t242_1, .ref (ad 20)]) := by
                  intro t242_2 t242_1 H locs ls hH hl hf
                  unfold f_X12_makes_J242 at hf
                  obtain ⟨hi21, hf⟩ := nm_chk hf
                  obtain ⟨I22, eI22, hf⟩ := nm_let hf
                  refine nm_zast hx hb hK hH mo_n20 mo_k20 mo_l20 hi21 dX12_makes_242 (fun H locs hH => ?_)
                  have hH : nm_H D Y (fun q => s0 ≤ q) s.heap X moN ad (I22, nJ0, moZ) H locs := by rw [eI22]; exact hH
                  refine lv_goto (tgt := 313) hx hb dX12_makes_243 (by decide) ?_
                  exact hJ313  I22 _ _ _ hH (lv_sub hl [0, 1, 2, 3] rfl) hf
                have hJ241 : ∀ (t241_1 : Int32) (H : Heap) (locs : List Loc) (ls : Array Slot), nm_H D Y (fun q => s0 ≤ q) s.heap X moN ad (I4, nJ0, moZ) H locs → lv_has ls 6 [(0, .ref (ad 0)), (1, .int x1), (2, .int v1), (3, .int x3)] → f_X12_makes_J241 x3 t241_1 I4 (f_X12_makes_L38 x1 v1 n38) = some o38 → W p l e R s m args below meth c H locs 0 0 Q (F0 m 241 ls [.int t241_1, .ref (ad 20)]) := by
                  intro t241_1 H locs ls hH hl hf
                  unfold f_X12_makes_J241 at hf
                  refine lv_iconst (v := 0) hx hb dX12_makes_241 (by decide) ?_
                  exact hJ242 (0 : Int32) t241_1 _ _ _ hH (lv_sub hl [0, 1, 2, 3] rfl) hf
                refine lv_if_eq (tgt := 241) hx hb dX12_makes_229 (by decide) (fun c23 => ?_) (fun c23 => ?_)
                · have hf := nm_it c23 hf
                  exact hJ241 (v1 + x3) _ _ _ hH (lv_sub hl [1, 2, 3, 4] rfl) hf
                · have hf := nm_ie c23 hf
                  refine lv_iload hx hb dX12_makes_232 (lv_at hl 0 rfl) ?_
                  refine lv_if_ne (tgt := 241) hx hb dX12_makes_234 (by decide) (fun c24 => ?_) (fun c24 => ?_)
                  · have hf := nm_ie c24 hf
                    exact hJ241 (v1 + x3) _ _ _ hH (lv_sub hl [1, 2, 3, 4] rfl) hf
                  · have hf := nm_it c24 hf
                    refine lv_iconst (v := 1) hx hb dX12_makes_237 (by decide) ?_
                    refine lv_goto (tgt := 242) hx hb dX12_makes_238 (by decide) ?_
                    exact hJ242 (1 : Int32) (v1 + x3) _ _ _ hH (lv_sub hl [1, 2, 3, 4] rfl) hf
              have hf := nm_ie c20 hf
              by_cases c25 : (I4 9 x1.toNatClampNeg) = (3 : Int32)
              · have hf := nm_it c25 hf
                refine nm_tab (off := 113) (tgt := 246) hx hb c25 dX12_makes_133 (by decide) (by decide) (by decide) (by decide) ?_
                refine lv_aload_n hx hb dX12_makes_246 rfl (lv_at hl 1 rfl) ?_
                refine gf_12_19 hK hx hb hts hown hH mo_n0 mo_k0 (hts _ tw_975) (fun _ h9 => h9) dX12_makes_247 ?_
                refine lv_iload_n hx hb dX12_makes_250 rfl (lv_at hl 3 rfl) ?_
                refine lv_iload_n hx hb dX12_makes_251 rfl (lv_at hl 4 rfl) ?_
                refine lv_iadd hx hb dX12_makes_252 ?_
                refine lv_aload_n hx hb dX12_makes_253 rfl (lv_at hl 1 rfl) ?_
                refine lv_aload_n hx hb dX12_makes_254 rfl (lv_at hl 1 rfl) ?_
                refine gf_12_9 hK hx hb hts hown hH mo_n0 mo_k0 (hts _ tw_965) (fun _ h9 => h9) dX12_makes_255 ?_
                refine lv_iload_n hx hb dX12_makes_258 rfl (lv_at hl 2 rfl) ?_
                obtain ⟨hi26, hf⟩ := nm_chk hf
                refine nm_iald hx hb hK hH mo_n10 mo_k10 mo_l10 hi26 dX12_makes_259 ?_
                refine lv_iload_n hx hb dX12_makes_260 rfl (lv_at hl 4 rfl) ?_
                refine lv_aload_n hx hb dX12_makes_261 rfl (lv_at hl 1 rfl) ?_
                refine gf_12_10 hK hx hb hts hown hH mo_n0 mo_k0 (hts _ tw_966) (fun _ h9 => h9) dX12_makes_262 ?_
                refine lv_iload_n hx hb dX12_makes_265 rfl (lv_at hl 2 rfl) ?_
                obtain ⟨hi27, hf⟩ := nm_chk hf
                refine nm_iald hx hb hK hH mo_n11 mo_k11 mo_l11 hi27 dX12_makes_266 ?_
                refine lv_iconst (v := 0) hx hb dX12_makes_267 (by decide) ?_
                obtain ⟨r28, hc29, hf⟩ := nm_sd1 hf
                refine nm_calli (nm_runV (X := X) (nl := moN) (k_X12_around (hf := hc29)) hx hb hml hown hts hs0 hK hZ hH tw_1326 tw_1323 tw_1325 (sw_X12_around) tw_9 hd_X12_around mo_n0 mo_k0 (by decide) rfl rfl rfl ⟨Nat.le_trans (Nat.le_of_ble_eq_true rfl) hRf, Nat.le_trans (Nat.le_of_ble_eq_true rfl) hRl⟩ rfl hl.1 rfl (Nat.le_of_ble_eq_true rfl) dX12_makes_268 ⟨Nat.zero_le _, Nat.zero_le _⟩) hH (fun H locs hH => ?_)
                have hH : nm_H D Y (fun q => s0 ≤ q) s.heap X moN ad (I4, nJ0, moZ) H locs := hH
                obtain ⟨hi30, hf⟩ := nm_chk hf
                obtain ⟨I31, eI31, hf⟩ := nm_let hf
                refine nm_zast hx hb hK hH mo_n20 mo_k20 mo_l20 hi30 dX12_makes_271 (fun H locs hH => ?_)
                have hH : nm_H D Y (fun q => s0 ≤ q) s.heap X moN ad (I31, nJ0, moZ) H locs := by rw [eI31]; exact hH
                refine lv_goto (tgt := 313) hx hb dX12_makes_272 (by decide) ?_
                exact hJ313  I31 _ _ _ hH (lv_sub hl [1, 2, 3, 4] rfl) hf
              have hf := nm_ie c25 hf
              by_cases c32 : (I4 9 x1.toNatClampNeg) = (4 : Int32)
              · have hf := nm_it c32 hf
                refine nm_tab (off := 142) (tgt := 275) hx hb c32 dX12_makes_133 (by decide) (by decide) (by decide) (by decide) ?_
                refine lv_aload_n hx hb dX12_makes_275 rfl (lv_at hl 1 rfl) ?_
                refine gf_12_19 hK hx hb hts hown hH mo_n0 mo_k0 (hts _ tw_975) (fun _ h9 => h9) dX12_makes_276 ?_
                refine lv_iload_n hx hb dX12_makes_279 rfl (lv_at hl 3 rfl) ?_
                refine lv_iload_n hx hb dX12_makes_280 rfl (lv_at hl 4 rfl) ?_
                refine lv_iadd hx hb dX12_makes_281 ?_
                refine lv_aload_n hx hb dX12_makes_282 rfl (lv_at hl 1 rfl) ?_
                refine lv_aload_n hx hb dX12_makes_283 rfl (lv_at hl 1 rfl) ?_
                refine gf_12_9 hK hx hb hts hown hH mo_n0 mo_k0 (hts _ tw_965) (fun _ h9 => h9) dX12_makes_284 ?_
                refine lv_iload_n hx hb dX12_makes_287 rfl (lv_at hl 2 rfl) ?_
                obtain ⟨hi33, hf⟩ := nm_chk hf
                refine nm_iald hx hb hK hH mo_n10 mo_k10 mo_l10 hi33 dX12_makes_288 ?_
                refine lv_iload_n hx hb dX12_makes_289 rfl (lv_at hl 4 rfl) ?_
                refine lv_aload_n hx hb dX12_makes_290 rfl (lv_at hl 1 rfl) ?_
                refine gf_12_10 hK hx hb hts hown hH mo_n0 mo_k0 (hts _ tw_966) (fun _ h9 => h9) dX12_makes_291 ?_
                refine lv_iload_n hx hb dX12_makes_294 rfl (lv_at hl 2 rfl) ?_
                obtain ⟨hi34, hf⟩ := nm_chk hf
                refine nm_iald hx hb hK hH mo_n11 mo_k11 mo_l11 hi34 dX12_makes_295 ?_
                refine lv_iconst (v := 1) hx hb dX12_makes_296 (by decide) ?_
                obtain ⟨r35, hc36, hf⟩ := nm_sd1 hf
                refine nm_calli (nm_runV (X := X) (nl := moN) (k_X12_around (hf := hc36)) hx hb hml hown hts hs0 hK hZ hH tw_1326 tw_1323 tw_1325 (sw_X12_around) tw_9 hd_X12_around mo_n0 mo_k0 (by decide) rfl rfl rfl ⟨Nat.le_trans (Nat.le_of_ble_eq_true rfl) hRf, Nat.le_trans (Nat.le_of_ble_eq_true rfl) hRl⟩ rfl hl.1 rfl (Nat.le_of_ble_eq_true rfl) dX12_makes_297 ⟨Nat.zero_le _, Nat.zero_le _⟩) hH (fun H locs hH => ?_)
                have hH : nm_H D Y (fun q => s0 ≤ q) s.heap X moN ad (I4, nJ0, moZ) H locs := hH
                obtain ⟨hi37, hf⟩ := nm_chk hf
                obtain ⟨I38, eI38, hf⟩ := nm_let hf
                refine nm_zast hx hb hK hH mo_n20 mo_k20 mo_l20 hi37 dX12_makes_300 (fun H locs hH => ?_)
                have hH : nm_H D Y (fun q => s0 ≤ q) s.heap X moN ad (I38, nJ0, moZ) H locs := by rw [eI38]; exact hH
                refine lv_goto (tgt := 313) hx hb dX12_makes_301 (by decide) ?_
                exact hJ313  I38 _ _ _ hH (lv_sub hl [1, 2, 3, 4] rfl) hf
              have hf := nm_ie c32 hf
              refine lv_tableOut (tgt := 304) hx hb dX12_makes_133 (nm_sw (I4 9 x1.toNatClampNeg) (fun k h1 h2 hk => by
                rcases (show k = 0 ∨ k = 1 ∨ k = 2 ∨ k = 3 ∨ k = 4 by omega) with rfl | rfl | rfl | rfl | rfl <;> first | exact c10 hk | exact c15 hk | exact c20 hk | exact c25 hk | exact c32 hk)) (by decide) ?_
              refine lv_aload_n hx hb dX12_makes_304 rfl (lv_at hl 1 rfl) ?_
              refine gf_12_19 hK hx hb hts hown hH mo_n0 mo_k0 (hts _ tw_975) (fun _ h9 => h9) dX12_makes_305 ?_
              refine lv_iload_n hx hb dX12_makes_308 rfl (lv_at hl 3 rfl) ?_
              refine lv_iload_n hx hb dX12_makes_309 rfl (lv_at hl 4 rfl) ?_
              refine lv_iadd hx hb dX12_makes_310 ?_
              refine lv_iconst (v := 0) hx hb dX12_makes_311 (by decide) ?_
              obtain ⟨hi39, hf⟩ := nm_chk hf
              obtain ⟨I40, eI40, hf⟩ := nm_let hf
              refine nm_zast hx hb hK hH mo_n20 mo_k20 mo_l20 hi39 dX12_makes_312 (fun H locs hH => ?_)
              have hH : nm_H D Y (fun q => s0 ≤ q) s.heap X moN ad (I40, nJ0, moZ) H locs := by rw [eI40]; exact hH
              exact hJ313  I40 _ _ _ hH (lv_sub hl [1, 2, 3, 4] rfl) hf
            have hJ124 : ∀  (H : Heap) (locs : List Loc) (ls : Array Slot), nm_H D Y (fun q => s0 ≤ q) s.heap X moN ad (I4, nJ0, moZ) H locs → lv_has ls 6 [(0, .ref (ad 0)), (1, .int x1), (2, .int v1), (3, .int x3), (4, .int t79_0)] → f_X12_makes_J124 x1 v1 x3 t79_0 I4 (f_X12_makes_L38 x1 v1 n38) = some o38 → W p l e R s m args below meth c H locs 0 0 Q (F0 m 124 ls []) := by
              intro  H locs ls hH hl hf
              unfold f_X12_makes_J124 at hf
              refine lv_iconst (v := 0) hx hb dX12_makes_124 (by decide) ?_
              exact hJ125 (0 : Int32) _ _ _ hH (lv_sub hl [0, 1, 2, 3, 4] rfl) hf
            refine lv_if_lt (tgt := 124) hx hb dX12_makes_87 (by decide) (fun c41 => ?_) (fun c41 => ?_)
            · have hf := nm_it c41 hf
              exact hJ124  _ _ _ hH (lv_sub hl [1, 2, 3, 4, 0] rfl) hf
            · have hf := nm_ie c41 hf
              refine lv_aload_n hx hb dX12_makes_90 rfl (lv_at hl 1 rfl) ?_
              refine gf_12_8 hK hx hb hts hown hH mo_n0 mo_k0 (hts _ tw_964) (fun _ h9 => h9) dX12_makes_91 ?_
              refine lv_iload_n hx hb dX12_makes_94 rfl (lv_at hl 2 rfl) ?_
              obtain ⟨hi42, hf⟩ := nm_chk hf
              refine nm_iald hx hb hK hH mo_n9 mo_k9 mo_l9 hi42 dX12_makes_95 ?_
              refine lv_iconst (v := 3) hx hb dX12_makes_96 (by decide) ?_
              refine lv_icmp_ge (tgt := 124) hx hb dX12_makes_97 (by decide) (fun c43 => ?_) (fun c43 => ?_)
              · have hf := nm_it c43 hf
                exact hJ124  _ _ _ hH (lv_sub hl [1, 2, 3, 4, 0] rfl) hf
              · have hf := nm_ie c43 hf
                refine lv_aload_n hx hb dX12_makes_100 rfl (lv_at hl 1 rfl) ?_
                refine gf_12_19 hK hx hb hts hown hH mo_n0 mo_k0 (hts _ tw_975) (fun _ h9 => h9) dX12_makes_101 ?_
                refine lv_sipush (v := 4096) hx hb dX12_makes_104 (by decide) ?_
                refine lv_aload_n hx hb dX12_makes_107 rfl (lv_at hl 1 rfl) ?_
                refine gf_12_10 hK hx hb hts hown hH mo_n0 mo_k0 (hts _ tw_966) (fun _ h9 => h9) dX12_makes_108 ?_
                refine lv_iload_n hx hb dX12_makes_111 rfl (lv_at hl 2 rfl) ?_
                obtain ⟨hi44, hf⟩ := nm_chk hf
                refine nm_iald hx hb hK hH mo_n11 mo_k11 mo_l11 hi44 dX12_makes_112 ?_
                refine lv_imul hx hb dX12_makes_113 ?_
                refine lv_iload_n hx hb dX12_makes_114 rfl (lv_at hl 4 rfl) ?_
                refine lv_iadd hx hb dX12_makes_115 ?_
                obtain ⟨hi45, hf⟩ := nm_chk hf
                refine nm_zald hx hb hK hH mo_n20 mo_k20 mo_l20 hi45 dX12_makes_116 ?_
                refine lv_if_eq (tgt := 124) hx hb dX12_makes_117 (by decide) (fun c46 => ?_) (fun c46 => ?_)
                · have hf := nm_it c46 hf
                  exact hJ124  _ _ _ hH (lv_sub hl [1, 2, 3, 4, 0] rfl) hf
                · have hf := nm_ie c46 hf
                  refine lv_iconst (v := 1) hx hb dX12_makes_120 (by decide) ?_
                  refine lv_goto (tgt := 125) hx hb dX12_makes_121 (by decide) ?_
                  exact hJ125 (1 : Int32) _ _ _ hH (lv_sub hl [1, 2, 3, 4, 0] rfl) hf
          have hJ78 : ∀  (H : Heap) (locs : List Loc) (ls : Array Slot), nm_H D Y (fun q => s0 ≤ q) s.heap X moN ad (I4, nJ0, moZ) H locs → lv_has ls 6 [(0, .ref (ad 0)), (1, .int x1), (2, .int v1), (3, .int x3)] → f_X12_makes_J78 x1 v1 x3 I4 (f_X12_makes_L38 x1 v1 n38) = some o38 → W p l e R s m args below meth c H locs 0 0 Q (F0 m 78 ls []) := by
            intro  H locs ls hH hl hf
            unfold f_X12_makes_J78 at hf
            refine lv_iconst (v := 0) hx hb dX12_makes_78 (by decide) ?_
            exact hJ79 (0 : Int32) _ _ _ hH (lv_sub hl [0, 1, 2, 3] rfl) hf
          refine lv_if_lt (tgt := 78) hx hb dX12_makes_51 (by decide) (fun c47 => ?_) (fun c47 => ?_)
          · have hf := nm_it c47 hf
            exact hJ78  _ _ _ hH (lv_sub hl [0, 1, 2, 3] rfl) hf
          · have hf := nm_ie c47 hf
            refine lv_aload_n hx hb dX12_makes_54 rfl (lv_at hl 0 rfl) ?_
            refine gf_12_19 hK hx hb hts hown hH mo_n0 mo_k0 (hts _ tw_975) (fun _ h9 => h9) dX12_makes_55 ?_
            refine lv_sipush (v := 4096) hx hb dX12_makes_58 (by decide) ?_
            refine lv_aload_n hx hb dX12_makes_61 rfl (lv_at hl 0 rfl) ?_
            refine gf_12_9 hK hx hb hts hown hH mo_n0 mo_k0 (hts _ tw_965) (fun _ h9 => h9) dX12_makes_62 ?_
            refine lv_iload_n hx hb dX12_makes_65 rfl (lv_at hl 1 rfl) ?_
            obtain ⟨hi48, hf⟩ := nm_chk hf
            refine nm_iald hx hb hK hH mo_n10 mo_k10 mo_l10 hi48 dX12_makes_66 ?_
            refine lv_imul hx hb dX12_makes_67 ?_
            refine lv_iload_n hx hb dX12_makes_68 rfl (lv_at hl 3 rfl) ?_
            refine lv_iadd hx hb dX12_makes_69 ?_
            obtain ⟨hi49, hf⟩ := nm_chk hf
            refine nm_zald hx hb hK hH mo_n20 mo_k20 mo_l20 hi49 dX12_makes_70 ?_
            refine lv_if_eq (tgt := 78) hx hb dX12_makes_71 (by decide) (fun c50 => ?_) (fun c50 => ?_)
            · have hf := nm_it c50 hf
              exact hJ78  _ _ _ hH (lv_sub hl [0, 1, 2, 3] rfl) hf
            · have hf := nm_ie c50 hf
              refine lv_iconst (v := 1) hx hb dX12_makes_74 (by decide) ?_
              refine lv_goto (tgt := 79) hx hb dX12_makes_75 (by decide) ?_
              exact hJ79 (1 : Int32) _ _ _ hH (lv_sub hl [0, 1, 2, 3] rfl) hf
    obtain ⟨I51, hl56, hf⟩ := nm_sd1 hf
    refine hL38 nm_F (0 : Int32) I3 _ _ _ _ hH (lv_sub hl [1, 2, 3, 0] rfl) hl56 (fun H locs ls hH hl => ?_)
    have hl : lv_has ls 6 [(0, .ref (ad 0)), (1, .int x1)] := hl
    have hH : nm_H D Y (fun q => s0 ≤ q) s.heap X moN ad (I51, nJ0, moZ) H locs := hH
    refine lv_aload_n hx hb dX12_makes_319 rfl (lv_at hl 0 rfl) ?_
    refine gf_12_8 hK hx hb hts hown hH mo_n0 mo_k0 (hts _ tw_964) (fun _ h9 => h9) dX12_makes_320 ?_
    refine lv_iload_n hx hb dX12_makes_323 rfl (lv_at hl 1 rfl) ?_
    obtain ⟨hi52, hf⟩ := nm_chk hf
    refine nm_iald hx hb hK hH mo_n9 mo_k9 mo_l9 hi52 dX12_makes_324 ?_
    refine lv_iconst (v := 5) hx hb dX12_makes_325 (by decide) ?_
    refine lv_icmp_ne (tgt := 334) hx hb dX12_makes_326 (by decide) (fun c53 => ?_) (fun c53 => ?_)
    · have hf := nm_ie c53 hf
      exact nm_vret hx hb hr hlocks hQ hH (congrArg (fun q => (q, nJ0, moZ)) (Option.some.inj hf)) dX12_makes_334
    · have hf := nm_it c53 hf
      refine lv_aload_n hx hb dX12_makes_329 rfl (lv_at hl 0 rfl) ?_
      refine lv_iload_n hx hb dX12_makes_330 rfl (lv_at hl 1 rfl) ?_
      obtain ⟨I54, hc55, hf⟩ := nm_sd1 hf
      refine nm_callv (nm_runV (X := X) (nl := moN) (k_X12_touches (hf := hc55)) hx hb hml hown hts hs0 hK hZ hH tw_1330 tw_1327 tw_1329 (sw_X12_touches) tw_9 hd_X12_touches mo_n0 mo_k0 (by decide) rfl rfl rfl ⟨Nat.le_trans (Nat.le_of_ble_eq_true rfl) hRf, Nat.le_trans (Nat.le_of_ble_eq_true rfl) hRl⟩ rfl hl.1 rfl (Nat.le_of_ble_eq_true rfl) dX12_makes_331 ⟨Nat.zero_le _, Nat.zero_le _⟩) hH (fun H locs hH => ?_)
      have hH : nm_H D Y (fun q => s0 ≤ q) s.heap X moN ad (I54, nJ0, moZ) H locs := hH
      exact nm_vret hx hb hr hlocks hQ hH (congrArg (fun q => (q, nJ0, moZ)) (Option.some.inj hf)) dX12_makes_334
  refine lv_icmp_ne (tgt := 36) hx hb dX12_makes_13 (by decide) (fun c57 => ?_) (fun c57 => ?_)
  · have hf := nm_ie c57 hf
    exact hJ36  I _ _ _ hH (lv_sub hl [1, 2, 0] rfl) hf
  · have hf := nm_it c57 hf
    refine lv_aload_n hx hb dX12_makes_16 rfl (lv_at hl 1 rfl) ?_
    refine lv_sipush (v := 4096) hx hb dX12_makes_17 (by decide) ?_
    refine lv_aload_n hx hb dX12_makes_20 rfl (lv_at hl 1 rfl) ?_
    refine gf_12_9 hK hx hb hts hown hH mo_n0 mo_k0 (hts _ tw_965) (fun _ h9 => h9) dX12_makes_21 ?_
    refine lv_iload_n hx hb dX12_makes_24 rfl (lv_at hl 2 rfl) ?_
    obtain ⟨hi58, hf⟩ := nm_chk hf
    refine nm_iald hx hb hK hH mo_n10 mo_k10 mo_l10 hi58 dX12_makes_25 ?_
    refine lv_imul hx hb dX12_makes_26 ?_
    refine lv_aload_n hx hb dX12_makes_27 rfl (lv_at hl 1 rfl) ?_
    refine gf_12_9 hK hx hb hts hown hH mo_n0 mo_k0 (hts _ tw_965) (fun _ h9 => h9) dX12_makes_28 ?_
    refine lv_iload_n hx hb dX12_makes_31 rfl (lv_at hl 2 rfl) ?_
    obtain ⟨hi59, hf⟩ := nm_chk hf
    refine nm_iald hx hb hK hH mo_n10 mo_k10 mo_l10 hi59 dX12_makes_32 ?_
    obtain ⟨I60, hc61, hf⟩ := nm_sd1 hf
    refine nm_callv (nm_runV (X := X) (nl := moN) (k_X12_findPieces (hf := hc61)) hx hb hml hown hts hs0 hK hZ hH tw_1318 tw_1315 tw_1317 (sw_X12_findPieces) tw_9 hd_X12_findPieces mo_n0 mo_k0 (by decide) rfl rfl rfl ⟨Nat.le_trans (Nat.le_of_ble_eq_true rfl) hRf, Nat.le_trans (Nat.le_of_ble_eq_true rfl) hRl⟩ rfl hl.1 rfl (Nat.le_of_ble_eq_true rfl) dX12_makes_33 ⟨Nat.zero_le _, Nat.zero_le _⟩) hH (fun H locs hH => ?_)
    have hH : nm_H D Y (fun q => s0 ≤ q) s.heap X moN ad (I60, nJ0, moZ) H locs := hH
    exact hJ36  I60 _ _ _ hH (lv_sub hl [1, 2, 0] rfl) hf
def f_X12_flat_L16 (x1 : Int32) : Nat → Int32 → nm_I → Option (nm_I)
  | 0, _, _ => none
  | n16 + 1, x2, I2 =>
    (if x1 < x2 then
    some I2
    else
    nm_s1 (f_X12_lays x2 I2) fun I4 =>
    f_X12_flat_L16 x1 n16 (x2 + 1) I4)
def f_X12_flat_J76 (x3 : Int32) (t76_1 : Int32) (t76_0 : Int32) (I11 : nm_I) (k : Int32 → Int32 → nm_I → Option (Int32 × nm_I)) : Option (Int32 × nm_I) :=
nm_l (t76_0 + t76_1) fun v13 =>
k v13 (x3 + 1) I11
def f_X12_flat_L36 (x1 : Int32) : Nat → Int32 → Int32 → nm_I → Option (Int32 × nm_I)
  | 0, _, _, _ => none
  | n36 + 1, x2, x3, I7 =>
    (if (32768 : Int32) ≤ x3 then
    some (x2, I7)
    else
    nm_c (((32768 : Int32) * x1) + x3) 262144 (
    nm_c x3 65536 (
    nm_l (nm_up I7 20 x3.toNatClampNeg (vp_nar .boolean (I7 13 (((32768 : Int32) * x1) + x3).toNatClampNeg))) fun I11 =>
    nm_c x3 65536 (
    (if (I11 20 x3.toNatClampNeg) = 0 then
    f_X12_flat_J76 x3 (0 : Int32) x2 I11 (f_X12_flat_L36 x1 n36)
    else
    f_X12_flat_J76 x3 (1 : Int32) x2 I11 (f_X12_flat_L36 x1 n36))))))
def f_X12_flat_L87  : Nat → Int32 → nm_I → Option (nm_I)
  | 0, _, _ => none
  | n87 + 1, x3, I17 =>
    (if (16 : Int32) ≤ x3 then
    some I17
    else
    nm_s1 (f_X12_makes x3 I17) fun I19 =>
    f_X12_flat_L87 n87 (x3 + 1) I19)
def f_X12_flat_L116 (x1 : Int32) : Nat → Int32 → nm_I → Option (nm_I)
  | 0, _, _ => none
  | n116 + 1, x3, I24 =>
    (if (I24 0 26) ≤ x3 then
    some I24
    else
    nm_c (((200 : Int32) * x1) + x3) 1600 (
    nm_c x3 200 (
    nm_l (nm_up I24 24 x3.toNatClampNeg (I24 14 (((200 : Int32) * x1) + x3).toNatClampNeg)) fun I28 =>
    nm_c (((200 : Int32) * x1) + x3) 1600 (
    nm_c x3 200 (
    nm_l (nm_up I28 25 x3.toNatClampNeg (I28 15 (((200 : Int32) * x1) + x3).toNatClampNeg)) fun I31 =>
    nm_c (((200 : Int32) * x1) + x3) 1600 (
    nm_c x3 200 (
    nm_l (nm_up I31 26 x3.toNatClampNeg (I31 16 (((200 : Int32) * x1) + x3).toNatClampNeg)) fun I34 =>
    f_X12_flat_L116 x1 n116 (x3 + 1) I34)))))))
def f_X12_flat (x1 : Int32) (I : nm_I) : Option (Int32 × nm_I) :=
(if (f_X12_isCell x1) = 0 then
nm_s2 (f_X12_no (-3 : Int32) I) fun r46 I44 =>
some (r46, I44)
else
nm_s1 (f_X12_flat_L16 x1 nm_F (0 : Int32) I) fun I6 =>
nm_s2 (f_X12_flat_L36 x1 nm_F (0 : Int32) (0 : Int32) I6) fun y15 I16 =>
nm_s1 (f_X12_flat_L87 nm_F (8 : Int32) I16) fun I21 =>
nm_c x1 8 (
nm_l (nm_up I21 0 26 (I21 17 x1.toNatClampNeg)) fun I23 =>
nm_s1 (f_X12_flat_L116 x1 nm_F (0 : Int32) I23) fun I35 =>
nm_l (nm_up I35 0 20 (1 : Int32)) fun I36 =>
nm_l (nm_up I36 0 21 (0 : Int32)) fun I37 =>
nm_l (nm_up I37 0 22 (0 : Int32)) fun I38 =>
nm_l (nm_up I38 0 72 (0 : Int32)) fun I39 =>
some (y15, I39)))
set_option maxHeartbeats 4000000 in
set_option maxRecDepth 100000 in
theorem k_X12_flat {l : Launch} {D : va_G} {Y : nm_Y} {s0 : Nat} {X : va_W} {ad : Nat → Nat}  {x1 : Int32} {I : nm_I} {r0 : Int32} {M0 : nm_I} (hf : f_X12_flat x1 I = some (r0, M0)) :
    nm_Met l yX12_flat cX12_flat 4 (some .int) { frames := 4, cells := 0, slots := 0, locals := 104 } [.ref (ad 0), .int x1] D Y s0 (nm_W Y X moN ad (I, nJ0, moZ)) (nm_Qi D s0 r0 (nm_W Y X moN ad (M0, nJ0, moZ))) 0 0 := by
  refine nm_of (by decide) (Nat.le_of_ble_eq_true rfl) ?_
  intro p e R s m args below meth c Q ls hx hb hr hlocks hml hown hts hs0 hK hZ hRf hRl hRc hRs hQ hP hD hl
  have hH : nm_H D Y (fun q => s0 ≤ q) s.heap X moN ad (I, nJ0, moZ) s.heap [] := ⟨hP, hD, va_S.rf⟩
  have hl : lv_has ls 4 [(0, .ref (ad 0)), (1, .int x1)] := hl
  unfold f_X12_flat at hf
  refine lv_iload_n hx hb dX12_flat_0 rfl (lv_at hl 1 rfl) ?_
  refine nm_calli (nm_runS (X := X) (nl := moN) (k_X12_isCell (hf := (rfl : f_X12_isCell x1 = _))) hx hb hml hown hts hs0 hK hZ hH tw_1203 tw_1201 tw_1202 tw_9 hd_X12_isCell rfl rfl ⟨Nat.le_trans (Nat.le_of_ble_eq_true rfl) hRf, Nat.le_trans (Nat.le_of_ble_eq_true rfl) hRl⟩ rfl hl.1 rfl (Nat.le_of_ble_eq_true rfl) dX12_flat_1 ⟨Nat.zero_le _, Nat.zero_le _⟩) hH (fun H locs hH => ?_)
  have hH : nm_H D Y (fun q => s0 ≤ q) s.heap X moN ad (I, nJ0, moZ) H locs := hH
  refine lv_if_ne (tgt := 14) hx hb dX12_flat_4 (by decide) (fun c1 => ?_) (fun c1 => ?_)
  · have hf := nm_ie c1 hf
    refine lv_iconst (v := 0) hx hb dX12_flat_14 (by decide) ?_
    refine lv_istore_n (lv' := [(2, .int (0 : Int32)), (0, .ref (ad 0)), (1, .int x1)]) hx hb dX12_flat_15 rfl hl (by decide) rfl (fun ls hl => ?_)
    have hL16 : ∀ (n16 : Nat) (x2 : Int32) (I2 : nm_I) (H : Heap) (locs : List Loc) (ls : Array Slot) (o16 : nm_I), nm_H D Y (fun q => s0 ≤ q) s.heap X moN ad (I2, nJ0, moZ) H locs → lv_has ls 4 [(0, .ref (ad 0)), (1, .int x1), (2, .int x2)] → f_X12_flat_L16 x1 n16 x2 I2 = some o16 → (∀ (H : Heap) (locs : List Loc) (ls : Array Slot), nm_H D Y (fun q => s0 ≤ q) s.heap X moN ad (o16, nJ0, moZ) H locs → lv_has ls 4 [(0, .ref (ad 0)), (1, .int x1)] → W p l e R s m args below meth c H locs 0 0 Q (F0 m 32 ls [])) → W p l e R s m args below meth c H locs 0 0 Q (F0 m 16 ls []) := by
      intro n16
      induction n16 with
      | zero =>
        intro x2 I2 H locs ls o16 hH hl hf hX16
        cases hf
      | succ n16 ih16 =>
        intro x2 I2 H locs ls o16 hH hl hf hX16
        rw [f_X12_flat_L16] at hf
        refine lv_iload_n hx hb dX12_flat_16 rfl (lv_at hl 2 rfl) ?_
        refine lv_iload_n hx hb dX12_flat_17 rfl (lv_at hl 1 rfl) ?_
        refine lv_icmp_gt (tgt := 32) hx hb dX12_flat_18 (by decide) (fun c3 => ?_) (fun c3 => ?_)
        · have hf := nm_it c3 hf
          cases hf
          exact hX16 _ _ _ hH (lv_sub hl [0, 1] rfl)
        · have hf := nm_ie c3 hf
          refine lv_aload_n hx hb dX12_flat_21 rfl (lv_at hl 0 rfl) ?_
          refine lv_iload_n hx hb dX12_flat_22 rfl (lv_at hl 2 rfl) ?_
          obtain ⟨I4, hc5, hf⟩ := nm_sd1 hf
          refine nm_callv (nm_runV (X := X) (nl := moN) (k_X12_lays (hf := hc5)) hx hb hml hown hts hs0 hK hZ hH tw_1274 tw_1271 tw_1273 (sw_X12_lays) tw_9 hd_X12_lays mo_n0 mo_k0 (by decide) rfl rfl rfl ⟨Nat.le_trans (Nat.le_of_ble_eq_true rfl) hRf, Nat.le_trans (Nat.le_of_ble_eq_true rfl) hRl⟩ rfl hl.1 rfl (Nat.le_of_ble_eq_true rfl) dX12_flat_23 ⟨Nat.zero_le _, Nat.zero_le _⟩) hH (fun H locs hH => ?_)
          have hH : nm_H D Y (fun q => s0 ≤ q) s.heap X moN ad (I4, nJ0, moZ) H locs := hH
          refine lv_iinc (v := x2 + 1) (lv' := [(2, .int (x2 + 1)), (0, .ref (ad 0)), (1, .int x1)]) hx hb dX12_flat_26 hl (k := 2) rfl rfl (by decide) rfl (fun ls hl => ?_)
          refine lv_goto (tgt := 16) hx hb dX12_flat_29 (by decide) ?_
          exact ih16 (x2 + 1) I4 _ _ _ _ hH (lv_sub hl [1, 2, 0] rfl) hf hX16
    obtain ⟨I6, hl43, hf⟩ := nm_sd1 hf
    refine hL16 nm_F (0 : Int32) I _ _ _ _ hH (lv_sub hl [1, 2, 0] rfl) hl43 (fun H locs ls hH hl => ?_)
    have hl : lv_has ls 4 [(0, .ref (ad 0)), (1, .int x1)] := hl
    have hH : nm_H D Y (fun q => s0 ≤ q) s.heap X moN ad (I6, nJ0, moZ) H locs := hH
    refine lv_iconst (v := 0) hx hb dX12_flat_32 (by decide) ?_
    refine lv_istore_n (lv' := [(2, .int (0 : Int32)), (0, .ref (ad 0)), (1, .int x1)]) hx hb dX12_flat_33 rfl hl (by decide) rfl (fun ls hl => ?_)
    refine lv_iconst (v := 0) hx hb dX12_flat_34 (by decide) ?_
    refine lv_istore_n (lv' := [(3, .int (0 : Int32)), (2, .int (0 : Int32)), (0, .ref (ad 0)), (1, .int x1)]) hx hb dX12_flat_35 rfl hl (by decide) rfl (fun ls hl => ?_)
    have hL36 : ∀ (n36 : Nat) (x2 : Int32) (x3 : Int32) (I7 : nm_I) (H : Heap) (locs : List Loc) (ls : Array Slot) (o36 : Int32 × nm_I), nm_H D Y (fun q => s0 ≤ q) s.heap X moN ad (I7, nJ0, moZ) H locs → lv_has ls 4 [(0, .ref (ad 0)), (1, .int x1), (2, .int x2), (3, .int x3)] → f_X12_flat_L36 x1 n36 x2 x3 I7 = some o36 → (∀ (H : Heap) (locs : List Loc) (ls : Array Slot), nm_H D Y (fun q => s0 ≤ q) s.heap X moN ad (o36.2, nJ0, moZ) H locs → lv_has ls 4 [(0, .ref (ad 0)), (1, .int x1), (2, .int o36.1)] → W p l e R s m args below meth c H locs 0 0 Q (F0 m 84 ls [])) → W p l e R s m args below meth c H locs 0 0 Q (F0 m 36 ls []) := by
      intro n36
      induction n36 with
      | zero =>
        intro x2 x3 I7 H locs ls o36 hH hl hf hX36
        cases hf
      | succ n36 ih36 =>
        intro x2 x3 I7 H locs ls o36 hH hl hf hX36
        rw [f_X12_flat_L36] at hf
        refine lv_iload_n hx hb dX12_flat_36 rfl (lv_at hl 3 rfl) ?_
        refine lv_ldcw hx hb hown (hts _ tw_1310) dX12_flat_37 ?_
        refine lv_icmp_ge (tgt := 84) hx hb dX12_flat_40 (by decide) (fun c8 => ?_) (fun c8 => ?_)
        · have hf := nm_it c8 hf
          cases hf
          exact hX36 _ _ _ hH (lv_sub hl [0, 1, 2] rfl)
        · have hf := nm_ie c8 hf
          refine lv_aload_n hx hb dX12_flat_43 rfl (lv_at hl 0 rfl) ?_
          refine gf_12_19 hK hx hb hts hown hH mo_n0 mo_k0 (hts _ tw_975) (fun _ h9 => h9) dX12_flat_44 ?_
          refine lv_iload_n hx hb dX12_flat_47 rfl (lv_at hl 3 rfl) ?_
          refine lv_aload_n hx hb dX12_flat_48 rfl (lv_at hl 0 rfl) ?_
          refine gf_12_12 hK hx hb hts hown hH mo_n0 mo_k0 (hts _ tw_968) (fun _ h9 => h9) dX12_flat_49 ?_
          refine lv_ldcw hx hb hown (hts _ tw_1310) dX12_flat_52 ?_
          refine lv_iload_n hx hb dX12_flat_55 rfl (lv_at hl 1 rfl) ?_
          refine lv_imul hx hb dX12_flat_56 ?_
          refine lv_iload_n hx hb dX12_flat_57 rfl (lv_at hl 3 rfl) ?_
          refine lv_iadd hx hb dX12_flat_58 ?_
          obtain ⟨hi9, hf⟩ := nm_chk hf
          refine nm_zald hx hb hK hH mo_n13 mo_k13 mo_l13 hi9 dX12_flat_59 ?_
          obtain ⟨hi10, hf⟩ := nm_chk hf
          obtain ⟨I11, eI11, hf⟩ := nm_let hf
          refine nm_zast hx hb hK hH mo_n20 mo_k20 mo_l20 hi10 dX12_flat_60 (fun H locs hH => ?_)
          have hH : nm_H D Y (fun q => s0 ≤ q) s.heap X moN ad (I11, nJ0, moZ) H locs := by rw [eI11]; exact hH
          refine lv_iload_n hx hb dX12_flat_61 rfl (lv_at hl 2 rfl) ?_
          refine lv_aload_n hx hb dX12_flat_62 rfl (lv_at hl 0 rfl) ?_
          refine gf_12_19 hK hx hb hts hown hH mo_n0 mo_k0 (hts _ tw_975) (fun _ h9 => h9) dX12_flat_63 ?_
          refine lv_iload_n hx hb dX12_flat_66 rfl (lv_at hl 3 rfl) ?_
          obtain ⟨hi12, hf⟩ := nm_chk hf
          refine nm_zald hx hb hK hH mo_n20 mo_k20 mo_l20 hi12 dX12_flat_67 ?_
          have hJ76 : ∀ (t76_1 : Int32) (t76_0 : Int32) (H : Heap) (locs : List Loc) (ls : Array Slot), nm_H D Y (fun q => s0 ≤ q) s.heap X moN ad (I11, nJ0, moZ) H locs → lv_has ls 4 [(0, .ref (ad 0)), (1, .int x1), (3, .int x3)] → f_X12_flat_J76 x3 t76_1 t76_0 I11 (f_X12_flat_L36 x1 n36) = some o36 → W p l e R s m args below meth c H locs 0 0 Q (F0 m 76 ls [.int t76_1, .int t76_0]) := by
            intro t76_1 t76_0 H locs ls hH hl hf
            unfold f_X12_flat_J76 at hf
            refine lv_iadd hx hb dX12_flat_76 ?_
            obtain ⟨v13, ev13, hf⟩ := nm_let hf
            refine nm_topi ev13 ?_
            refine lv_istore_n (lv' := [(2, .int v13), (0, .ref (ad 0)), (1, .int x1), (3, .int x3)]) hx hb dX12_flat_77 rfl hl (by decide) rfl (fun ls hl => ?_)
            refine lv_iinc (v := x3 + 1) (lv' := [(3, .int (x3 + 1)), (2, .int v13), (0, .ref (ad 0)), (1, .int x1)]) hx hb dX12_flat_78 hl (k := 3) rfl rfl (by decide) rfl (fun ls hl => ?_)
            refine lv_goto (tgt := 36) hx hb dX12_flat_81 (by decide) ?_
            exact ih36 v13 (x3 + 1) I11 _ _ _ _ hH (lv_sub hl [2, 3, 1, 0] rfl) hf hX36
          refine lv_if_eq (tgt := 75) hx hb dX12_flat_68 (by decide) (fun c14 => ?_) (fun c14 => ?_)
          · have hf := nm_it c14 hf
            refine lv_iconst (v := 0) hx hb dX12_flat_75 (by decide) ?_
            exact hJ76 (0 : Int32) x2 _ _ _ hH (lv_sub hl [0, 1, 3] rfl) hf
          · have hf := nm_ie c14 hf
            refine lv_iconst (v := 1) hx hb dX12_flat_71 (by decide) ?_
            refine lv_goto (tgt := 76) hx hb dX12_flat_72 (by decide) ?_
            exact hJ76 (1 : Int32) x2 _ _ _ hH (lv_sub hl [0, 1, 3] rfl) hf
    obtain ⟨y15, I16, hl42, hf⟩ := nm_sd2 hf
    refine hL36 nm_F (0 : Int32) (0 : Int32) I6 _ _ _ _ hH (lv_sub hl [2, 3, 1, 0] rfl) hl42 (fun H locs ls hH hl => ?_)
    have hl : lv_has ls 4 [(0, .ref (ad 0)), (1, .int x1), (2, .int y15)] := hl
    have hH : nm_H D Y (fun q => s0 ≤ q) s.heap X moN ad (I16, nJ0, moZ) H locs := hH
    refine lv_bipush (v := 8) hx hb dX12_flat_84 (by decide) ?_
    refine lv_istore_n (lv' := [(3, .int (8 : Int32)), (0, .ref (ad 0)), (1, .int x1), (2, .int y15)]) hx hb dX12_flat_86 rfl hl (by decide) rfl (fun ls hl => ?_)
    have hL87 : ∀ (n87 : Nat) (x3 : Int32) (I17 : nm_I) (H : Heap) (locs : List Loc) (ls : Array Slot) (o87 : nm_I), nm_H D Y (fun q => s0 ≤ q) s.heap X moN ad (I17, nJ0, moZ) H locs → lv_has ls 4 [(0, .ref (ad 0)), (1, .int x1), (2, .int y15), (3, .int x3)] → f_X12_flat_L87 n87 x3 I17 = some o87 → (∀ (H : Heap) (locs : List Loc) (ls : Array Slot), nm_H D Y (fun q => s0 ≤ q) s.heap X moN ad (o87, nJ0, moZ) H locs → lv_has ls 4 [(0, .ref (ad 0)), (1, .int x1), (2, .int y15)] → W p l e R s m args below meth c H locs 0 0 Q (F0 m 104 ls [])) → W p l e R s m args below meth c H locs 0 0 Q (F0 m 87 ls []) := by
      intro n87
      induction n87 with
      | zero =>
        intro x3 I17 H locs ls o87 hH hl hf hX87
        cases hf
      | succ n87 ih87 =>
        intro x3 I17 H locs ls o87 hH hl hf hX87
        rw [f_X12_flat_L87] at hf
        refine lv_iload_n hx hb dX12_flat_87 rfl (lv_at hl 3 rfl) ?_
        refine lv_bipush (v := 16) hx hb dX12_flat_88 (by decide) ?_
        refine lv_icmp_ge (tgt := 104) hx hb dX12_flat_90 (by decide) (fun c18 => ?_) (fun c18 => ?_)
        · have hf := nm_it c18 hf
          cases hf
          exact hX87 _ _ _ hH (lv_sub hl [0, 1, 2] rfl)
        · have hf := nm_ie c18 hf
          refine lv_aload_n hx hb dX12_flat_93 rfl (lv_at hl 0 rfl) ?_
          refine lv_iload_n hx hb dX12_flat_94 rfl (lv_at hl 3 rfl) ?_
          obtain ⟨I19, hc20, hf⟩ := nm_sd1 hf
          refine nm_callv (nm_runV (X := X) (nl := moN) (k_X12_makes (hf := hc20)) hx hb hml hown hts hs0 hK hZ hH tw_1314 tw_1311 tw_1313 (sw_X12_makes) tw_9 hd_X12_makes mo_n0 mo_k0 (by decide) rfl rfl rfl ⟨Nat.le_trans (Nat.le_of_ble_eq_true rfl) hRf, Nat.le_trans (Nat.le_of_ble_eq_true rfl) hRl⟩ rfl hl.1 rfl (Nat.le_of_ble_eq_true rfl) dX12_flat_95 ⟨Nat.zero_le _, Nat.zero_le _⟩) hH (fun H locs hH => ?_)
          have hH : nm_H D Y (fun q => s0 ≤ q) s.heap X moN ad (I19, nJ0, moZ) H locs := hH
          refine lv_iinc (v := x3 + 1) (lv' := [(3, .int (x3 + 1)), (0, .ref (ad 0)), (1, .int x1), (2, .int y15)]) hx hb dX12_flat_98 hl (k := 3) rfl rfl (by decide) rfl (fun ls hl => ?_)
          refine lv_goto (tgt := 87) hx hb dX12_flat_101 (by decide) ?_
          exact ih87 (x3 + 1) I19 _ _ _ _ hH (lv_sub hl [1, 2, 3, 0] rfl) hf hX87
    obtain ⟨I21, hl41, hf⟩ := nm_sd1 hf
    refine hL87 nm_F (8 : Int32) I16 _ _ _ _ hH (lv_sub hl [1, 2, 3, 0] rfl) hl41 (fun H locs ls hH hl => ?_)
    have hl : lv_has ls 4 [(0, .ref (ad 0)), (1, .int x1), (2, .int y15)] := hl
    have hH : nm_H D Y (fun q => s0 ≤ q) s.heap X moN ad (I21, nJ0, moZ) H locs := hH
    refine lv_aload_n hx hb dX12_flat_104 rfl (lv_at hl 0 rfl) ?_
    refine lv_aload_n hx hb dX12_flat_105 rfl (lv_at hl 0 rfl) ?_
    refine gf_12_16 hK hx hb hts hown hH mo_n0 mo_k0 (hts _ tw_972) (fun _ h9 => h9) dX12_flat_106 ?_
    refine lv_iload_n hx hb dX12_flat_109 rfl (lv_at hl 1 rfl) ?_
    obtain ⟨hi22, hf⟩ := nm_chk hf
    refine nm_iald hx hb hK hH mo_n17 mo_k17 mo_l17 hi22 dX12_flat_110 ?_
    obtain ⟨I23, eI23, hf⟩ := nm_let hf
    refine pf_12_26 hK hx hb hts hown hH mo_n0 mo_k0 (hts _ tw_982) (fun _ h9 => h9) dX12_flat_111 (fun H locs hH => ?_)
    have hH : nm_H D Y (fun q => s0 ≤ q) s.heap X moN ad (I23, nJ0, moZ) H locs := by rw [eI23]; exact hH
    refine lv_iconst (v := 0) hx hb dX12_flat_114 (by decide) ?_
    refine lv_istore_n (lv' := [(3, .int (0 : Int32)), (0, .ref (ad 0)), (1, .int x1), (2, .int y15)]) hx hb dX12_flat_115 rfl hl (by decide) rfl (fun ls hl => ?_)
    have hL116 : ∀ (n116 : Nat) (x3 : Int32) (I24 : nm_I) (H : Heap) (locs : List Loc) (ls : Array Slot) (o116 : nm_I), nm_H D Y (fun q => s0 ≤ q) s.heap X moN ad (I24, nJ0, moZ) H locs → lv_has ls 4 [(0, .ref (ad 0)), (1, .int x1), (2, .int y15), (3, .int x3)] → f_X12_flat_L116 x1 n116 x3 I24 = some o116 → (∀ (H : Heap) (locs : List Loc) (ls : Array Slot), nm_H D Y (fun q => s0 ≤ q) s.heap X moN ad (o116, nJ0, moZ) H locs → lv_has ls 4 [(0, .ref (ad 0)), (2, .int y15)] → W p l e R s m args below meth c H locs 0 0 Q (F0 m 184 ls [])) → W p l e R s m args below meth c H locs 0 0 Q (F0 m 116 ls []) := by
      intro n116
      induction n116 with
      | zero =>
        intro x3 I24 H locs ls o116 hH hl hf hX116
        cases hf
      | succ n116 ih116 =>
        intro x3 I24 H locs ls o116 hH hl hf hX116
        rw [f_X12_flat_L116] at hf
        refine lv_iload_n hx hb dX12_flat_116 rfl (lv_at hl 3 rfl) ?_
        refine lv_aload_n hx hb dX12_flat_117 rfl (lv_at hl 0 rfl) ?_
        refine gf_12_26 hK hx hb hts hown hH mo_n0 mo_k0 (hts _ tw_982) (fun _ h9 => h9) dX12_flat_118 ?_
        refine lv_icmp_ge (tgt := 184) hx hb dX12_flat_121 (by decide) (fun c25 => ?_) (fun c25 => ?_)
        · have hf := nm_it c25 hf
          cases hf
          exact hX116 _ _ _ hH (lv_sub hl [0, 2] rfl)
        · have hf := nm_ie c25 hf
          refine lv_aload_n hx hb dX12_flat_124 rfl (lv_at hl 0 rfl) ?_
          refine gf_12_23 hK hx hb hts hown hH mo_n0 mo_k0 (hts _ tw_979) (fun _ h9 => h9) dX12_flat_125 ?_
          refine lv_iload_n hx hb dX12_flat_128 rfl (lv_at hl 3 rfl) ?_
          refine lv_aload_n hx hb dX12_flat_129 rfl (lv_at hl 0 rfl) ?_
          refine gf_12_13 hK hx hb hts hown hH mo_n0 mo_k0 (hts _ tw_969) (fun _ h9 => h9) dX12_flat_130 ?_
          refine lv_sipush (v := 200) hx hb dX12_flat_133 (by decide) ?_
          refine lv_iload_n hx hb dX12_flat_136 rfl (lv_at hl 1 rfl) ?_
          refine lv_imul hx hb dX12_flat_137 ?_
          refine lv_iload_n hx hb dX12_flat_138 rfl (lv_at hl 3 rfl) ?_
          refine lv_iadd hx hb dX12_flat_139 ?_
          obtain ⟨hi26, hf⟩ := nm_chk hf
          refine nm_iald hx hb hK hH mo_n14 mo_k14 mo_l14 hi26 dX12_flat_140 ?_
          obtain ⟨hi27, hf⟩ := nm_chk hf
          obtain ⟨I28, eI28, hf⟩ := nm_let hf
          refine nm_iast hx hb hK hH mo_n24 mo_k24 mo_l24 hi27 dX12_flat_141 (fun H locs hH => ?_)
          have hH : nm_H D Y (fun q => s0 ≤ q) s.heap X moN ad (I28, nJ0, moZ) H locs := by rw [eI28]; exact hH
          refine lv_aload_n hx hb dX12_flat_142 rfl (lv_at hl 0 rfl) ?_
          refine gf_12_24 hK hx hb hts hown hH mo_n0 mo_k0 (hts _ tw_980) (fun _ h9 => h9) dX12_flat_143 ?_
          refine lv_iload_n hx hb dX12_flat_146 rfl (lv_at hl 3 rfl) ?_
          refine lv_aload_n hx hb dX12_flat_147 rfl (lv_at hl 0 rfl) ?_
          refine gf_12_14 hK hx hb hts hown hH mo_n0 mo_k0 (hts _ tw_970) (fun _ h9 => h9) dX12_flat_148 ?_
          refine lv_sipush (v := 200) hx hb dX12_flat_151 (by decide) ?_
          refine lv_iload_n hx hb dX12_flat_154 rfl (lv_at hl 1 rfl) ?_
          refine lv_imul hx hb dX12_flat_155 ?_
          refine lv_iload_n hx hb dX12_flat_156 rfl (lv_at hl 3 rfl) ?_
          refine lv_iadd hx hb dX12_flat_157 ?_
          obtain ⟨hi29, hf⟩ := nm_chk hf
          refine nm_iald hx hb hK hH mo_n15 mo_k15 mo_l15 hi29 dX12_flat_158 ?_
          obtain ⟨hi30, hf⟩ := nm_chk hf
          obtain ⟨I31, eI31, hf⟩ := nm_let hf
          refine nm_iast hx hb hK hH mo_n25 mo_k25 mo_l25 hi30 dX12_flat_159 (fun H locs hH => ?_)
          have hH : nm_H D Y (fun q => s0 ≤ q) s.heap X moN ad (I31, nJ0, moZ) H locs := by rw [eI31]; exact hH
          refine lv_aload_n hx hb dX12_flat_160 rfl (lv_at hl 0 rfl) ?_
          refine gf_12_25 hK hx hb hts hown hH mo_n0 mo_k0 (hts _ tw_981) (fun _ h9 => h9) dX12_flat_161 ?_
          refine lv_iload_n hx hb dX12_flat_164 rfl (lv_at hl 3 rfl) ?_
          refine lv_aload_n hx hb dX12_flat_165 rfl (lv_at hl 0 rfl) ?_
          refine gf_12_15 hK hx hb hts hown hH mo_n0 mo_k0 (hts _ tw_971) (fun _ h9 => h9) dX12_flat_166 ?_
          refine lv_sipush (v := 200) hx hb dX12_flat_169 (by decide) ?_
          refine lv_iload_n hx hb dX12_flat_172 rfl (lv_at hl 1 rfl) ?_
          refine lv_imul hx hb dX12_flat_173 ?_
          refine lv_iload_n hx hb dX12_flat_174 rfl (lv_at hl 3 rfl) ?_
          refine lv_iadd hx hb dX12_flat_175 ?_
          obtain ⟨hi32, hf⟩ := nm_chk hf
          refine nm_iald hx hb hK hH mo_n16 mo_k16 mo_l16 hi32 dX12_flat_176 ?_
          obtain ⟨hi33, hf⟩ := nm_chk hf
          obtain ⟨I34, eI34, hf⟩ := nm_let hf
          refine nm_iast hx hb hK hH mo_n26 mo_k26 mo_l26 hi33 dX12_flat_177 (fun H locs hH => ?_)
          have hH : nm_H D Y (fun q => s0 ≤ q) s.heap X moN ad (I34, nJ0, moZ) H locs := by rw [eI34]; exact hH
          refine lv_iinc (v := x3 + 1) (lv' := [(3, .int (x3 + 1)), (0, .ref (ad 0)), (1, .int x1), (2, .int y15)]) hx hb dX12_flat_178 hl (k := 3) rfl rfl (by decide) rfl (fun ls hl => ?_)
          refine lv_goto (tgt := 116) hx hb dX12_flat_181 (by decide) ?_
          exact ih116 (x3 + 1) I34 _ _ _ _ hH (lv_sub hl [1, 2, 3, 0] rfl) hf hX116
    obtain ⟨I35, hl40, hf⟩ := nm_sd1 hf
    refine hL116 nm_F (0 : Int32) I23 _ _ _ _ hH (lv_sub hl [1, 2, 3, 0] rfl) hl40 (fun H locs ls hH hl => ?_)
    have hl : lv_has ls 4 [(0, .ref (ad 0)), (2, .int y15)] := hl
    have hH : nm_H D Y (fun q => s0 ≤ q) s.heap X moN ad (I35, nJ0, moZ) H locs := hH
    refine lv_aload_n hx hb dX12_flat_184 rfl (lv_at hl 0 rfl) ?_
    refine lv_iconst (v := 1) hx hb dX12_flat_185 (by decide) ?_
    obtain ⟨I36, eI36, hf⟩ := nm_let hf
    refine pf_12_20 hK hx hb hts hown hH mo_n0 mo_k0 (hts _ tw_976) (fun _ h9 => h9) rfl rfl dX12_flat_186 (fun H locs hH => ?_)
    have hH : nm_H D Y (fun q => s0 ≤ q) s.heap X moN ad (I36, nJ0, moZ) H locs := by rw [eI36]; exact hH
    refine lv_aload_n hx hb dX12_flat_189 rfl (lv_at hl 0 rfl) ?_
    refine lv_iconst (v := 0) hx hb dX12_flat_190 (by decide) ?_
    obtain ⟨I37, eI37, hf⟩ := nm_let hf
    refine pf_12_21 hK hx hb hts hown hH mo_n0 mo_k0 (hts _ tw_977) (fun _ h9 => h9) rfl rfl dX12_flat_191 (fun H locs hH => ?_)
    have hH : nm_H D Y (fun q => s0 ≤ q) s.heap X moN ad (I37, nJ0, moZ) H locs := by rw [eI37]; exact hH
    refine lv_aload_n hx hb dX12_flat_194 rfl (lv_at hl 0 rfl) ?_
    refine lv_iconst (v := 0) hx hb dX12_flat_195 (by decide) ?_
    obtain ⟨I38, eI38, hf⟩ := nm_let hf
    refine pf_12_22 hK hx hb hts hown hH mo_n0 mo_k0 (hts _ tw_978) (fun _ h9 => h9) rfl rfl dX12_flat_196 (fun H locs hH => ?_)
    have hH : nm_H D Y (fun q => s0 ≤ q) s.heap X moN ad (I38, nJ0, moZ) H locs := by rw [eI38]; exact hH
    refine lv_aload_n hx hb dX12_flat_199 rfl (lv_at hl 0 rfl) ?_
    refine lv_iconst (v := 0) hx hb dX12_flat_200 (by decide) ?_
    obtain ⟨I39, eI39, hf⟩ := nm_let hf
    refine pf_12_72 hK hx hb hts hown hH mo_n0 mo_k0 (hts _ tw_1027) (fun _ h9 => h9) rfl rfl dX12_flat_201 (fun H locs hH => ?_)
    have hH : nm_H D Y (fun q => s0 ≤ q) s.heap X moN ad (I39, nJ0, moZ) H locs := by rw [eI39]; exact hH
    refine lv_iload_n hx hb dX12_flat_204 rfl (lv_at hl 1 rfl) ?_
    exact nm_iret hx hb hr hlocks hQ hH (congrArg Prod.fst (Option.some.inj hf)) (congrArg (fun q => (q.2, nJ0, moZ)) (Option.some.inj hf)) dX12_flat_205
  · have hf := nm_it c1 hf
    refine lv_aload_n hx hb dX12_flat_7 rfl (lv_at hl 0 rfl) ?_
    refine lv_bipush (v := -3) hx hb dX12_flat_8 (by decide) ?_
    obtain ⟨r46, I44, hc45, hf⟩ := nm_sd2 hf
    refine nm_calli (nm_runV (X := X) (nl := moN) (k_X12_no (hf := hc45)) hx hb hml hown hts hs0 hK hZ hH tw_1214 tw_1211 tw_1213 (sw_X12_no) tw_9 hd_X12_no mo_n0 mo_k0 (by decide) rfl rfl rfl ⟨Nat.le_trans (Nat.le_of_ble_eq_true rfl) hRf, Nat.le_trans (Nat.le_of_ble_eq_true rfl) hRl⟩ rfl hl.1 rfl (Nat.le_of_ble_eq_true rfl) dX12_flat_10 ⟨Nat.zero_le _, Nat.zero_le _⟩) hH (fun H locs hH => ?_)
    have hH : nm_H D Y (fun q => s0 ≤ q) s.heap X moN ad (I44, nJ0, moZ) H locs := hH
    exact nm_iret hx hb hr hlocks hQ hH (congrArg Prod.fst (Option.some.inj hf)) (congrArg (fun q => (q.2, nJ0, moZ)) (Option.some.inj hf)) dX12_flat_13
def f_X12_areaOf_J32 (x3 : Int32) (t32_1 : Int32) (t32_0 : Int32) (I : nm_I) (k : Int32 → Int32 → Option (Int32)) : Option (Int32) :=
nm_l (t32_0 + t32_1) fun v3 =>
k v3 (x3 + 1)
def f_X12_areaOf_L4 (x1 : Int32) (I : nm_I) : Nat → Int32 → Int32 → Option (Int32)
  | 0, _, _ => none
  | n4 + 1, x2, x3 =>
    (if (4096 : Int32) ≤ x3 then
    some x2
    else
    nm_c (((4096 : Int32) * x1) + x3) 65536 (
    (if (I 20 (((4096 : Int32) * x1) + x3).toNatClampNeg) = 0 then
    f_X12_areaOf_J32 x3 (0 : Int32) x2 I (f_X12_areaOf_L4 x1 I n4)
    else
    f_X12_areaOf_J32 x3 (1 : Int32) x2 I (f_X12_areaOf_L4 x1 I n4))))
def f_X12_areaOf (x1 : Int32) (I : nm_I) : Option Int32 :=
nm_s1 (f_X12_areaOf_L4 x1 I nm_F (0 : Int32) (0 : Int32)) fun y5 =>
some y5
set_option maxHeartbeats 4000000 in
set_option maxRecDepth 100000 in
theorem k_X12_areaOf {l : Launch} {D : va_G} {Y : nm_Y} {s0 : Nat} {X : va_W} {ad : Nat → Nat}  {x1 : Int32} {I : nm_I} {r0 : Int32} (hf : f_X12_areaOf x1 I = some r0) :
    nm_Met l yX12_areaOf cX12_areaOf 4 (some .int) { frames := 0, cells := 0, slots := 0, locals := 0 } [.ref (ad 0), .int x1] D Y s0 (nm_W Y X moN ad (I, nJ0, moZ)) (nm_Qi D s0 r0 (nm_W Y X moN ad (I, nJ0, moZ))) 0 0 := by
  refine nm_of (by decide) (Nat.le_of_ble_eq_true rfl) ?_
  intro p e R s m args below meth c Q ls hx hb hr hlocks hml hown hts hs0 hK hZ hRf hRl hRc hRs hQ hP hD hl
  have hH : nm_H D Y (fun q => s0 ≤ q) s.heap X moN ad (I, nJ0, moZ) s.heap [] := ⟨hP, hD, va_S.rf⟩
  have hl : lv_has ls 4 [(0, .ref (ad 0)), (1, .int x1)] := hl
  unfold f_X12_areaOf at hf
  refine lv_iconst (v := 0) hx hb dX12_areaOf_0 (by decide) ?_
  refine lv_istore_n (lv' := [(2, .int (0 : Int32)), (0, .ref (ad 0)), (1, .int x1)]) hx hb dX12_areaOf_1 rfl hl (by decide) rfl (fun ls hl => ?_)
  refine lv_iconst (v := 0) hx hb dX12_areaOf_2 (by decide) ?_
  refine lv_istore_n (lv' := [(3, .int (0 : Int32)), (2, .int (0 : Int32)), (0, .ref (ad 0)), (1, .int x1)]) hx hb dX12_areaOf_3 rfl hl (by decide) rfl (fun ls hl => ?_)
  have hL4 : ∀ (n4 : Nat) (x2 : Int32) (x3 : Int32) (H : Heap) (locs : List Loc) (ls : Array Slot) (o4 : Int32), nm_H D Y (fun q => s0 ≤ q) s.heap X moN ad (I, nJ0, moZ) H locs → lv_has ls 4 [(0, .ref (ad 0)), (1, .int x1), (2, .int x2), (3, .int x3)] → f_X12_areaOf_L4 x1 I n4 x2 x3 = some o4 → (∀ (H : Heap) (locs : List Loc) (ls : Array Slot), nm_H D Y (fun q => s0 ≤ q) s.heap X moN ad (I, nJ0, moZ) H locs → lv_has ls 4 [(2, .int o4)] → W p l e R s m args below meth c H locs 0 0 Q (F0 m 40 ls [])) → W p l e R s m args below meth c H locs 0 0 Q (F0 m 4 ls []) := by
    intro n4
    induction n4 with
    | zero =>
      intro x2 x3 H locs ls o4 hH hl hf hX4
      cases hf
    | succ n4 ih4 =>
      intro x2 x3 H locs ls o4 hH hl hf hX4
      rw [f_X12_areaOf_L4] at hf
      refine lv_iload_n hx hb dX12_areaOf_4 rfl (lv_at hl 3 rfl) ?_
      refine lv_sipush (v := 4096) hx hb dX12_areaOf_5 (by decide) ?_
      refine lv_icmp_ge (tgt := 40) hx hb dX12_areaOf_8 (by decide) (fun c1 => ?_) (fun c1 => ?_)
      · have hf := nm_it c1 hf
        cases hf
        exact hX4 _ _ _ hH (lv_sub hl [2] rfl)
      · have hf := nm_ie c1 hf
        refine lv_iload_n hx hb dX12_areaOf_11 rfl (lv_at hl 2 rfl) ?_
        refine lv_aload_n hx hb dX12_areaOf_12 rfl (lv_at hl 0 rfl) ?_
        refine gf_12_19 hK hx hb hts hown hH mo_n0 mo_k0 (hts _ tw_975) (fun _ h9 => h9) dX12_areaOf_13 ?_
        refine lv_sipush (v := 4096) hx hb dX12_areaOf_16 (by decide) ?_
        refine lv_iload_n hx hb dX12_areaOf_19 rfl (lv_at hl 1 rfl) ?_
        refine lv_imul hx hb dX12_areaOf_20 ?_
        refine lv_iload_n hx hb dX12_areaOf_21 rfl (lv_at hl 3 rfl) ?_
        refine lv_iadd hx hb dX12_areaOf_22 ?_
        obtain ⟨hi2, hf⟩ := nm_chk hf
        refine nm_zald hx hb hK hH mo_n20 mo_k20 mo_l20 hi2 dX12_areaOf_23 ?_
        have hJ32 : ∀ (t32_1 : Int32) (t32_0 : Int32) (H : Heap) (locs : List Loc) (ls : Array Slot), nm_H D Y (fun q => s0 ≤ q) s.heap X moN ad (I, nJ0, moZ) H locs → lv_has ls 4 [(0, .ref (ad 0)), (1, .int x1), (3, .int x3)] → f_X12_areaOf_J32 x3 t32_1 t32_0 I (f_X12_areaOf_L4 x1 I n4) = some o4 → W p l e R s m args below meth c H locs 0 0 Q (F0 m 32 ls [.int t32_1, .int t32_0]) := by
          intro t32_1 t32_0 H locs ls hH hl hf
          unfold f_X12_areaOf_J32 at hf
          refine lv_iadd hx hb dX12_areaOf_32 ?_
          obtain ⟨v3, ev3, hf⟩ := nm_let hf
          refine nm_topi ev3 ?_
          refine lv_istore_n (lv' := [(2, .int v3), (0, .ref (ad 0)), (1, .int x1), (3, .int x3)]) hx hb dX12_areaOf_33 rfl hl (by decide) rfl (fun ls hl => ?_)
          refine lv_iinc (v := x3 + 1) (lv' := [(3, .int (x3 + 1)), (2, .int v3), (0, .ref (ad 0)), (1, .int x1)]) hx hb dX12_areaOf_34 hl (k := 3) rfl rfl (by decide) rfl (fun ls hl => ?_)
          refine lv_goto (tgt := 4) hx hb dX12_areaOf_37 (by decide) ?_
          exact ih4 v3 (x3 + 1) _ _ _ _ hH (lv_sub hl [2, 3, 1, 0] rfl) hf hX4
        refine lv_if_eq (tgt := 31) hx hb dX12_areaOf_24 (by decide) (fun c4 => ?_) (fun c4 => ?_)
        · have hf := nm_it c4 hf
          refine lv_iconst (v := 0) hx hb dX12_areaOf_31 (by decide) ?_
          exact hJ32 (0 : Int32) x2 _ _ _ hH (lv_sub hl [0, 1, 3] rfl) hf
        · have hf := nm_ie c4 hf
          refine lv_iconst (v := 1) hx hb dX12_areaOf_27 (by decide) ?_
          refine lv_goto (tgt := 32) hx hb dX12_areaOf_28 (by decide) ?_
          exact hJ32 (1 : Int32) x2 _ _ _ hH (lv_sub hl [0, 1, 3] rfl) hf
  obtain ⟨y5, hl6, hf⟩ := nm_sd1 hf
  refine hL4 nm_F (0 : Int32) (0 : Int32) _ _ _ _ hH (lv_sub hl [2, 3, 1, 0] rfl) hl6 (fun H locs ls hH hl => ?_)
  have hl : lv_has ls 4 [(2, .int y5)] := hl
  have hH : nm_H D Y (fun q => s0 ≤ q) s.heap X moN ad (I, nJ0, moZ) H locs := hH
  refine lv_iload_n hx hb dX12_areaOf_40 rfl (lv_at hl 0 rfl) ?_
  exact nm_iret hx hb hr hlocks hQ hH (Option.some.inj hf) rfl dX12_areaOf_41
def f_X12_area (x1 : Int32) (I : nm_I) : Option (Int32 × nm_I) :=
(if (f_X12_isLayer x1) = 0 then
nm_s2 (f_X12_no (-3 : Int32) I) fun r10 I8 =>
some (r10, I8)
else
(if (I 0 20) = 0 then
nm_s2 (f_X12_no (-2 : Int32) I) fun r5 I3 =>
some (r5, I3)
else
nm_s1 (f_X12_areaOf x1 I) fun r6 =>
some (r6, I)))
set_option maxHeartbeats 4000000 in
set_option maxRecDepth 100000 in
theorem k_X12_area {l : Launch} {D : va_G} {Y : nm_Y} {s0 : Nat} {X : va_W} {ad : Nat → Nat}  {x1 : Int32} {I : nm_I} {r0 : Int32} {M0 : nm_I} (hf : f_X12_area x1 I = some (r0, M0)) :
    nm_Met l yX12_area cX12_area 2 (some .int) { frames := 1, cells := 0, slots := 0, locals := 23 } [.ref (ad 0), .int x1] D Y s0 (nm_W Y X moN ad (I, nJ0, moZ)) (nm_Qi D s0 r0 (nm_W Y X moN ad (M0, nJ0, moZ))) 0 0 := by
  refine nm_of (by decide) (Nat.le_of_ble_eq_true rfl) ?_
  intro p e R s m args below meth c Q ls hx hb hr hlocks hml hown hts hs0 hK hZ hRf hRl hRc hRs hQ hP hD hl
  have hH : nm_H D Y (fun q => s0 ≤ q) s.heap X moN ad (I, nJ0, moZ) s.heap [] := ⟨hP, hD, va_S.rf⟩
  have hl : lv_has ls 2 [(0, .ref (ad 0)), (1, .int x1)] := hl
  unfold f_X12_area at hf
  refine lv_iload_n hx hb dX12_area_0 rfl (lv_at hl 1 rfl) ?_
  refine nm_calli (nm_runS (X := X) (nl := moN) (k_X12_isLayer (hf := (rfl : f_X12_isLayer x1 = _))) hx hb hml hown hts hs0 hK hZ hH tw_1231 tw_1229 tw_1230 tw_9 hd_X12_isLayer rfl rfl ⟨Nat.le_trans (Nat.le_of_ble_eq_true rfl) hRf, Nat.le_trans (Nat.le_of_ble_eq_true rfl) hRl⟩ rfl hl.1 rfl (Nat.le_of_ble_eq_true rfl) dX12_area_1 ⟨Nat.zero_le _, Nat.zero_le _⟩) hH (fun H locs hH => ?_)
  have hH : nm_H D Y (fun q => s0 ≤ q) s.heap X moN ad (I, nJ0, moZ) H locs := hH
  refine lv_if_ne (tgt := 14) hx hb dX12_area_4 (by decide) (fun c1 => ?_) (fun c1 => ?_)
  · have hf := nm_ie c1 hf
    refine lv_aload_n hx hb dX12_area_14 rfl (lv_at hl 0 rfl) ?_
    refine gf_12_20 hK hx hb hts hown hH mo_n0 mo_k0 (hts _ tw_976) (fun _ h9 => h9) dX12_area_15 ?_
    refine lv_if_eq (tgt := 29) hx hb dX12_area_18 (by decide) (fun c2 => ?_) (fun c2 => ?_)
    · have hf := nm_it c2 hf
      refine lv_aload_n hx hb dX12_area_29 rfl (lv_at hl 0 rfl) ?_
      refine lv_bipush (v := -2) hx hb dX12_area_30 (by decide) ?_
      obtain ⟨r5, I3, hc4, hf⟩ := nm_sd2 hf
      refine nm_calli (nm_runV (X := X) (nl := moN) (k_X12_no (hf := hc4)) hx hb hml hown hts hs0 hK hZ hH tw_1214 tw_1211 tw_1213 (sw_X12_no) tw_9 hd_X12_no mo_n0 mo_k0 (by decide) rfl rfl rfl ⟨Nat.le_trans (Nat.le_of_ble_eq_true rfl) hRf, Nat.le_trans (Nat.le_of_ble_eq_true rfl) hRl⟩ rfl hl.1 rfl (Nat.le_of_ble_eq_true rfl) dX12_area_32 ⟨Nat.zero_le _, Nat.zero_le _⟩) hH (fun H locs hH => ?_)
      have hH : nm_H D Y (fun q => s0 ≤ q) s.heap X moN ad (I3, nJ0, moZ) H locs := hH
      exact nm_iret hx hb hr hlocks hQ hH (congrArg Prod.fst (Option.some.inj hf)) (congrArg (fun q => (q.2, nJ0, moZ)) (Option.some.inj hf)) dX12_area_35
    · have hf := nm_ie c2 hf
      refine lv_aload_n hx hb dX12_area_21 rfl (lv_at hl 0 rfl) ?_
      refine lv_iload_n hx hb dX12_area_22 rfl (lv_at hl 1 rfl) ?_
      obtain ⟨r6, hc7, hf⟩ := nm_sd1 hf
      refine nm_calli (nm_runV (X := X) (nl := moN) (k_X12_areaOf (hf := hc7)) hx hb hml hown hts hs0 hK hZ hH tw_1338 tw_1335 tw_1337 (sw_X12_areaOf) tw_9 hd_X12_areaOf mo_n0 mo_k0 (by decide) rfl rfl rfl ⟨Nat.le_trans (Nat.le_of_ble_eq_true rfl) hRf, Nat.le_trans (Nat.le_of_ble_eq_true rfl) hRl⟩ rfl hl.1 rfl (Nat.le_of_ble_eq_true rfl) dX12_area_23 ⟨Nat.zero_le _, Nat.zero_le _⟩) hH (fun H locs hH => ?_)
      have hH : nm_H D Y (fun q => s0 ≤ q) s.heap X moN ad (I, nJ0, moZ) H locs := hH
      refine lv_goto (tgt := 35) hx hb dX12_area_26 (by decide) ?_
      exact nm_iret hx hb hr hlocks hQ hH (congrArg Prod.fst (Option.some.inj hf)) (congrArg (fun q => (q.2, nJ0, moZ)) (Option.some.inj hf)) dX12_area_35
  · have hf := nm_it c1 hf
    refine lv_aload_n hx hb dX12_area_7 rfl (lv_at hl 0 rfl) ?_
    refine lv_bipush (v := -3) hx hb dX12_area_8 (by decide) ?_
    obtain ⟨r10, I8, hc9, hf⟩ := nm_sd2 hf
    refine nm_calli (nm_runV (X := X) (nl := moN) (k_X12_no (hf := hc9)) hx hb hml hown hts hs0 hK hZ hH tw_1214 tw_1211 tw_1213 (sw_X12_no) tw_9 hd_X12_no mo_n0 mo_k0 (by decide) rfl rfl rfl ⟨Nat.le_trans (Nat.le_of_ble_eq_true rfl) hRf, Nat.le_trans (Nat.le_of_ble_eq_true rfl) hRl⟩ rfl hl.1 rfl (Nat.le_of_ble_eq_true rfl) dX12_area_10 ⟨Nat.zero_le _, Nat.zero_le _⟩) hH (fun H locs hH => ?_)
    have hH : nm_H D Y (fun q => s0 ≤ q) s.heap X moN ad (I8, nJ0, moZ) H locs := hH
    exact nm_iret hx hb hr hlocks hQ hH (congrArg Prod.fst (Option.some.inj hf)) (congrArg (fun q => (q.2, nJ0, moZ)) (Option.some.inj hf)) dX12_area_13
def f_X12_covered (x1 : Int32) (x2 : Int32) (I : nm_I) : Option (Int32 × nm_I) :=
(if (f_X12_isLayer x1) = 0 then
nm_s2 (f_X12_no (-3 : Int32) I) fun r4 I2 =>
some (r4, I2)
else
(if (f_X12_isSquare x2) = 0 then
nm_s2 (f_X12_no (-3 : Int32) I) fun r14 I12 =>
some (r14, I12)
else
(if (I 0 20) = 0 then
nm_s2 (f_X12_no (-2 : Int32) I) fun r11 I9 =>
some (r11, I9)
else
nm_c (((4096 : Int32) * x1) + x2) 65536 (
(if (I 20 (((4096 : Int32) * x1) + x2).toNatClampNeg) = 0 then
some ((0 : Int32), I)
else
some ((1 : Int32), I))))))
set_option maxHeartbeats 4000000 in
set_option maxRecDepth 100000 in
theorem k_X12_covered {l : Launch} {D : va_G} {Y : nm_Y} {s0 : Nat} {X : va_W} {ad : Nat → Nat}  {x1 : Int32} {x2 : Int32} {I : nm_I} {r0 : Int32} {M0 : nm_I} (hf : f_X12_covered x1 x2 I = some (r0, M0)) :
    nm_Met l yX12_covered cX12_covered 3 (some .int) { frames := 1, cells := 0, slots := 0, locals := 21 } [.ref (ad 0), .int x1, .int x2] D Y s0 (nm_W Y X moN ad (I, nJ0, moZ)) (nm_Qi D s0 r0 (nm_W Y X moN ad (M0, nJ0, moZ))) 0 0 := by
  refine nm_of (by decide) (Nat.le_of_ble_eq_true rfl) ?_
  intro p e R s m args below meth c Q ls hx hb hr hlocks hml hown hts hs0 hK hZ hRf hRl hRc hRs hQ hP hD hl
  have hH : nm_H D Y (fun q => s0 ≤ q) s.heap X moN ad (I, nJ0, moZ) s.heap [] := ⟨hP, hD, va_S.rf⟩
  have hl : lv_has ls 3 [(0, .ref (ad 0)), (1, .int x1), (2, .int x2)] := hl
  unfold f_X12_covered at hf
  refine lv_iload_n hx hb dX12_covered_0 rfl (lv_at hl 1 rfl) ?_
  refine nm_calli (nm_runS (X := X) (nl := moN) (k_X12_isLayer (hf := (rfl : f_X12_isLayer x1 = _))) hx hb hml hown hts hs0 hK hZ hH tw_1231 tw_1229 tw_1230 tw_9 hd_X12_isLayer rfl rfl ⟨Nat.le_trans (Nat.le_of_ble_eq_true rfl) hRf, Nat.le_trans (Nat.le_of_ble_eq_true rfl) hRl⟩ rfl hl.1 rfl (Nat.le_of_ble_eq_true rfl) dX12_covered_1 ⟨Nat.zero_le _, Nat.zero_le _⟩) hH (fun H locs hH => ?_)
  have hH : nm_H D Y (fun q => s0 ≤ q) s.heap X moN ad (I, nJ0, moZ) H locs := hH
  refine lv_if_eq (tgt := 14) hx hb dX12_covered_4 (by decide) (fun c1 => ?_) (fun c1 => ?_)
  · have hf := nm_it c1 hf
    refine lv_aload_n hx hb dX12_covered_14 rfl (lv_at hl 0 rfl) ?_
    refine lv_bipush (v := -3) hx hb dX12_covered_15 (by decide) ?_
    obtain ⟨r4, I2, hc3, hf⟩ := nm_sd2 hf
    refine nm_calli (nm_runV (X := X) (nl := moN) (k_X12_no (hf := hc3)) hx hb hml hown hts hs0 hK hZ hH tw_1214 tw_1211 tw_1213 (sw_X12_no) tw_9 hd_X12_no mo_n0 mo_k0 (by decide) rfl rfl rfl ⟨Nat.le_trans (Nat.le_of_ble_eq_true rfl) hRf, Nat.le_trans (Nat.le_of_ble_eq_true rfl) hRl⟩ rfl hl.1 rfl (Nat.le_of_ble_eq_true rfl) dX12_covered_17 ⟨Nat.zero_le _, Nat.zero_le _⟩) hH (fun H locs hH => ?_)
    have hH : nm_H D Y (fun q => s0 ≤ q) s.heap X moN ad (I2, nJ0, moZ) H locs := hH
    exact nm_iret hx hb hr hlocks hQ hH (congrArg Prod.fst (Option.some.inj hf)) (congrArg (fun q => (q.2, nJ0, moZ)) (Option.some.inj hf)) dX12_covered_20
  · have hf := nm_ie c1 hf
    refine lv_iload_n hx hb dX12_covered_7 rfl (lv_at hl 2 rfl) ?_
    refine nm_calli (nm_runS (X := X) (nl := moN) (k_X12_isSquare (hf := (rfl : f_X12_isSquare x2 = _))) hx hb hml hown hts hs0 hK hZ hH tw_1210 tw_1208 tw_1209 tw_9 hd_X12_isSquare rfl rfl ⟨Nat.le_trans (Nat.le_of_ble_eq_true rfl) hRf, Nat.le_trans (Nat.le_of_ble_eq_true rfl) hRl⟩ rfl hl.1 rfl (Nat.le_of_ble_eq_true rfl) dX12_covered_8 ⟨Nat.zero_le _, Nat.zero_le _⟩) hH (fun H locs hH => ?_)
    have hH : nm_H D Y (fun q => s0 ≤ q) s.heap X moN ad (I, nJ0, moZ) H locs := hH
    refine lv_if_ne (tgt := 21) hx hb dX12_covered_11 (by decide) (fun c5 => ?_) (fun c5 => ?_)
    · have hf := nm_ie c5 hf
      refine lv_aload_n hx hb dX12_covered_21 rfl (lv_at hl 0 rfl) ?_
      refine gf_12_20 hK hx hb hts hown hH mo_n0 mo_k0 (hts _ tw_976) (fun _ h9 => h9) dX12_covered_22 ?_
      refine lv_if_ne (tgt := 35) hx hb dX12_covered_25 (by decide) (fun c6 => ?_) (fun c6 => ?_)
      · have hf := nm_ie c6 hf
        refine lv_aload_n hx hb dX12_covered_35 rfl (lv_at hl 0 rfl) ?_
        refine gf_12_19 hK hx hb hts hown hH mo_n0 mo_k0 (hts _ tw_975) (fun _ h9 => h9) dX12_covered_36 ?_
        refine lv_sipush (v := 4096) hx hb dX12_covered_39 (by decide) ?_
        refine lv_iload_n hx hb dX12_covered_42 rfl (lv_at hl 1 rfl) ?_
        refine lv_imul hx hb dX12_covered_43 ?_
        refine lv_iload_n hx hb dX12_covered_44 rfl (lv_at hl 2 rfl) ?_
        refine lv_iadd hx hb dX12_covered_45 ?_
        obtain ⟨hi7, hf⟩ := nm_chk hf
        refine nm_zald hx hb hK hH mo_n20 mo_k20 mo_l20 hi7 dX12_covered_46 ?_
        refine lv_if_eq (tgt := 54) hx hb dX12_covered_47 (by decide) (fun c8 => ?_) (fun c8 => ?_)
        · have hf := nm_it c8 hf
          refine lv_iconst (v := 0) hx hb dX12_covered_54 (by decide) ?_
          exact nm_iret hx hb hr hlocks hQ hH (congrArg Prod.fst (Option.some.inj hf)) (congrArg (fun q => (q.2, nJ0, moZ)) (Option.some.inj hf)) dX12_covered_55
        · have hf := nm_ie c8 hf
          refine lv_iconst (v := 1) hx hb dX12_covered_50 (by decide) ?_
          refine lv_goto (tgt := 55) hx hb dX12_covered_51 (by decide) ?_
          exact nm_iret hx hb hr hlocks hQ hH (congrArg Prod.fst (Option.some.inj hf)) (congrArg (fun q => (q.2, nJ0, moZ)) (Option.some.inj hf)) dX12_covered_55
      · have hf := nm_it c6 hf
        refine lv_aload_n hx hb dX12_covered_28 rfl (lv_at hl 0 rfl) ?_
        refine lv_bipush (v := -2) hx hb dX12_covered_29 (by decide) ?_
        obtain ⟨r11, I9, hc10, hf⟩ := nm_sd2 hf
        refine nm_calli (nm_runV (X := X) (nl := moN) (k_X12_no (hf := hc10)) hx hb hml hown hts hs0 hK hZ hH tw_1214 tw_1211 tw_1213 (sw_X12_no) tw_9 hd_X12_no mo_n0 mo_k0 (by decide) rfl rfl rfl ⟨Nat.le_trans (Nat.le_of_ble_eq_true rfl) hRf, Nat.le_trans (Nat.le_of_ble_eq_true rfl) hRl⟩ rfl hl.1 rfl (Nat.le_of_ble_eq_true rfl) dX12_covered_31 ⟨Nat.zero_le _, Nat.zero_le _⟩) hH (fun H locs hH => ?_)
        have hH : nm_H D Y (fun q => s0 ≤ q) s.heap X moN ad (I9, nJ0, moZ) H locs := hH
        exact nm_iret hx hb hr hlocks hQ hH (congrArg Prod.fst (Option.some.inj hf)) (congrArg (fun q => (q.2, nJ0, moZ)) (Option.some.inj hf)) dX12_covered_34
    · have hf := nm_it c5 hf
      refine lv_aload_n hx hb dX12_covered_14 rfl (lv_at hl 0 rfl) ?_
      refine lv_bipush (v := -3) hx hb dX12_covered_15 (by decide) ?_
      obtain ⟨r14, I12, hc13, hf⟩ := nm_sd2 hf
      refine nm_calli (nm_runV (X := X) (nl := moN) (k_X12_no (hf := hc13)) hx hb hml hown hts hs0 hK hZ hH tw_1214 tw_1211 tw_1213 (sw_X12_no) tw_9 hd_X12_no mo_n0 mo_k0 (by decide) rfl rfl rfl ⟨Nat.le_trans (Nat.le_of_ble_eq_true rfl) hRf, Nat.le_trans (Nat.le_of_ble_eq_true rfl) hRl⟩ rfl hl.1 rfl (Nat.le_of_ble_eq_true rfl) dX12_covered_17 ⟨Nat.zero_le _, Nat.zero_le _⟩) hH (fun H locs hH => ?_)
      have hH : nm_H D Y (fun q => s0 ≤ q) s.heap X moN ad (I12, nJ0, moZ) H locs := hH
      exact nm_iret hx hb hr hlocks hQ hH (congrArg Prod.fst (Option.some.inj hf)) (congrArg (fun q => (q.2, nJ0, moZ)) (Option.some.inj hf)) dX12_covered_20
def f_X12_pieces (x1 : Int32) (x2 : Int32) (I : nm_I) : Option (Int32 × nm_I) :=
(if (f_X12_isLayer x1) = 0 then
nm_s2 (f_X12_no (-3 : Int32) I) fun r16 I14 =>
some (r16, I14)
else
(if (I 0 20) = 0 then
nm_s2 (f_X12_no (-2 : Int32) I) fun r13 I11 =>
some (r13, I11)
else
nm_s1 (f_X12_findPieces ((4096 : Int32) * x1) x1 I) fun I3 =>
(if x2 = (-1 : Int32) then
some (I3 0 33, I3)
else
(if (f_X12_isIn x2.toInt64 (0 : Int64) (((I3 0 33) - (1 : Int32)).toInt64)) = 0 then
nm_s2 (f_X12_no (-3 : Int32) I3) fun r9 I7 =>
some (r9, I7)
else
nm_c x2 4096 (
some (I3 29 x2.toNatClampNeg, I3))))))
set_option maxHeartbeats 4000000 in
set_option maxRecDepth 100000 in
theorem k_X12_pieces {l : Launch} {D : va_G} {Y : nm_Y} {s0 : Nat} {X : va_W} {ad : Nat → Nat}  {x1 : Int32} {x2 : Int32} {I : nm_I} {r0 : Int32} {M0 : nm_I} (hf : f_X12_pieces x1 x2 I = some (r0, M0)) :
    nm_Met l yX12_pieces cX12_pieces 3 (some .int) { frames := 2, cells := 0, slots := 0, locals := 50 } [.ref (ad 0), .int x1, .int x2] D Y s0 (nm_W Y X moN ad (I, nJ0, moZ)) (nm_Qi D s0 r0 (nm_W Y X moN ad (M0, nJ0, moZ))) 0 0 := by
  refine nm_of (by decide) (Nat.le_of_ble_eq_true rfl) ?_
  intro p e R s m args below meth c Q ls hx hb hr hlocks hml hown hts hs0 hK hZ hRf hRl hRc hRs hQ hP hD hl
  have hH : nm_H D Y (fun q => s0 ≤ q) s.heap X moN ad (I, nJ0, moZ) s.heap [] := ⟨hP, hD, va_S.rf⟩
  have hl : lv_has ls 3 [(0, .ref (ad 0)), (1, .int x1), (2, .int x2)] := hl
  unfold f_X12_pieces at hf
  refine lv_iload_n hx hb dX12_pieces_0 rfl (lv_at hl 1 rfl) ?_
  refine nm_calli (nm_runS (X := X) (nl := moN) (k_X12_isLayer (hf := (rfl : f_X12_isLayer x1 = _))) hx hb hml hown hts hs0 hK hZ hH tw_1231 tw_1229 tw_1230 tw_9 hd_X12_isLayer rfl rfl ⟨Nat.le_trans (Nat.le_of_ble_eq_true rfl) hRf, Nat.le_trans (Nat.le_of_ble_eq_true rfl) hRl⟩ rfl hl.1 rfl (Nat.le_of_ble_eq_true rfl) dX12_pieces_1 ⟨Nat.zero_le _, Nat.zero_le _⟩) hH (fun H locs hH => ?_)
  have hH : nm_H D Y (fun q => s0 ≤ q) s.heap X moN ad (I, nJ0, moZ) H locs := hH
  refine lv_if_ne (tgt := 14) hx hb dX12_pieces_4 (by decide) (fun c1 => ?_) (fun c1 => ?_)
  · have hf := nm_ie c1 hf
    refine lv_aload_n hx hb dX12_pieces_14 rfl (lv_at hl 0 rfl) ?_
    refine gf_12_20 hK hx hb hts hown hH mo_n0 mo_k0 (hts _ tw_976) (fun _ h9 => h9) dX12_pieces_15 ?_
    refine lv_if_ne (tgt := 28) hx hb dX12_pieces_18 (by decide) (fun c2 => ?_) (fun c2 => ?_)
    · have hf := nm_ie c2 hf
      refine lv_aload_n hx hb dX12_pieces_28 rfl (lv_at hl 0 rfl) ?_
      refine lv_sipush (v := 4096) hx hb dX12_pieces_29 (by decide) ?_
      refine lv_iload_n hx hb dX12_pieces_32 rfl (lv_at hl 1 rfl) ?_
      refine lv_imul hx hb dX12_pieces_33 ?_
      refine lv_iload_n hx hb dX12_pieces_34 rfl (lv_at hl 1 rfl) ?_
      obtain ⟨I3, hc4, hf⟩ := nm_sd1 hf
      refine nm_callv (nm_runV (X := X) (nl := moN) (k_X12_findPieces (hf := hc4)) hx hb hml hown hts hs0 hK hZ hH tw_1318 tw_1315 tw_1317 (sw_X12_findPieces) tw_9 hd_X12_findPieces mo_n0 mo_k0 (by decide) rfl rfl rfl ⟨Nat.le_trans (Nat.le_of_ble_eq_true rfl) hRf, Nat.le_trans (Nat.le_of_ble_eq_true rfl) hRl⟩ rfl hl.1 rfl (Nat.le_of_ble_eq_true rfl) dX12_pieces_35 ⟨Nat.zero_le _, Nat.zero_le _⟩) hH (fun H locs hH => ?_)
      have hH : nm_H D Y (fun q => s0 ≤ q) s.heap X moN ad (I3, nJ0, moZ) H locs := hH
      refine lv_iload_n hx hb dX12_pieces_38 rfl (lv_at hl 2 rfl) ?_
      refine lv_iconst (v := -1) hx hb dX12_pieces_39 (by decide) ?_
      refine lv_icmp_ne (tgt := 48) hx hb dX12_pieces_40 (by decide) (fun c5 => ?_) (fun c5 => ?_)
      · have hf := nm_ie c5 hf
        refine lv_iload_n hx hb dX12_pieces_48 rfl (lv_at hl 2 rfl) ?_
        refine lv_i2l hx hb dX12_pieces_49 rfl ?_
        refine lv_lconst (v := 0) hx hb dX12_pieces_50 (by decide) ?_
        refine lv_aload_n hx hb dX12_pieces_51 rfl (lv_at hl 0 rfl) ?_
        refine gf_12_33 hK hx hb hts hown hH mo_n0 mo_k0 (hts _ tw_989) (fun _ h9 => h9) dX12_pieces_52 ?_
        refine lv_iconst (v := 1) hx hb dX12_pieces_55 (by decide) ?_
        refine lv_isub hx hb dX12_pieces_56 ?_
        refine lv_i2l hx hb dX12_pieces_57 rfl ?_
        refine nm_calli (nm_runS (X := X) (nl := moN) (k_X12_isIn (hf := (rfl : f_X12_isIn x2.toInt64 (0 : Int64) (((I3 0 33) - (1 : Int32)).toInt64) = _))) hx hb hml hown hts hs0 hK hZ hH tw_1207 tw_1205 tw_1206 tw_9 hd_X12_isIn rfl rfl ⟨Nat.le_trans (Nat.le_of_ble_eq_true rfl) hRf, Nat.le_trans (Nat.le_of_ble_eq_true rfl) hRl⟩ rfl hl.1 rfl (Nat.le_of_ble_eq_true rfl) dX12_pieces_58 ⟨Nat.zero_le _, Nat.zero_le _⟩) hH (fun H locs hH => ?_)
        have hH : nm_H D Y (fun q => s0 ≤ q) s.heap X moN ad (I3, nJ0, moZ) H locs := hH
        refine lv_if_eq (tgt := 73) hx hb dX12_pieces_61 (by decide) (fun c6 => ?_) (fun c6 => ?_)
        · have hf := nm_it c6 hf
          refine lv_aload_n hx hb dX12_pieces_73 rfl (lv_at hl 0 rfl) ?_
          refine lv_bipush (v := -3) hx hb dX12_pieces_74 (by decide) ?_
          obtain ⟨r9, I7, hc8, hf⟩ := nm_sd2 hf
          refine nm_calli (nm_runV (X := X) (nl := moN) (k_X12_no (hf := hc8)) hx hb hml hown hts hs0 hK hZ hH tw_1214 tw_1211 tw_1213 (sw_X12_no) tw_9 hd_X12_no mo_n0 mo_k0 (by decide) rfl rfl rfl ⟨Nat.le_trans (Nat.le_of_ble_eq_true rfl) hRf, Nat.le_trans (Nat.le_of_ble_eq_true rfl) hRl⟩ rfl hl.1 rfl (Nat.le_of_ble_eq_true rfl) dX12_pieces_76 ⟨Nat.zero_le _, Nat.zero_le _⟩) hH (fun H locs hH => ?_)
          have hH : nm_H D Y (fun q => s0 ≤ q) s.heap X moN ad (I7, nJ0, moZ) H locs := hH
          exact nm_iret hx hb hr hlocks hQ hH (congrArg Prod.fst (Option.some.inj hf)) (congrArg (fun q => (q.2, nJ0, moZ)) (Option.some.inj hf)) dX12_pieces_79
        · have hf := nm_ie c6 hf
          refine lv_aload_n hx hb dX12_pieces_64 rfl (lv_at hl 0 rfl) ?_
          refine gf_12_28 hK hx hb hts hown hH mo_n0 mo_k0 (hts _ tw_984) (fun _ h9 => h9) dX12_pieces_65 ?_
          refine lv_iload_n hx hb dX12_pieces_68 rfl (lv_at hl 2 rfl) ?_
          obtain ⟨hi10, hf⟩ := nm_chk hf
          refine nm_iald hx hb hK hH mo_n29 mo_k29 mo_l29 hi10 dX12_pieces_69 ?_
          refine lv_goto (tgt := 79) hx hb dX12_pieces_70 (by decide) ?_
          exact nm_iret hx hb hr hlocks hQ hH (congrArg Prod.fst (Option.some.inj hf)) (congrArg (fun q => (q.2, nJ0, moZ)) (Option.some.inj hf)) dX12_pieces_79
      · have hf := nm_it c5 hf
        refine lv_aload_n hx hb dX12_pieces_43 rfl (lv_at hl 0 rfl) ?_
        refine gf_12_33 hK hx hb hts hown hH mo_n0 mo_k0 (hts _ tw_989) (fun _ h9 => h9) dX12_pieces_44 ?_
        exact nm_iret hx hb hr hlocks hQ hH (congrArg Prod.fst (Option.some.inj hf)) (congrArg (fun q => (q.2, nJ0, moZ)) (Option.some.inj hf)) dX12_pieces_47
    · have hf := nm_it c2 hf
      refine lv_aload_n hx hb dX12_pieces_21 rfl (lv_at hl 0 rfl) ?_
      refine lv_bipush (v := -2) hx hb dX12_pieces_22 (by decide) ?_
      obtain ⟨r13, I11, hc12, hf⟩ := nm_sd2 hf
      refine nm_calli (nm_runV (X := X) (nl := moN) (k_X12_no (hf := hc12)) hx hb hml hown hts hs0 hK hZ hH tw_1214 tw_1211 tw_1213 (sw_X12_no) tw_9 hd_X12_no mo_n0 mo_k0 (by decide) rfl rfl rfl ⟨Nat.le_trans (Nat.le_of_ble_eq_true rfl) hRf, Nat.le_trans (Nat.le_of_ble_eq_true rfl) hRl⟩ rfl hl.1 rfl (Nat.le_of_ble_eq_true rfl) dX12_pieces_24 ⟨Nat.zero_le _, Nat.zero_le _⟩) hH (fun H locs hH => ?_)
      have hH : nm_H D Y (fun q => s0 ≤ q) s.heap X moN ad (I11, nJ0, moZ) H locs := hH
      exact nm_iret hx hb hr hlocks hQ hH (congrArg Prod.fst (Option.some.inj hf)) (congrArg (fun q => (q.2, nJ0, moZ)) (Option.some.inj hf)) dX12_pieces_27
  · have hf := nm_it c1 hf
    refine lv_aload_n hx hb dX12_pieces_7 rfl (lv_at hl 0 rfl) ?_
    refine lv_bipush (v := -3) hx hb dX12_pieces_8 (by decide) ?_
    obtain ⟨r16, I14, hc15, hf⟩ := nm_sd2 hf
    refine nm_calli (nm_runV (X := X) (nl := moN) (k_X12_no (hf := hc15)) hx hb hml hown hts hs0 hK hZ hH tw_1214 tw_1211 tw_1213 (sw_X12_no) tw_9 hd_X12_no mo_n0 mo_k0 (by decide) rfl rfl rfl ⟨Nat.le_trans (Nat.le_of_ble_eq_true rfl) hRf, Nat.le_trans (Nat.le_of_ble_eq_true rfl) hRl⟩ rfl hl.1 rfl (Nat.le_of_ble_eq_true rfl) dX12_pieces_10 ⟨Nat.zero_le _, Nat.zero_le _⟩) hH (fun H locs hH => ?_)
    have hH : nm_H D Y (fun q => s0 ≤ q) s.heap X moN ad (I14, nJ0, moZ) H locs := hH
    exact nm_iret hx hb hr hlocks hQ hH (congrArg Prod.fst (Option.some.inj hf)) (congrArg (fun q => (q.2, nJ0, moZ)) (Option.some.inj hf)) dX12_pieces_13
def f_X12_rule_J74 (x1 : Int32) (x2 : Int32) (x3 : Int32) (x4 : Int32) (t74_2 : Int64) (t74_1 : Int64) (t74_0 : Int64) (I : nm_I) : Option (Int32 × nm_I) :=
(if (f_X12_isIn t74_0 t74_1 t74_2) = 0 then
nm_s2 (f_X12_no (-7 : Int32) I) fun r22 I20 =>
some (r22, I20)
else
(if (I 0 39) = (16 : Int32) then
nm_s2 (f_X12_no (-8 : Int32) I) fun r19 I17 =>
some (r19, I17)
else
nm_c (I 0 39) 16 (
nm_l (nm_up I 36 ((I 0 39).toNatClampNeg) x1) fun I9 =>
nm_c (I9 0 39) 16 (
nm_l (nm_up I9 37 ((I9 0 39).toNatClampNeg) x2) fun I11 =>
nm_c (I11 0 39) 16 (
nm_l (nm_up I11 38 ((I11 0 39).toNatClampNeg) x3) fun I13 =>
nm_c (I13 0 39) 16 (
nm_l (nm_up I13 39 ((I13 0 39).toNatClampNeg) x4) fun I15 =>
nm_l (nm_up I15 0 39 ((I15 0 39) + (1 : Int32))) fun I16 =>
some ((I16 0 39) - (1 : Int32), I16)))))))
def f_X12_rule_J45 (x1 : Int32) (x2 : Int32) (x3 : Int32) (x4 : Int32) (I : nm_I) : Option (Int32 × nm_I) :=
(if (2 : Int32) ≤ x1 then
(if x1 = (2 : Int32) then
f_X12_rule_J74 x1 x2 x3 x4 (9 : Int64) (0 : Int64) x4.toInt64 I
else
f_X12_rule_J74 x1 x2 x3 x4 (4096 : Int64) (0 : Int64) x4.toInt64 I)
else
f_X12_rule_J74 x1 x2 x3 x4 (64 : Int64) (0 : Int64) x4.toInt64 I)
def f_X12_rule (x1 : Int32) (x2 : Int32) (x3 : Int32) (x4 : Int32) (I : nm_I) : Option (Int32 × nm_I) :=
(if (f_X12_isIn x1.toInt64 (0 : Int64) (4 : Int64)) = 0 then
nm_s2 (f_X12_no (-7 : Int32) I) fun r32 I30 =>
some (r32, I30)
else
(if (f_X12_isLayer x2) = 0 then
nm_s2 (f_X12_no (-3 : Int32) I) fun r5 I3 =>
some (r5, I3)
else
(if x1 = (2 : Int32) then
(if (f_X12_isLayer x3) = 0 then
nm_s2 (f_X12_no (-3 : Int32) I) fun r29 I27 =>
some (r29, I27)
else
f_X12_rule_J45 x1 x2 x3 x4 I)
else
f_X12_rule_J45 x1 x2 x3 x4 I)))
set_option maxHeartbeats 4000000 in
set_option maxRecDepth 100000 in
theorem k_X12_rule {l : Launch} {D : va_G} {Y : nm_Y} {s0 : Nat} {X : va_W} {ad : Nat → Nat}  {x1 : Int32} {x2 : Int32} {x3 : Int32} {x4 : Int32} {I : nm_I} {r0 : Int32} {M0 : nm_I} (hf : f_X12_rule x1 x2 x3 x4 I = some (r0, M0)) :
    nm_Met l yX12_rule cX12_rule 5 (some .int) { frames := 1, cells := 0, slots := 0, locals := 25 } [.ref (ad 0), .int x1, .int x2, .int x3, .int x4] D Y s0 (nm_W Y X moN ad (I, nJ0, moZ)) (nm_Qi D s0 r0 (nm_W Y X moN ad (M0, nJ0, moZ))) 0 0 := by
  refine nm_of (by decide) (Nat.le_of_ble_eq_true rfl) ?_
  intro p e R s m args below meth c Q ls hx hb hr hlocks hml hown hts hs0 hK hZ hRf hRl hRc hRs hQ hP hD hl
  have hH : nm_H D Y (fun q => s0 ≤ q) s.heap X moN ad (I, nJ0, moZ) s.heap [] := ⟨hP, hD, va_S.rf⟩
  have hl : lv_has ls 5 [(0, .ref (ad 0)), (1, .int x1), (2, .int x2), (3, .int x3), (4, .int x4)] := hl
  unfold f_X12_rule at hf
  refine lv_iload_n hx hb dX12_rule_0 rfl (lv_at hl 1 rfl) ?_
  refine lv_i2l hx hb dX12_rule_1 rfl ?_
  refine lv_lconst (v := 0) hx hb dX12_rule_2 (by decide) ?_
  refine lv_ldc2 hx hb hown (hts _ tw_1249) dX12_rule_3 ?_
  refine nm_calli (nm_runS (X := X) (nl := moN) (k_X12_isIn (hf := (rfl : f_X12_isIn x1.toInt64 (0 : Int64) (4 : Int64) = _))) hx hb hml hown hts hs0 hK hZ hH tw_1207 tw_1205 tw_1206 tw_9 hd_X12_isIn rfl rfl ⟨Nat.le_trans (Nat.le_of_ble_eq_true rfl) hRf, Nat.le_trans (Nat.le_of_ble_eq_true rfl) hRl⟩ rfl hl.1 rfl (Nat.le_of_ble_eq_true rfl) dX12_rule_6 ⟨Nat.zero_le _, Nat.zero_le _⟩) hH (fun H locs hH => ?_)
  have hH : nm_H D Y (fun q => s0 ≤ q) s.heap X moN ad (I, nJ0, moZ) H locs := hH
  refine lv_if_ne (tgt := 19) hx hb dX12_rule_9 (by decide) (fun c1 => ?_) (fun c1 => ?_)
  · have hf := nm_ie c1 hf
    refine lv_iload_n hx hb dX12_rule_19 rfl (lv_at hl 2 rfl) ?_
    refine nm_calli (nm_runS (X := X) (nl := moN) (k_X12_isLayer (hf := (rfl : f_X12_isLayer x2 = _))) hx hb hml hown hts hs0 hK hZ hH tw_1231 tw_1229 tw_1230 tw_9 hd_X12_isLayer rfl rfl ⟨Nat.le_trans (Nat.le_of_ble_eq_true rfl) hRf, Nat.le_trans (Nat.le_of_ble_eq_true rfl) hRl⟩ rfl hl.1 rfl (Nat.le_of_ble_eq_true rfl) dX12_rule_20 ⟨Nat.zero_le _, Nat.zero_le _⟩) hH (fun H locs hH => ?_)
    have hH : nm_H D Y (fun q => s0 ≤ q) s.heap X moN ad (I, nJ0, moZ) H locs := hH
    refine lv_if_eq (tgt := 38) hx hb dX12_rule_23 (by decide) (fun c2 => ?_) (fun c2 => ?_)
    · have hf := nm_it c2 hf
      refine lv_aload_n hx hb dX12_rule_38 rfl (lv_at hl 0 rfl) ?_
      refine lv_bipush (v := -3) hx hb dX12_rule_39 (by decide) ?_
      obtain ⟨r5, I3, hc4, hf⟩ := nm_sd2 hf
      refine nm_calli (nm_runV (X := X) (nl := moN) (k_X12_no (hf := hc4)) hx hb hml hown hts hs0 hK hZ hH tw_1214 tw_1211 tw_1213 (sw_X12_no) tw_9 hd_X12_no mo_n0 mo_k0 (by decide) rfl rfl rfl ⟨Nat.le_trans (Nat.le_of_ble_eq_true rfl) hRf, Nat.le_trans (Nat.le_of_ble_eq_true rfl) hRl⟩ rfl hl.1 rfl (Nat.le_of_ble_eq_true rfl) dX12_rule_41 ⟨Nat.zero_le _, Nat.zero_le _⟩) hH (fun H locs hH => ?_)
      have hH : nm_H D Y (fun q => s0 ≤ q) s.heap X moN ad (I3, nJ0, moZ) H locs := hH
      exact nm_iret hx hb hr hlocks hQ hH (congrArg Prod.fst (Option.some.inj hf)) (congrArg (fun q => (q.2, nJ0, moZ)) (Option.some.inj hf)) dX12_rule_44
    · have hf := nm_ie c2 hf
      refine lv_iload_n hx hb dX12_rule_26 rfl (lv_at hl 1 rfl) ?_
      refine lv_iconst (v := 2) hx hb dX12_rule_27 (by decide) ?_
      have hJ45 : ∀  (H : Heap) (locs : List Loc) (ls : Array Slot), nm_H D Y (fun q => s0 ≤ q) s.heap X moN ad (I, nJ0, moZ) H locs → lv_has ls 5 [(0, .ref (ad 0)), (1, .int x1), (2, .int x2), (3, .int x3), (4, .int x4)] → f_X12_rule_J45 x1 x2 x3 x4 I = some (r0, M0) → W p l e R s m args below meth c H locs 0 0 Q (F0 m 45 ls []) := by
        intro  H locs ls hH hl hf
        unfold f_X12_rule_J45 at hf
        refine lv_iload hx hb dX12_rule_45 (lv_at hl 4 rfl) ?_
        refine lv_i2l hx hb dX12_rule_47 rfl ?_
        refine lv_lconst (v := 0) hx hb dX12_rule_48 (by decide) ?_
        refine lv_iload_n hx hb dX12_rule_49 rfl (lv_at hl 1 rfl) ?_
        refine lv_iconst (v := 2) hx hb dX12_rule_50 (by decide) ?_
        have hJ74 : ∀ (t74_2 : Int64) (t74_1 : Int64) (t74_0 : Int64) (H : Heap) (locs : List Loc) (ls : Array Slot), nm_H D Y (fun q => s0 ≤ q) s.heap X moN ad (I, nJ0, moZ) H locs → lv_has ls 5 [(0, .ref (ad 0)), (1, .int x1), (2, .int x2), (3, .int x3), (4, .int x4)] → f_X12_rule_J74 x1 x2 x3 x4 t74_2 t74_1 t74_0 I = some (r0, M0) → W p l e R s m args below meth c H locs 0 0 Q (F0 m 74 ls [.long t74_2, .long t74_1, .long t74_0]) := by
          intro t74_2 t74_1 t74_0 H locs ls hH hl hf
          unfold f_X12_rule_J74 at hf
          refine nm_calli (nm_runS (X := X) (nl := moN) (k_X12_isIn (hf := (rfl : f_X12_isIn t74_0 t74_1 t74_2 = _))) hx hb hml hown hts hs0 hK hZ hH tw_1207 tw_1205 tw_1206 tw_9 hd_X12_isIn rfl rfl ⟨Nat.le_trans (Nat.le_of_ble_eq_true rfl) hRf, Nat.le_trans (Nat.le_of_ble_eq_true rfl) hRl⟩ rfl hl.1 rfl (Nat.le_of_ble_eq_true rfl) dX12_rule_74 ⟨Nat.zero_le _, Nat.zero_le _⟩) hH (fun H locs hH => ?_)
          have hH : nm_H D Y (fun q => s0 ≤ q) s.heap X moN ad (I, nJ0, moZ) H locs := hH
          refine lv_if_ne (tgt := 87) hx hb dX12_rule_77 (by decide) (fun c6 => ?_) (fun c6 => ?_)
          · have hf := nm_ie c6 hf
            refine lv_aload_n hx hb dX12_rule_87 rfl (lv_at hl 0 rfl) ?_
            refine gf_12_39 hK hx hb hts hown hH mo_n0 mo_k0 (hts _ tw_995) (fun _ h9 => h9) dX12_rule_88 ?_
            refine lv_bipush (v := 16) hx hb dX12_rule_91 (by decide) ?_
            refine lv_icmp_ne (tgt := 103) hx hb dX12_rule_93 (by decide) (fun c7 => ?_) (fun c7 => ?_)
            · have hf := nm_ie c7 hf
              refine lv_aload_n hx hb dX12_rule_103 rfl (lv_at hl 0 rfl) ?_
              refine gf_12_35 hK hx hb hts hown hH mo_n0 mo_k0 (hts _ tw_991) (fun _ h9 => h9) dX12_rule_104 ?_
              refine lv_aload_n hx hb dX12_rule_107 rfl (lv_at hl 0 rfl) ?_
              refine gf_12_39 hK hx hb hts hown hH mo_n0 mo_k0 (hts _ tw_995) (fun _ h9 => h9) dX12_rule_108 ?_
              refine lv_iload_n hx hb dX12_rule_111 rfl (lv_at hl 1 rfl) ?_
              obtain ⟨hi8, hf⟩ := nm_chk hf
              obtain ⟨I9, eI9, hf⟩ := nm_let hf
              refine nm_iast hx hb hK hH mo_n36 mo_k36 mo_l36 hi8 dX12_rule_112 (fun H locs hH => ?_)
              have hH : nm_H D Y (fun q => s0 ≤ q) s.heap X moN ad (I9, nJ0, moZ) H locs := by rw [eI9]; exact hH
              refine lv_aload_n hx hb dX12_rule_113 rfl (lv_at hl 0 rfl) ?_
              refine gf_12_36 hK hx hb hts hown hH mo_n0 mo_k0 (hts _ tw_992) (fun _ h9 => h9) dX12_rule_114 ?_
              refine lv_aload_n hx hb dX12_rule_117 rfl (lv_at hl 0 rfl) ?_
              refine gf_12_39 hK hx hb hts hown hH mo_n0 mo_k0 (hts _ tw_995) (fun _ h9 => h9) dX12_rule_118 ?_
              refine lv_iload_n hx hb dX12_rule_121 rfl (lv_at hl 2 rfl) ?_
              obtain ⟨hi10, hf⟩ := nm_chk hf
              obtain ⟨I11, eI11, hf⟩ := nm_let hf
              refine nm_iast hx hb hK hH mo_n37 mo_k37 mo_l37 hi10 dX12_rule_122 (fun H locs hH => ?_)
              have hH : nm_H D Y (fun q => s0 ≤ q) s.heap X moN ad (I11, nJ0, moZ) H locs := by rw [eI11]; exact hH
              refine lv_aload_n hx hb dX12_rule_123 rfl (lv_at hl 0 rfl) ?_
              refine gf_12_37 hK hx hb hts hown hH mo_n0 mo_k0 (hts _ tw_993) (fun _ h9 => h9) dX12_rule_124 ?_
              refine lv_aload_n hx hb dX12_rule_127 rfl (lv_at hl 0 rfl) ?_
              refine gf_12_39 hK hx hb hts hown hH mo_n0 mo_k0 (hts _ tw_995) (fun _ h9 => h9) dX12_rule_128 ?_
              refine lv_iload_n hx hb dX12_rule_131 rfl (lv_at hl 3 rfl) ?_
              obtain ⟨hi12, hf⟩ := nm_chk hf
              obtain ⟨I13, eI13, hf⟩ := nm_let hf
              refine nm_iast hx hb hK hH mo_n38 mo_k38 mo_l38 hi12 dX12_rule_132 (fun H locs hH => ?_)
              have hH : nm_H D Y (fun q => s0 ≤ q) s.heap X moN ad (I13, nJ0, moZ) H locs := by rw [eI13]; exact hH
              refine lv_aload_n hx hb dX12_rule_133 rfl (lv_at hl 0 rfl) ?_
              refine gf_12_38 hK hx hb hts hown hH mo_n0 mo_k0 (hts _ tw_994) (fun _ h9 => h9) dX12_rule_134 ?_
              refine lv_aload_n hx hb dX12_rule_137 rfl (lv_at hl 0 rfl) ?_
              refine gf_12_39 hK hx hb hts hown hH mo_n0 mo_k0 (hts _ tw_995) (fun _ h9 => h9) dX12_rule_138 ?_
              refine lv_iload hx hb dX12_rule_141 (lv_at hl 4 rfl) ?_
              obtain ⟨hi14, hf⟩ := nm_chk hf
              obtain ⟨I15, eI15, hf⟩ := nm_let hf
              refine nm_iast hx hb hK hH mo_n39 mo_k39 mo_l39 hi14 dX12_rule_143 (fun H locs hH => ?_)
              have hH : nm_H D Y (fun q => s0 ≤ q) s.heap X moN ad (I15, nJ0, moZ) H locs := by rw [eI15]; exact hH
              refine lv_aload_n hx hb dX12_rule_144 rfl (lv_at hl 0 rfl) ?_
              refine lv_dup hx hb dX12_rule_145 rfl ?_
              refine gf_12_39 hK hx hb hts hown hH mo_n0 mo_k0 (hts _ tw_995) (fun _ h9 => h9) dX12_rule_146 ?_
              refine lv_iconst (v := 1) hx hb dX12_rule_149 (by decide) ?_
              refine lv_iadd hx hb dX12_rule_150 ?_
              obtain ⟨I16, eI16, hf⟩ := nm_let hf
              refine pf_12_39 hK hx hb hts hown hH mo_n0 mo_k0 (hts _ tw_995) (fun _ h9 => h9) dX12_rule_151 (fun H locs hH => ?_)
              have hH : nm_H D Y (fun q => s0 ≤ q) s.heap X moN ad (I16, nJ0, moZ) H locs := by rw [eI16]; exact hH
              refine lv_aload_n hx hb dX12_rule_154 rfl (lv_at hl 0 rfl) ?_
              refine gf_12_39 hK hx hb hts hown hH mo_n0 mo_k0 (hts _ tw_995) (fun _ h9 => h9) dX12_rule_155 ?_
              refine lv_iconst (v := 1) hx hb dX12_rule_158 (by decide) ?_
              refine lv_isub hx hb dX12_rule_159 ?_
              exact nm_iret hx hb hr hlocks hQ hH (congrArg Prod.fst (Option.some.inj hf)) (congrArg (fun q => (q.2, nJ0, moZ)) (Option.some.inj hf)) dX12_rule_160
            · have hf := nm_it c7 hf
              refine lv_aload_n hx hb dX12_rule_96 rfl (lv_at hl 0 rfl) ?_
              refine lv_bipush (v := -8) hx hb dX12_rule_97 (by decide) ?_
              obtain ⟨r19, I17, hc18, hf⟩ := nm_sd2 hf
              refine nm_calli (nm_runV (X := X) (nl := moN) (k_X12_no (hf := hc18)) hx hb hml hown hts hs0 hK hZ hH tw_1214 tw_1211 tw_1213 (sw_X12_no) tw_9 hd_X12_no mo_n0 mo_k0 (by decide) rfl rfl rfl ⟨Nat.le_trans (Nat.le_of_ble_eq_true rfl) hRf, Nat.le_trans (Nat.le_of_ble_eq_true rfl) hRl⟩ rfl hl.1 rfl (Nat.le_of_ble_eq_true rfl) dX12_rule_99 ⟨Nat.zero_le _, Nat.zero_le _⟩) hH (fun H locs hH => ?_)
              have hH : nm_H D Y (fun q => s0 ≤ q) s.heap X moN ad (I17, nJ0, moZ) H locs := hH
              exact nm_iret hx hb hr hlocks hQ hH (congrArg Prod.fst (Option.some.inj hf)) (congrArg (fun q => (q.2, nJ0, moZ)) (Option.some.inj hf)) dX12_rule_102
          · have hf := nm_it c6 hf
            refine lv_aload_n hx hb dX12_rule_80 rfl (lv_at hl 0 rfl) ?_
            refine lv_bipush (v := -7) hx hb dX12_rule_81 (by decide) ?_
            obtain ⟨r22, I20, hc21, hf⟩ := nm_sd2 hf
            refine nm_calli (nm_runV (X := X) (nl := moN) (k_X12_no (hf := hc21)) hx hb hml hown hts hs0 hK hZ hH tw_1214 tw_1211 tw_1213 (sw_X12_no) tw_9 hd_X12_no mo_n0 mo_k0 (by decide) rfl rfl rfl ⟨Nat.le_trans (Nat.le_of_ble_eq_true rfl) hRf, Nat.le_trans (Nat.le_of_ble_eq_true rfl) hRl⟩ rfl hl.1 rfl (Nat.le_of_ble_eq_true rfl) dX12_rule_83 ⟨Nat.zero_le _, Nat.zero_le _⟩) hH (fun H locs hH => ?_)
            have hH : nm_H D Y (fun q => s0 ≤ q) s.heap X moN ad (I20, nJ0, moZ) H locs := hH
            exact nm_iret hx hb hr hlocks hQ hH (congrArg Prod.fst (Option.some.inj hf)) (congrArg (fun q => (q.2, nJ0, moZ)) (Option.some.inj hf)) dX12_rule_86
        refine lv_icmp_ge (tgt := 60) hx hb dX12_rule_51 (by decide) (fun c23 => ?_) (fun c23 => ?_)
        · have hf := nm_it c23 hf
          refine lv_iload_n hx hb dX12_rule_60 rfl (lv_at hl 1 rfl) ?_
          refine lv_iconst (v := 2) hx hb dX12_rule_61 (by decide) ?_
          refine lv_icmp_ne (tgt := 71) hx hb dX12_rule_62 (by decide) (fun c24 => ?_) (fun c24 => ?_)
          · have hf := nm_ie c24 hf
            refine lv_ldc2 hx hb hown (hts _ tw_1351) dX12_rule_71 ?_
            exact hJ74 (4096 : Int64) (0 : Int64) x4.toInt64 _ _ _ hH (lv_sub hl [0, 1, 2, 3, 4] rfl) hf
          · have hf := nm_it c24 hf
            refine lv_ldc2 hx hb hown (hts _ tw_1224) dX12_rule_65 ?_
            refine lv_goto (tgt := 74) hx hb dX12_rule_68 (by decide) ?_
            exact hJ74 (9 : Int64) (0 : Int64) x4.toInt64 _ _ _ hH (lv_sub hl [0, 1, 2, 3, 4] rfl) hf
        · have hf := nm_ie c23 hf
          refine lv_ldc2 hx hb hown (hts _ tw_1215) dX12_rule_54 ?_
          refine lv_goto (tgt := 74) hx hb dX12_rule_57 (by decide) ?_
          exact hJ74 (64 : Int64) (0 : Int64) x4.toInt64 _ _ _ hH (lv_sub hl [0, 1, 2, 3, 4] rfl) hf
      refine lv_icmp_ne (tgt := 45) hx hb dX12_rule_28 (by decide) (fun c25 => ?_) (fun c25 => ?_)
      · have hf := nm_ie c25 hf
        exact hJ45  _ _ _ hH (lv_sub hl [0, 1, 2, 3, 4] rfl) hf
      · have hf := nm_it c25 hf
        refine lv_iload_n hx hb dX12_rule_31 rfl (lv_at hl 3 rfl) ?_
        refine nm_calli (nm_runS (X := X) (nl := moN) (k_X12_isLayer (hf := (rfl : f_X12_isLayer x3 = _))) hx hb hml hown hts hs0 hK hZ hH tw_1231 tw_1229 tw_1230 tw_9 hd_X12_isLayer rfl rfl ⟨Nat.le_trans (Nat.le_of_ble_eq_true rfl) hRf, Nat.le_trans (Nat.le_of_ble_eq_true rfl) hRl⟩ rfl hl.1 rfl (Nat.le_of_ble_eq_true rfl) dX12_rule_32 ⟨Nat.zero_le _, Nat.zero_le _⟩) hH (fun H locs hH => ?_)
        have hH : nm_H D Y (fun q => s0 ≤ q) s.heap X moN ad (I, nJ0, moZ) H locs := hH
        refine lv_if_ne (tgt := 45) hx hb dX12_rule_35 (by decide) (fun c26 => ?_) (fun c26 => ?_)
        · have hf := nm_ie c26 hf
          exact hJ45  _ _ _ hH (lv_sub hl [0, 1, 2, 3, 4] rfl) hf
        · have hf := nm_it c26 hf
          refine lv_aload_n hx hb dX12_rule_38 rfl (lv_at hl 0 rfl) ?_
          refine lv_bipush (v := -3) hx hb dX12_rule_39 (by decide) ?_
          obtain ⟨r29, I27, hc28, hf⟩ := nm_sd2 hf
          refine nm_calli (nm_runV (X := X) (nl := moN) (k_X12_no (hf := hc28)) hx hb hml hown hts hs0 hK hZ hH tw_1214 tw_1211 tw_1213 (sw_X12_no) tw_9 hd_X12_no mo_n0 mo_k0 (by decide) rfl rfl rfl ⟨Nat.le_trans (Nat.le_of_ble_eq_true rfl) hRf, Nat.le_trans (Nat.le_of_ble_eq_true rfl) hRl⟩ rfl hl.1 rfl (Nat.le_of_ble_eq_true rfl) dX12_rule_41 ⟨Nat.zero_le _, Nat.zero_le _⟩) hH (fun H locs hH => ?_)
          have hH : nm_H D Y (fun q => s0 ≤ q) s.heap X moN ad (I27, nJ0, moZ) H locs := hH
          exact nm_iret hx hb hr hlocks hQ hH (congrArg Prod.fst (Option.some.inj hf)) (congrArg (fun q => (q.2, nJ0, moZ)) (Option.some.inj hf)) dX12_rule_44
  · have hf := nm_it c1 hf
    refine lv_aload_n hx hb dX12_rule_12 rfl (lv_at hl 0 rfl) ?_
    refine lv_bipush (v := -7) hx hb dX12_rule_13 (by decide) ?_
    obtain ⟨r32, I30, hc31, hf⟩ := nm_sd2 hf
    refine nm_calli (nm_runV (X := X) (nl := moN) (k_X12_no (hf := hc31)) hx hb hml hown hts hs0 hK hZ hH tw_1214 tw_1211 tw_1213 (sw_X12_no) tw_9 hd_X12_no mo_n0 mo_k0 (by decide) rfl rfl rfl ⟨Nat.le_trans (Nat.le_of_ble_eq_true rfl) hRf, Nat.le_trans (Nat.le_of_ble_eq_true rfl) hRl⟩ rfl hl.1 rfl (Nat.le_of_ble_eq_true rfl) dX12_rule_15 ⟨Nat.zero_le _, Nat.zero_le _⟩) hH (fun H locs hH => ?_)
    have hH : nm_H D Y (fun q => s0 ≤ q) s.heap X moN ad (I30, nJ0, moZ) H locs := hH
    exact nm_iret hx hb hr hlocks hQ hH (congrArg Prod.fst (Option.some.inj hf)) (congrArg (fun q => (q.2, nJ0, moZ)) (Option.some.inj hf)) dX12_rule_18
def f_X12_fault_J89 (x1 : Int32) (I4 : nm_I) : Option (nm_I) :=
nm_c x1 16 (
nm_c x1 16 (
nm_l (nm_up I4 45 x1.toNatClampNeg ((I4 45 x1.toNatClampNeg) + (1 : Int32))) fun I7 =>
some I7))
def f_X12_fault_J81 (x1 : Int32) (x4 : Int32) (I2 : nm_I) : Option (nm_I) :=
nm_c x1 16 (
nm_l (nm_up I2 46 x1.toNatClampNeg x4) fun I9 =>
f_X12_fault_J89 x1 I9)
def f_X12_fault_J51 (x1 : Int32) (x4 : Int32) (I1 : nm_I) : Option (nm_I) :=
nm_l (nm_up I1 0 46 ((I1 0 46) + (1 : Int32))) fun I2 =>
nm_c x1 16 (
(if (I2 45 x1.toNatClampNeg) = 0 then
f_X12_fault_J81 x1 x4 I2
else
nm_c x1 16 (
(if (I2 46 x1.toNatClampNeg) ≤ x4 then
f_X12_fault_J89 x1 I2
else
f_X12_fault_J81 x1 x4 I2))))
def f_X12_fault (x1 : Int32) (x2 : Int32) (x3 : Int32) (x4 : Int32) (I : nm_I) : Option (nm_I) :=
(if (600 : Int32) ≤ (I 0 46) then
f_X12_fault_J51 x1 x4 I
else
nm_c (I 0 46) 600 (
nm_l (nm_up I 41 ((I 0 46).toNatClampNeg) x1) fun I15 =>
nm_c (I15 0 46) 600 (
nm_l (nm_up I15 42 ((I15 0 46).toNatClampNeg) x2) fun I17 =>
nm_c (I17 0 46) 600 (
nm_l (nm_up I17 43 ((I17 0 46).toNatClampNeg) x3) fun I19 =>
nm_c (I19 0 46) 600 (
nm_l (nm_up I19 44 ((I19 0 46).toNatClampNeg) x4) fun I21 =>
f_X12_fault_J51 x1 x4 I21)))))
set_option maxHeartbeats 4000000 in
set_option maxRecDepth 100000 in
theorem k_X12_fault {l : Launch} {D : va_G} {Y : nm_Y} {s0 : Nat} {X : va_W} {ad : Nat → Nat}  {x1 : Int32} {x2 : Int32} {x3 : Int32} {x4 : Int32} {I : nm_I} {M0 : nm_I} (hf : f_X12_fault x1 x2 x3 x4 I = some M0) :
    nm_Met l yX12_fault cX12_fault 5 none { frames := 0, cells := 0, slots := 0, locals := 0 } [.ref (ad 0), .int x1, .int x2, .int x3, .int x4] D Y s0 (nm_W Y X moN ad (I, nJ0, moZ)) (nm_Qv D s0 (nm_W Y X moN ad (M0, nJ0, moZ))) 0 0 := by
  refine nm_of (by decide) (Nat.le_of_ble_eq_true rfl) ?_
  intro p e R s m args below meth c Q ls hx hb hr hlocks hml hown hts hs0 hK hZ hRf hRl hRc hRs hQ hP hD hl
  have hH : nm_H D Y (fun q => s0 ≤ q) s.heap X moN ad (I, nJ0, moZ) s.heap [] := ⟨hP, hD, va_S.rf⟩
  have hl : lv_has ls 5 [(0, .ref (ad 0)), (1, .int x1), (2, .int x2), (3, .int x3), (4, .int x4)] := hl
  unfold f_X12_fault at hf
  refine lv_aload_n hx hb dX12_fault_0 rfl (lv_at hl 0 rfl) ?_
  refine gf_12_46 hK hx hb hts hown hH mo_n0 mo_k0 (hts _ tw_1002) (fun _ h9 => h9) dX12_fault_1 ?_
  refine lv_sipush (v := 600) hx hb dX12_fault_4 (by decide) ?_
  have hJ51 : ∀ (I1 : nm_I) (H : Heap) (locs : List Loc) (ls : Array Slot), nm_H D Y (fun q => s0 ≤ q) s.heap X moN ad (I1, nJ0, moZ) H locs → lv_has ls 5 [(0, .ref (ad 0)), (1, .int x1), (4, .int x4)] → f_X12_fault_J51 x1 x4 I1 = some M0 → W p l e R s m args below meth c H locs 0 0 Q (F0 m 51 ls []) := by
    intro I1 H locs ls hH hl hf
    unfold f_X12_fault_J51 at hf
    refine lv_aload_n hx hb dX12_fault_51 rfl (lv_at hl 0 rfl) ?_
    refine lv_dup hx hb dX12_fault_52 rfl ?_
    refine gf_12_46 hK hx hb hts hown hH mo_n0 mo_k0 (hts _ tw_1002) (fun _ h9 => h9) dX12_fault_53 ?_
    refine lv_iconst (v := 1) hx hb dX12_fault_56 (by decide) ?_
    refine lv_iadd hx hb dX12_fault_57 ?_
    obtain ⟨I2, eI2, hf⟩ := nm_let hf
    refine pf_12_46 hK hx hb hts hown hH mo_n0 mo_k0 (hts _ tw_1002) (fun _ h9 => h9) dX12_fault_58 (fun H locs hH => ?_)
    have hH : nm_H D Y (fun q => s0 ≤ q) s.heap X moN ad (I2, nJ0, moZ) H locs := by rw [eI2]; exact hH
    refine lv_aload_n hx hb dX12_fault_61 rfl (lv_at hl 0 rfl) ?_
    refine gf_12_44 hK hx hb hts hown hH mo_n0 mo_k0 (hts _ tw_1000) (fun _ h9 => h9) dX12_fault_62 ?_
    refine lv_iload_n hx hb dX12_fault_65 rfl (lv_at hl 1 rfl) ?_
    obtain ⟨hi3, hf⟩ := nm_chk hf
    refine nm_iald hx hb hK hH mo_n45 mo_k45 mo_l45 hi3 dX12_fault_66 ?_
    have hJ89 : ∀ (I4 : nm_I) (H : Heap) (locs : List Loc) (ls : Array Slot), nm_H D Y (fun q => s0 ≤ q) s.heap X moN ad (I4, nJ0, moZ) H locs → lv_has ls 5 [(0, .ref (ad 0)), (1, .int x1)] → f_X12_fault_J89 x1 I4 = some M0 → W p l e R s m args below meth c H locs 0 0 Q (F0 m 89 ls []) := by
      intro I4 H locs ls hH hl hf
      unfold f_X12_fault_J89 at hf
      refine lv_aload_n hx hb dX12_fault_89 rfl (lv_at hl 0 rfl) ?_
      refine gf_12_44 hK hx hb hts hown hH mo_n0 mo_k0 (hts _ tw_1000) (fun _ h9 => h9) dX12_fault_90 ?_
      refine lv_iload_n hx hb dX12_fault_93 rfl (lv_at hl 1 rfl) ?_
      refine lv_dup2_11 hx hb dX12_fault_94 rfl rfl ?_
      obtain ⟨hi5, hf⟩ := nm_chk hf
      refine nm_iald hx hb hK hH mo_n45 mo_k45 mo_l45 hi5 dX12_fault_95 ?_
      refine lv_iconst (v := 1) hx hb dX12_fault_96 (by decide) ?_
      refine lv_iadd hx hb dX12_fault_97 ?_
      obtain ⟨hi6, hf⟩ := nm_chk hf
      obtain ⟨I7, eI7, hf⟩ := nm_let hf
      refine nm_iast hx hb hK hH mo_n45 mo_k45 mo_l45 hi6 dX12_fault_98 (fun H locs hH => ?_)
      have hH : nm_H D Y (fun q => s0 ≤ q) s.heap X moN ad (I7, nJ0, moZ) H locs := by rw [eI7]; exact hH
      exact nm_vret hx hb hr hlocks hQ hH (congrArg (fun q => (q, nJ0, moZ)) (Option.some.inj hf)) dX12_fault_99
    have hJ81 : ∀  (H : Heap) (locs : List Loc) (ls : Array Slot), nm_H D Y (fun q => s0 ≤ q) s.heap X moN ad (I2, nJ0, moZ) H locs → lv_has ls 5 [(0, .ref (ad 0)), (1, .int x1), (4, .int x4)] → f_X12_fault_J81 x1 x4 I2 = some M0 → W p l e R s m args below meth c H locs 0 0 Q (F0 m 81 ls []) := by
      intro  H locs ls hH hl hf
      unfold f_X12_fault_J81 at hf
      refine lv_aload_n hx hb dX12_fault_81 rfl (lv_at hl 0 rfl) ?_
      refine gf_12_45 hK hx hb hts hown hH mo_n0 mo_k0 (hts _ tw_1001) (fun _ h9 => h9) dX12_fault_82 ?_
      refine lv_iload_n hx hb dX12_fault_85 rfl (lv_at hl 1 rfl) ?_
      refine lv_iload hx hb dX12_fault_86 (lv_at hl 2 rfl) ?_
      obtain ⟨hi8, hf⟩ := nm_chk hf
      obtain ⟨I9, eI9, hf⟩ := nm_let hf
      refine nm_iast hx hb hK hH mo_n46 mo_k46 mo_l46 hi8 dX12_fault_88 (fun H locs hH => ?_)
      have hH : nm_H D Y (fun q => s0 ≤ q) s.heap X moN ad (I9, nJ0, moZ) H locs := by rw [eI9]; exact hH
      exact hJ89  I9 _ _ _ hH (lv_sub hl [0, 1] rfl) hf
    refine lv_if_eq (tgt := 81) hx hb dX12_fault_67 (by decide) (fun c10 => ?_) (fun c10 => ?_)
    · have hf := nm_it c10 hf
      exact hJ81  _ _ _ hH (lv_sub hl [0, 1, 2] rfl) hf
    · have hf := nm_ie c10 hf
      refine lv_iload hx hb dX12_fault_70 (lv_at hl 2 rfl) ?_
      refine lv_aload_n hx hb dX12_fault_72 rfl (lv_at hl 0 rfl) ?_
      refine gf_12_45 hK hx hb hts hown hH mo_n0 mo_k0 (hts _ tw_1001) (fun _ h9 => h9) dX12_fault_73 ?_
      refine lv_iload_n hx hb dX12_fault_76 rfl (lv_at hl 1 rfl) ?_
      obtain ⟨hi11, hf⟩ := nm_chk hf
      refine nm_iald hx hb hK hH mo_n46 mo_k46 mo_l46 hi11 dX12_fault_77 ?_
      refine lv_icmp_ge (tgt := 89) hx hb dX12_fault_78 (by decide) (fun c12 => ?_) (fun c12 => ?_)
      · have hf := nm_it c12 hf
        exact hJ89  I2 _ _ _ hH (lv_sub hl [0, 1] rfl) hf
      · have hf := nm_ie c12 hf
        exact hJ81  _ _ _ hH (lv_sub hl [0, 1, 2] rfl) hf
  refine lv_icmp_ge (tgt := 51) hx hb dX12_fault_7 (by decide) (fun c13 => ?_) (fun c13 => ?_)
  · have hf := nm_it c13 hf
    exact hJ51  I _ _ _ hH (lv_sub hl [0, 1, 4] rfl) hf
  · have hf := nm_ie c13 hf
    refine lv_aload_n hx hb dX12_fault_10 rfl (lv_at hl 0 rfl) ?_
    refine gf_12_40 hK hx hb hts hown hH mo_n0 mo_k0 (hts _ tw_996) (fun _ h9 => h9) dX12_fault_11 ?_
    refine lv_aload_n hx hb dX12_fault_14 rfl (lv_at hl 0 rfl) ?_
    refine gf_12_46 hK hx hb hts hown hH mo_n0 mo_k0 (hts _ tw_1002) (fun _ h9 => h9) dX12_fault_15 ?_
    refine lv_iload_n hx hb dX12_fault_18 rfl (lv_at hl 1 rfl) ?_
    obtain ⟨hi14, hf⟩ := nm_chk hf
    obtain ⟨I15, eI15, hf⟩ := nm_let hf
    refine nm_iast hx hb hK hH mo_n41 mo_k41 mo_l41 hi14 dX12_fault_19 (fun H locs hH => ?_)
    have hH : nm_H D Y (fun q => s0 ≤ q) s.heap X moN ad (I15, nJ0, moZ) H locs := by rw [eI15]; exact hH
    refine lv_aload_n hx hb dX12_fault_20 rfl (lv_at hl 0 rfl) ?_
    refine gf_12_41 hK hx hb hts hown hH mo_n0 mo_k0 (hts _ tw_997) (fun _ h9 => h9) dX12_fault_21 ?_
    refine lv_aload_n hx hb dX12_fault_24 rfl (lv_at hl 0 rfl) ?_
    refine gf_12_46 hK hx hb hts hown hH mo_n0 mo_k0 (hts _ tw_1002) (fun _ h9 => h9) dX12_fault_25 ?_
    refine lv_iload_n hx hb dX12_fault_28 rfl (lv_at hl 2 rfl) ?_
    obtain ⟨hi16, hf⟩ := nm_chk hf
    obtain ⟨I17, eI17, hf⟩ := nm_let hf
    refine nm_iast hx hb hK hH mo_n42 mo_k42 mo_l42 hi16 dX12_fault_29 (fun H locs hH => ?_)
    have hH : nm_H D Y (fun q => s0 ≤ q) s.heap X moN ad (I17, nJ0, moZ) H locs := by rw [eI17]; exact hH
    refine lv_aload_n hx hb dX12_fault_30 rfl (lv_at hl 0 rfl) ?_
    refine gf_12_42 hK hx hb hts hown hH mo_n0 mo_k0 (hts _ tw_998) (fun _ h9 => h9) dX12_fault_31 ?_
    refine lv_aload_n hx hb dX12_fault_34 rfl (lv_at hl 0 rfl) ?_
    refine gf_12_46 hK hx hb hts hown hH mo_n0 mo_k0 (hts _ tw_1002) (fun _ h9 => h9) dX12_fault_35 ?_
    refine lv_iload_n hx hb dX12_fault_38 rfl (lv_at hl 3 rfl) ?_
    obtain ⟨hi18, hf⟩ := nm_chk hf
    obtain ⟨I19, eI19, hf⟩ := nm_let hf
    refine nm_iast hx hb hK hH mo_n43 mo_k43 mo_l43 hi18 dX12_fault_39 (fun H locs hH => ?_)
    have hH : nm_H D Y (fun q => s0 ≤ q) s.heap X moN ad (I19, nJ0, moZ) H locs := by rw [eI19]; exact hH
    refine lv_aload_n hx hb dX12_fault_40 rfl (lv_at hl 0 rfl) ?_
    refine gf_12_43 hK hx hb hts hown hH mo_n0 mo_k0 (hts _ tw_999) (fun _ h9 => h9) dX12_fault_41 ?_
    refine lv_aload_n hx hb dX12_fault_44 rfl (lv_at hl 0 rfl) ?_
    refine gf_12_46 hK hx hb hts hown hH mo_n0 mo_k0 (hts _ tw_1002) (fun _ h9 => h9) dX12_fault_45 ?_
    refine lv_iload hx hb dX12_fault_48 (lv_at hl 4 rfl) ?_
    obtain ⟨hi20, hf⟩ := nm_chk hf
    obtain ⟨I21, eI21, hf⟩ := nm_let hf
    refine nm_iast hx hb hK hH mo_n44 mo_k44 mo_l44 hi20 dX12_fault_50 (fun H locs hH => ?_)
    have hH : nm_H D Y (fun q => s0 ≤ q) s.heap X moN ad (I21, nJ0, moZ) H locs := by rw [eI21]; exact hH
    exact hJ51  I21 _ _ _ hH (lv_sub hl [0, 1, 4] rfl) hf
def f_X12_along (x0 : Int32) (x1 : Int32) : Int32 :=
(if (64 : Int32) ≤ x0 then
(((64 : Int32) * x1) + x0) - (64 : Int32)
else
((64 : Int32) * x0) + x1)
set_option maxHeartbeats 4000000 in
set_option maxRecDepth 100000 in
theorem k_X12_along {l : Launch} {D : va_G} {Y : nm_Y} {s0 : Nat} {X : va_W} {ad : Nat → Nat}  {x0 : Int32} {x1 : Int32} {I : nm_I} {r0 : Int32} (hf : f_X12_along x0 x1 = r0) :
    nm_Met l yX12_along cX12_along 2 (some .int) { frames := 0, cells := 0, slots := 0, locals := 0 } [.int x0, .int x1] D Y s0 (nm_W Y X moN ad (I, nJ0, moZ)) (nm_Qi D s0 r0 (nm_W Y X moN ad (I, nJ0, moZ))) 0 0 := by
  refine nm_of (by decide) (Nat.le_of_ble_eq_true rfl) ?_
  intro p e R s m args below meth c Q ls hx hb hr hlocks hml hown hts hs0 hK hZ hRf hRl hRc hRs hQ hP hD hl
  have hH : nm_H D Y (fun q => s0 ≤ q) s.heap X moN ad (I, nJ0, moZ) s.heap [] := ⟨hP, hD, va_S.rf⟩
  have hl : lv_has ls 2 [(0, .int x0), (1, .int x1)] := hl
  unfold f_X12_along at hf
  refine lv_iload_n hx hb dX12_along_0 rfl (lv_at hl 0 rfl) ?_
  refine lv_bipush (v := 64) hx hb dX12_along_1 (by decide) ?_
  refine lv_icmp_ge (tgt := 15) hx hb dX12_along_3 (by decide) (fun c1 => ?_) (fun c1 => ?_)
  · have hf := nm_it c1 hf
    refine lv_bipush (v := 64) hx hb dX12_along_15 (by decide) ?_
    refine lv_iload_n hx hb dX12_along_17 rfl (lv_at hl 1 rfl) ?_
    refine lv_imul hx hb dX12_along_18 ?_
    refine lv_iload_n hx hb dX12_along_19 rfl (lv_at hl 0 rfl) ?_
    refine lv_iadd hx hb dX12_along_20 ?_
    refine lv_bipush (v := 64) hx hb dX12_along_21 (by decide) ?_
    refine lv_isub hx hb dX12_along_23 ?_
    exact nm_iret hx hb hr hlocks hQ hH hf rfl dX12_along_24
  · have hf := nm_ie c1 hf
    refine lv_bipush (v := 64) hx hb dX12_along_6 (by decide) ?_
    refine lv_iload_n hx hb dX12_along_8 rfl (lv_at hl 0 rfl) ?_
    refine lv_imul hx hb dX12_along_9 ?_
    refine lv_iload_n hx hb dX12_along_10 rfl (lv_at hl 1 rfl) ?_
    refine lv_iadd hx hb dX12_along_11 ?_
    refine lv_goto (tgt := 24) hx hb dX12_along_12 (by decide) ?_
    exact nm_iret hx hb hr hlocks hQ hH hf rfl dX12_along_24
def f_X12_lines_J194 (x5 : Int32) (x7 : Int32) (t194_0 : Int32) (I7 : nm_I) (k : Int32 → Int32 → Int32 → nm_I → Option (nm_I)) : Option (nm_I) :=
k x5 t194_0 (x7 + 1) I7
def f_X12_lines_J189 (x5 : Int32) (x7 : Int32) (I7 : nm_I) (k : Int32 → Int32 → Int32 → nm_I → Option (nm_I)) : Option (nm_I) :=
f_X12_lines_J194 x5 x7 (1 : Int32) I7 k
def f_X12_lines_J193 (x5 : Int32) (x7 : Int32) (I7 : nm_I) (k : Int32 → Int32 → Int32 → nm_I → Option (nm_I)) : Option (nm_I) :=
f_X12_lines_J194 x5 x7 (0 : Int32) I7 k
def f_X12_lines_J160 (v2 : Int32) (x4 : Int32) (x5 : Int32) (x6 : Int32) (x7 : Int32) (I7 : nm_I) (k : Int32 → Int32 → Int32 → nm_I → Option (nm_I)) : Option (nm_I) :=
(if x6 = 0 then
(if (64 : Int32) ≤ x7 then
f_X12_lines_J193 x5 x7 I7 k
else
nm_c (v2 + (f_X12_along x4 x7)) 65536 (
(if (I7 20 (v2 + (f_X12_along x4 x7)).toNatClampNeg) = 0 then
f_X12_lines_J193 x5 x7 I7 k
else
f_X12_lines_J189 x5 x7 I7 k)))
else
f_X12_lines_J189 x5 x7 I7 k)
def f_X12_lines_J157 (v2 : Int32) (x4 : Int32) (x6 : Int32) (x7 : Int32) (I15 : nm_I) (k : Int32 → Int32 → Int32 → nm_I → Option (nm_I)) : Option (nm_I) :=
f_X12_lines_J160 v2 x4 (-1 : Int32) x6 x7 I15 k
def f_X12_lines_J107 (x1 : Int32) (v2 : Int32) (x4 : Int32) (x5 : Int32) (x6 : Int32) (x7 : Int32) (t68_0 : Int32) (I5 : nm_I) (k : Int32 → Int32 → Int32 → nm_I → Option (nm_I)) : Option (nm_I) :=
(if t68_0 = 0 then
(if x5 < 0 then
f_X12_lines_J160 v2 x4 x5 x6 x7 I5 k
else
nm_c x1 16 (
(if (I5 39 x1.toNatClampNeg) ≤ (x7 - x5) then
f_X12_lines_J157 v2 x4 x6 x7 I5 k
else
nm_s1 (f_X12_fault x1 (f_X12_along x4 x5) (f_X12_along x4 (x7 - (1 : Int32))) (x7 - x5) I5) fun I17 =>
f_X12_lines_J157 v2 x4 x6 x7 I17 k)))
else
f_X12_lines_J160 v2 x4 x5 x6 x7 I5 k)
def f_X12_lines_J103 (x1 : Int32) (v2 : Int32) (x4 : Int32) (x6 : Int32) (x7 : Int32) (t68_0 : Int32) (I5 : nm_I) (k : Int32 → Int32 → Int32 → nm_I → Option (nm_I)) : Option (nm_I) :=
f_X12_lines_J107 x1 v2 x4 x7 x6 x7 t68_0 I5 k
def f_X12_lines_J84 (x1 : Int32) (x2 : Int32) (v2 : Int32) (x4 : Int32) (x5 : Int32) (x6 : Int32) (x7 : Int32) (t68_0 : Int32) (I5 : nm_I) (k : Int32 → Int32 → Int32 → nm_I → Option (nm_I)) : Option (nm_I) :=
(if t68_0 = 0 then
f_X12_lines_J107 x1 v2 x4 x5 x6 x7 t68_0 I5 k
else
(if 0 ≤ x5 then
f_X12_lines_J107 x1 v2 x4 x5 x6 x7 t68_0 I5 k
else
(if x2 = 0 then
f_X12_lines_J103 x1 v2 x4 x6 x7 t68_0 I5 k
else
(if x6 = 0 then
f_X12_lines_J107 x1 v2 x4 x5 x6 x7 t68_0 I5 k
else
f_X12_lines_J103 x1 v2 x4 x6 x7 t68_0 I5 k))))
def f_X12_lines_J68 (x1 : Int32) (x2 : Int32) (v2 : Int32) (x4 : Int32) (x5 : Int32) (x6 : Int32) (x7 : Int32) (t68_0 : Int32) (I5 : nm_I) (k : Int32 → Int32 → Int32 → nm_I → Option (nm_I)) : Option (nm_I) :=
(if x2 = 0 then
f_X12_lines_J84 x1 x2 v2 x4 x5 x6 x7 t68_0 I5 k
else
(if x7 = (64 : Int32) then
f_X12_lines_J84 x1 x2 v2 x4 (-1 : Int32) x6 x7 t68_0 I5 k
else
f_X12_lines_J84 x1 x2 v2 x4 x5 x6 x7 t68_0 I5 k))
def f_X12_lines_J67 (x1 : Int32) (x2 : Int32) (v2 : Int32) (x4 : Int32) (x5 : Int32) (x6 : Int32) (x7 : Int32) (I5 : nm_I) (k : Int32 → Int32 → Int32 → nm_I → Option (nm_I)) : Option (nm_I) :=
f_X12_lines_J68 x1 x2 v2 x4 x5 x6 x7 (0 : Int32) I5 k
def f_X12_lines_L31 (x1 : Int32) (x2 : Int32) (v2 : Int32) (x4 : Int32) : Nat → Int32 → Int32 → Int32 → nm_I → Option (nm_I)
  | 0, _, _, _, _ => none
  | n31 + 1, x5, x6, x7, I5 =>
    (if (64 : Int32) < x7 then
    some I5
    else
    (if (64 : Int32) ≤ x7 then
    f_X12_lines_J67 x1 x2 v2 x4 x5 x6 x7 I5 (f_X12_lines_L31 x1 x2 v2 x4 n31)
    else
    nm_c (v2 + (f_X12_along x4 x7)) 65536 (
    (if (I5 20 (v2 + (f_X12_along x4 x7)).toNatClampNeg) = x2 then
    f_X12_lines_J67 x1 x2 v2 x4 x5 x6 x7 I5 (f_X12_lines_L31 x1 x2 v2 x4 n31)
    else
    f_X12_lines_J68 x1 x2 v2 x4 x5 x6 x7 (1 : Int32) I5 (f_X12_lines_L31 x1 x2 v2 x4 n31)))))
def f_X12_lines_L14 (x1 : Int32) (x2 : Int32) (v2 : Int32) : Nat → Int32 → nm_I → Option (nm_I)
  | 0, _, _ => none
  | n14 + 1, x4, I3 =>
    (if (128 : Int32) ≤ x4 then
    some I3
    else
    nm_s1 (f_X12_lines_L31 x1 x2 v2 x4 nm_F (-1 : Int32) (0 : Int32) (0 : Int32) I3) fun I28 =>
    f_X12_lines_L14 x1 x2 v2 n14 (x4 + 1) I28)
def f_X12_lines (x1 : Int32) (x2 : Int32) (I : nm_I) : Option (nm_I) :=
nm_c x1 16 (
nm_l ((4096 : Int32) * (I 37 x1.toNatClampNeg)) fun v2 =>
nm_s1 (f_X12_lines_L14 x1 x2 v2 nm_F (0 : Int32) I) fun I30 =>
some I30)
set_option maxHeartbeats 4000000 in
set_option maxRecDepth 100000 in
theorem k_X12_lines {l : Launch} {D : va_G} {Y : nm_Y} {s0 : Nat} {X : va_W} {ad : Nat → Nat}  {x1 : Int32} {x2 : Int32} {I : nm_I} {M0 : nm_I} (hf : f_X12_lines x1 x2 I = some M0) :
    nm_Met l yX12_lines cX12_lines 9 none { frames := 1, cells := 0, slots := 0, locals := 24 } [.ref (ad 0), .int x1, .int x2] D Y s0 (nm_W Y X moN ad (I, nJ0, moZ)) (nm_Qv D s0 (nm_W Y X moN ad (M0, nJ0, moZ))) 0 0 := by
  refine nm_of (by decide) (Nat.le_of_ble_eq_true rfl) ?_
  intro p e R s m args below meth c Q ls hx hb hr hlocks hml hown hts hs0 hK hZ hRf hRl hRc hRs hQ hP hD hl
  have hH : nm_H D Y (fun q => s0 ≤ q) s.heap X moN ad (I, nJ0, moZ) s.heap [] := ⟨hP, hD, va_S.rf⟩
  have hl : lv_has ls 9 [(0, .ref (ad 0)), (1, .int x1), (2, .int x2)] := hl
  unfold f_X12_lines at hf
  refine lv_sipush (v := 4096) hx hb dX12_lines_0 (by decide) ?_
  refine lv_aload_n hx hb dX12_lines_3 rfl (lv_at hl 0 rfl) ?_
  refine gf_12_36 hK hx hb hts hown hH mo_n0 mo_k0 (hts _ tw_992) (fun _ h9 => h9) dX12_lines_4 ?_
  refine lv_iload_n hx hb dX12_lines_7 rfl (lv_at hl 1 rfl) ?_
  obtain ⟨hi1, hf⟩ := nm_chk hf
  refine nm_iald hx hb hK hH mo_n37 mo_k37 mo_l37 hi1 dX12_lines_8 ?_
  refine lv_imul hx hb dX12_lines_9 ?_
  obtain ⟨v2, ev2, hf⟩ := nm_let hf
  refine nm_topi ev2 ?_
  refine lv_istore_n (lv' := [(3, .int v2), (0, .ref (ad 0)), (1, .int x1), (2, .int x2)]) hx hb dX12_lines_10 rfl hl (by decide) rfl (fun ls hl => ?_)
  refine lv_iconst (v := 0) hx hb dX12_lines_11 (by decide) ?_
  refine lv_istore (lv' := [(4, .int (0 : Int32)), (3, .int v2), (0, .ref (ad 0)), (1, .int x1), (2, .int x2)]) hx hb dX12_lines_12 hl (by decide) rfl (fun ls hl => ?_)
  have hL14 : ∀ (n14 : Nat) (x4 : Int32) (I3 : nm_I) (H : Heap) (locs : List Loc) (ls : Array Slot) (o14 : nm_I), nm_H D Y (fun q => s0 ≤ q) s.heap X moN ad (I3, nJ0, moZ) H locs → lv_has ls 9 [(0, .ref (ad 0)), (1, .int x1), (2, .int x2), (3, .int v2), (4, .int x4)] → f_X12_lines_L14 x1 x2 v2 n14 x4 I3 = some o14 → (∀ (H : Heap) (locs : List Loc) (ls : Array Slot), nm_H D Y (fun q => s0 ≤ q) s.heap X moN ad (o14, nJ0, moZ) H locs → lv_has ls 9 [] → W p l e R s m args below meth c H locs 0 0 Q (F0 m 208 ls [])) → W p l e R s m args below meth c H locs 0 0 Q (F0 m 14 ls []) := by
    intro n14
    induction n14 with
    | zero =>
      intro x4 I3 H locs ls o14 hH hl hf hX14
      cases hf
    | succ n14 ih14 =>
      intro x4 I3 H locs ls o14 hH hl hf hX14
      rw [f_X12_lines_L14] at hf
      refine lv_iload hx hb dX12_lines_14 (lv_at hl 4 rfl) ?_
      refine lv_sipush (v := 128) hx hb dX12_lines_16 (by decide) ?_
      refine lv_icmp_ge (tgt := 208) hx hb dX12_lines_19 (by decide) (fun c4 => ?_) (fun c4 => ?_)
      · have hf := nm_it c4 hf
        cases hf
        exact hX14 _ _ _ hH (lv_sub hl [] rfl)
      · have hf := nm_ie c4 hf
        refine lv_iconst (v := -1) hx hb dX12_lines_22 (by decide) ?_
        refine lv_istore (lv' := [(5, .int (-1 : Int32)), (0, .ref (ad 0)), (1, .int x1), (2, .int x2), (3, .int v2), (4, .int x4)]) hx hb dX12_lines_23 hl (by decide) rfl (fun ls hl => ?_)
        refine lv_iconst (v := 0) hx hb dX12_lines_25 (by decide) ?_
        refine lv_istore (lv' := [(6, .int (0 : Int32)), (5, .int (-1 : Int32)), (0, .ref (ad 0)), (1, .int x1), (2, .int x2), (3, .int v2), (4, .int x4)]) hx hb dX12_lines_26 hl (by decide) rfl (fun ls hl => ?_)
        refine lv_iconst (v := 0) hx hb dX12_lines_28 (by decide) ?_
        refine lv_istore (lv' := [(7, .int (0 : Int32)), (6, .int (0 : Int32)), (5, .int (-1 : Int32)), (0, .ref (ad 0)), (1, .int x1), (2, .int x2), (3, .int v2), (4, .int x4)]) hx hb dX12_lines_29 hl (by decide) rfl (fun ls hl => ?_)
        have hL31 : ∀ (n31 : Nat) (x5 : Int32) (x6 : Int32) (x7 : Int32) (I5 : nm_I) (H : Heap) (locs : List Loc) (ls : Array Slot) (o31 : nm_I), nm_H D Y (fun q => s0 ≤ q) s.heap X moN ad (I5, nJ0, moZ) H locs → lv_has ls 9 [(0, .ref (ad 0)), (1, .int x1), (2, .int x2), (3, .int v2), (4, .int x4), (5, .int x5), (6, .int x6), (7, .int x7)] → f_X12_lines_L31 x1 x2 v2 x4 n31 x5 x6 x7 I5 = some o31 → (∀ (H : Heap) (locs : List Loc) (ls : Array Slot), nm_H D Y (fun q => s0 ≤ q) s.heap X moN ad (o31, nJ0, moZ) H locs → lv_has ls 9 [(0, .ref (ad 0)), (1, .int x1), (2, .int x2), (3, .int v2), (4, .int x4)] → W p l e R s m args below meth c H locs 0 0 Q (F0 m 202 ls [])) → W p l e R s m args below meth c H locs 0 0 Q (F0 m 31 ls []) := by
          intro n31
          induction n31 with
          | zero =>
            intro x5 x6 x7 I5 H locs ls o31 hH hl hf hX31
            cases hf
          | succ n31 ih31 =>
            intro x5 x6 x7 I5 H locs ls o31 hH hl hf hX31
            rw [f_X12_lines_L31] at hf
            refine lv_iload hx hb dX12_lines_31 (lv_at hl 7 rfl) ?_
            refine lv_bipush (v := 64) hx hb dX12_lines_33 (by decide) ?_
            refine lv_icmp_gt (tgt := 202) hx hb dX12_lines_35 (by decide) (fun c6 => ?_) (fun c6 => ?_)
            · have hf := nm_it c6 hf
              cases hf
              exact hX31 _ _ _ hH (lv_sub hl [0, 1, 2, 3, 4] rfl)
            · have hf := nm_ie c6 hf
              refine lv_iload hx hb dX12_lines_38 (lv_at hl 7 rfl) ?_
              refine lv_bipush (v := 64) hx hb dX12_lines_40 (by decide) ?_
              have hJ68 : ∀ (t68_0 : Int32) (H : Heap) (locs : List Loc) (ls : Array Slot), nm_H D Y (fun q => s0 ≤ q) s.heap X moN ad (I5, nJ0, moZ) H locs → lv_has ls 9 [(0, .ref (ad 0)), (1, .int x1), (2, .int x2), (3, .int v2), (4, .int x4), (5, .int x5), (6, .int x6), (7, .int x7)] → f_X12_lines_J68 x1 x2 v2 x4 x5 x6 x7 t68_0 I5 (f_X12_lines_L31 x1 x2 v2 x4 n31) = some o31 → W p l e R s m args below meth c H locs 0 0 Q (F0 m 68 ls [.int t68_0]) := by
                intro t68_0 H locs ls hH hl hf
                unfold f_X12_lines_J68 at hf
                refine lv_istore (lv' := [(8, .int t68_0), (0, .ref (ad 0)), (1, .int x1), (2, .int x2), (3, .int v2), (4, .int x4), (5, .int x5), (6, .int x6), (7, .int x7)]) hx hb dX12_lines_68 hl (by decide) rfl (fun ls hl => ?_)
                refine lv_iload_n hx hb dX12_lines_70 rfl (lv_at hl 3 rfl) ?_
                have hJ84 : ∀ (x5 : Int32) (H : Heap) (locs : List Loc) (ls : Array Slot), nm_H D Y (fun q => s0 ≤ q) s.heap X moN ad (I5, nJ0, moZ) H locs → lv_has ls 9 [(0, .ref (ad 0)), (1, .int x1), (2, .int x2), (3, .int v2), (4, .int x4), (5, .int x5), (6, .int x6), (7, .int x7), (8, .int t68_0)] → f_X12_lines_J84 x1 x2 v2 x4 x5 x6 x7 t68_0 I5 (f_X12_lines_L31 x1 x2 v2 x4 n31) = some o31 → W p l e R s m args below meth c H locs 0 0 Q (F0 m 84 ls []) := by
                  intro x5 H locs ls hH hl hf
                  unfold f_X12_lines_J84 at hf
                  refine lv_iload hx hb dX12_lines_84 (lv_at hl 8 rfl) ?_
                  have hJ107 : ∀ (x5 : Int32) (H : Heap) (locs : List Loc) (ls : Array Slot), nm_H D Y (fun q => s0 ≤ q) s.heap X moN ad (I5, nJ0, moZ) H locs → lv_has ls 9 [(0, .ref (ad 0)), (1, .int x1), (2, .int x2), (3, .int v2), (4, .int x4), (5, .int x5), (6, .int x6), (7, .int x7), (8, .int t68_0)] → f_X12_lines_J107 x1 v2 x4 x5 x6 x7 t68_0 I5 (f_X12_lines_L31 x1 x2 v2 x4 n31) = some o31 → W p l e R s m args below meth c H locs 0 0 Q (F0 m 107 ls []) := by
                    intro x5 H locs ls hH hl hf
                    unfold f_X12_lines_J107 at hf
                    refine lv_iload hx hb dX12_lines_107 (lv_at hl 8 rfl) ?_
                    have hJ160 : ∀ (x5 : Int32) (I7 : nm_I) (H : Heap) (locs : List Loc) (ls : Array Slot), nm_H D Y (fun q => s0 ≤ q) s.heap X moN ad (I7, nJ0, moZ) H locs → lv_has ls 9 [(0, .ref (ad 0)), (1, .int x1), (2, .int x2), (3, .int v2), (4, .int x4), (5, .int x5), (6, .int x6), (7, .int x7)] → f_X12_lines_J160 v2 x4 x5 x6 x7 I7 (f_X12_lines_L31 x1 x2 v2 x4 n31) = some o31 → W p l e R s m args below meth c H locs 0 0 Q (F0 m 160 ls []) := by
                      intro x5 I7 H locs ls hH hl hf
                      unfold f_X12_lines_J160 at hf
                      refine lv_iload hx hb dX12_lines_160 (lv_at hl 6 rfl) ?_
                      have hJ194 : ∀ (t194_0 : Int32) (H : Heap) (locs : List Loc) (ls : Array Slot), nm_H D Y (fun q => s0 ≤ q) s.heap X moN ad (I7, nJ0, moZ) H locs → lv_has ls 9 [(0, .ref (ad 0)), (1, .int x1), (2, .int x2), (3, .int v2), (4, .int x4), (5, .int x5), (7, .int x7)] → f_X12_lines_J194 x5 x7 t194_0 I7 (f_X12_lines_L31 x1 x2 v2 x4 n31) = some o31 → W p l e R s m args below meth c H locs 0 0 Q (F0 m 194 ls [.int t194_0]) := by
                        intro t194_0 H locs ls hH hl hf
                        unfold f_X12_lines_J194 at hf
                        refine lv_istore (lv' := [(6, .int t194_0), (0, .ref (ad 0)), (1, .int x1), (2, .int x2), (3, .int v2), (4, .int x4), (5, .int x5), (7, .int x7)]) hx hb dX12_lines_194 hl (by decide) rfl (fun ls hl => ?_)
                        refine lv_iinc (v := x7 + 1) (lv' := [(7, .int (x7 + 1)), (6, .int t194_0), (0, .ref (ad 0)), (1, .int x1), (2, .int x2), (3, .int v2), (4, .int x4), (5, .int x5)]) hx hb dX12_lines_196 hl (k := 7) rfl rfl (by decide) rfl (fun ls hl => ?_)
                        refine lv_goto (tgt := 31) hx hb dX12_lines_199 (by decide) ?_
                        exact ih31 x5 t194_0 (x7 + 1) I7 _ _ _ _ hH (lv_sub hl [2, 3, 4, 5, 6, 7, 1, 0] rfl) hf hX31
                      have hJ189 : ∀  (H : Heap) (locs : List Loc) (ls : Array Slot), nm_H D Y (fun q => s0 ≤ q) s.heap X moN ad (I7, nJ0, moZ) H locs → lv_has ls 9 [(0, .ref (ad 0)), (1, .int x1), (2, .int x2), (3, .int v2), (4, .int x4), (5, .int x5), (7, .int x7)] → f_X12_lines_J189 x5 x7 I7 (f_X12_lines_L31 x1 x2 v2 x4 n31) = some o31 → W p l e R s m args below meth c H locs 0 0 Q (F0 m 189 ls []) := by
                        intro  H locs ls hH hl hf
                        unfold f_X12_lines_J189 at hf
                        refine lv_iconst (v := 1) hx hb dX12_lines_189 (by decide) ?_
                        refine lv_goto (tgt := 194) hx hb dX12_lines_190 (by decide) ?_
                        exact hJ194 (1 : Int32) _ _ _ hH (lv_sub hl [0, 1, 2, 3, 4, 5, 6] rfl) hf
                      refine lv_if_ne (tgt := 189) hx hb dX12_lines_162 (by decide) (fun c8 => ?_) (fun c8 => ?_)
                      · have hf := nm_ie c8 hf
                        exact hJ189  _ _ _ hH (lv_sub hl [0, 1, 2, 3, 4, 5, 7] rfl) hf
                      · have hf := nm_it c8 hf
                        refine lv_iload hx hb dX12_lines_165 (lv_at hl 7 rfl) ?_
                        refine lv_bipush (v := 64) hx hb dX12_lines_167 (by decide) ?_
                        have hJ193 : ∀  (H : Heap) (locs : List Loc) (ls : Array Slot), nm_H D Y (fun q => s0 ≤ q) s.heap X moN ad (I7, nJ0, moZ) H locs → lv_has ls 9 [(0, .ref (ad 0)), (1, .int x1), (2, .int x2), (3, .int v2), (4, .int x4), (5, .int x5), (7, .int x7)] → f_X12_lines_J193 x5 x7 I7 (f_X12_lines_L31 x1 x2 v2 x4 n31) = some o31 → W p l e R s m args below meth c H locs 0 0 Q (F0 m 193 ls []) := by
                          intro  H locs ls hH hl hf
                          unfold f_X12_lines_J193 at hf
                          refine lv_iconst (v := 0) hx hb dX12_lines_193 (by decide) ?_
                          exact hJ194 (0 : Int32) _ _ _ hH (lv_sub hl [0, 1, 2, 3, 4, 5, 6] rfl) hf
                        refine lv_icmp_ge (tgt := 193) hx hb dX12_lines_169 (by decide) (fun c9 => ?_) (fun c9 => ?_)
                        · have hf := nm_it c9 hf
                          exact hJ193  _ _ _ hH (lv_sub hl [0, 1, 2, 3, 4, 5, 7] rfl) hf
                        · have hf := nm_ie c9 hf
                          refine lv_aload_n hx hb dX12_lines_172 rfl (lv_at hl 0 rfl) ?_
                          refine gf_12_19 hK hx hb hts hown hH mo_n0 mo_k0 (hts _ tw_975) (fun _ h9 => h9) dX12_lines_173 ?_
                          refine lv_iload_n hx hb dX12_lines_176 rfl (lv_at hl 3 rfl) ?_
                          refine lv_iload hx hb dX12_lines_177 (lv_at hl 4 rfl) ?_
                          refine lv_iload hx hb dX12_lines_179 (lv_at hl 7 rfl) ?_
                          refine nm_calli (nm_runS (X := X) (nl := moN) (k_X12_along (hf := (rfl : f_X12_along x4 x7 = _))) hx hb hml hown hts hs0 hK hZ hH tw_1362 tw_1360 tw_1361 tw_9 hd_X12_along rfl rfl ⟨Nat.le_trans (Nat.le_of_ble_eq_true rfl) hRf, Nat.le_trans (Nat.le_of_ble_eq_true rfl) hRl⟩ rfl hl.1 rfl (Nat.le_of_ble_eq_true rfl) dX12_lines_181 ⟨Nat.zero_le _, Nat.zero_le _⟩) hH (fun H locs hH => ?_)
                          have hH : nm_H D Y (fun q => s0 ≤ q) s.heap X moN ad (I7, nJ0, moZ) H locs := hH
                          refine lv_iadd hx hb dX12_lines_184 ?_
                          obtain ⟨hi10, hf⟩ := nm_chk hf
                          refine nm_zald hx hb hK hH mo_n20 mo_k20 mo_l20 hi10 dX12_lines_185 ?_
                          refine lv_if_eq (tgt := 193) hx hb dX12_lines_186 (by decide) (fun c11 => ?_) (fun c11 => ?_)
                          · have hf := nm_it c11 hf
                            exact hJ193  _ _ _ hH (lv_sub hl [0, 1, 2, 3, 4, 5, 7] rfl) hf
                          · have hf := nm_ie c11 hf
                            exact hJ189  _ _ _ hH (lv_sub hl [0, 1, 2, 3, 4, 5, 7] rfl) hf
                    refine lv_if_ne (tgt := 160) hx hb dX12_lines_109 (by decide) (fun c12 => ?_) (fun c12 => ?_)
                    · have hf := nm_ie c12 hf
                      exact hJ160 x5 I5 _ _ _ hH (lv_sub hl [0, 1, 2, 3, 4, 5, 6, 7] rfl) hf
                    · have hf := nm_it c12 hf
                      refine lv_iload hx hb dX12_lines_112 (lv_at hl 5 rfl) ?_
                      refine lv_if_lt (tgt := 160) hx hb dX12_lines_114 (by decide) (fun c13 => ?_) (fun c13 => ?_)
                      · have hf := nm_it c13 hf
                        exact hJ160 x5 I5 _ _ _ hH (lv_sub hl [0, 1, 2, 3, 4, 5, 6, 7] rfl) hf
                      · have hf := nm_ie c13 hf
                        refine lv_iload hx hb dX12_lines_117 (lv_at hl 7 rfl) ?_
                        refine lv_iload hx hb dX12_lines_119 (lv_at hl 5 rfl) ?_
                        refine lv_isub hx hb dX12_lines_121 ?_
                        refine lv_aload_n hx hb dX12_lines_122 rfl (lv_at hl 0 rfl) ?_
                        refine gf_12_38 hK hx hb hts hown hH mo_n0 mo_k0 (hts _ tw_994) (fun _ h9 => h9) dX12_lines_123 ?_
                        refine lv_iload_n hx hb dX12_lines_126 rfl (lv_at hl 1 rfl) ?_
                        obtain ⟨hi14, hf⟩ := nm_chk hf
                        refine nm_iald hx hb hK hH mo_n39 mo_k39 mo_l39 hi14 dX12_lines_127 ?_
                        have hJ157 : ∀ (I15 : nm_I) (H : Heap) (locs : List Loc) (ls : Array Slot), nm_H D Y (fun q => s0 ≤ q) s.heap X moN ad (I15, nJ0, moZ) H locs → lv_has ls 9 [(0, .ref (ad 0)), (1, .int x1), (2, .int x2), (3, .int v2), (4, .int x4), (6, .int x6), (7, .int x7)] → f_X12_lines_J157 v2 x4 x6 x7 I15 (f_X12_lines_L31 x1 x2 v2 x4 n31) = some o31 → W p l e R s m args below meth c H locs 0 0 Q (F0 m 157 ls []) := by
                          intro I15 H locs ls hH hl hf
                          unfold f_X12_lines_J157 at hf
                          refine lv_iconst (v := -1) hx hb dX12_lines_157 (by decide) ?_
                          refine lv_istore (lv' := [(5, .int (-1 : Int32)), (0, .ref (ad 0)), (1, .int x1), (2, .int x2), (3, .int v2), (4, .int x4), (6, .int x6), (7, .int x7)]) hx hb dX12_lines_158 hl (by decide) rfl (fun ls hl => ?_)
                          exact hJ160 (-1 : Int32) I15 _ _ _ hH (lv_sub hl [1, 2, 3, 4, 5, 0, 6, 7] rfl) hf
                        refine lv_icmp_ge (tgt := 157) hx hb dX12_lines_128 (by decide) (fun c16 => ?_) (fun c16 => ?_)
                        · have hf := nm_it c16 hf
                          exact hJ157  I5 _ _ _ hH (lv_sub hl [0, 1, 2, 3, 4, 6, 7] rfl) hf
                        · have hf := nm_ie c16 hf
                          refine lv_aload_n hx hb dX12_lines_131 rfl (lv_at hl 0 rfl) ?_
                          refine lv_iload_n hx hb dX12_lines_132 rfl (lv_at hl 1 rfl) ?_
                          refine lv_iload hx hb dX12_lines_133 (lv_at hl 4 rfl) ?_
                          refine lv_iload hx hb dX12_lines_135 (lv_at hl 5 rfl) ?_
                          refine nm_calli (nm_runS (X := X) (nl := moN) (k_X12_along (hf := (rfl : f_X12_along x4 x5 = _))) hx hb hml hown hts hs0 hK hZ hH tw_1362 tw_1360 tw_1361 tw_9 hd_X12_along rfl rfl ⟨Nat.le_trans (Nat.le_of_ble_eq_true rfl) hRf, Nat.le_trans (Nat.le_of_ble_eq_true rfl) hRl⟩ rfl hl.1 rfl (Nat.le_of_ble_eq_true rfl) dX12_lines_137 ⟨Nat.zero_le _, Nat.zero_le _⟩) hH (fun H locs hH => ?_)
                          have hH : nm_H D Y (fun q => s0 ≤ q) s.heap X moN ad (I5, nJ0, moZ) H locs := hH
                          refine lv_iload hx hb dX12_lines_140 (lv_at hl 4 rfl) ?_
                          refine lv_iload hx hb dX12_lines_142 (lv_at hl 7 rfl) ?_
                          refine lv_iconst (v := 1) hx hb dX12_lines_144 (by decide) ?_
                          refine lv_isub hx hb dX12_lines_145 ?_
                          refine nm_calli (nm_runS (X := X) (nl := moN) (k_X12_along (hf := (rfl : f_X12_along x4 (x7 - (1 : Int32)) = _))) hx hb hml hown hts hs0 hK hZ hH tw_1362 tw_1360 tw_1361 tw_9 hd_X12_along rfl rfl ⟨Nat.le_trans (Nat.le_of_ble_eq_true rfl) hRf, Nat.le_trans (Nat.le_of_ble_eq_true rfl) hRl⟩ rfl hl.1 rfl (Nat.le_of_ble_eq_true rfl) dX12_lines_146 ⟨Nat.zero_le _, Nat.zero_le _⟩) hH (fun H locs hH => ?_)
                          have hH : nm_H D Y (fun q => s0 ≤ q) s.heap X moN ad (I5, nJ0, moZ) H locs := hH
                          refine lv_iload hx hb dX12_lines_149 (lv_at hl 7 rfl) ?_
                          refine lv_iload hx hb dX12_lines_151 (lv_at hl 5 rfl) ?_
                          refine lv_isub hx hb dX12_lines_153 ?_
                          obtain ⟨I17, hc18, hf⟩ := nm_sd1 hf
                          refine nm_callv (nm_runV (X := X) (nl := moN) (k_X12_fault (hf := hc18)) hx hb hml hown hts hs0 hK hZ hH tw_1366 tw_1363 tw_1365 (sw_X12_fault) tw_9 hd_X12_fault mo_n0 mo_k0 (by decide) rfl rfl rfl ⟨Nat.le_trans (Nat.le_of_ble_eq_true rfl) hRf, Nat.le_trans (Nat.le_of_ble_eq_true rfl) hRl⟩ rfl hl.1 rfl (Nat.le_of_ble_eq_true rfl) dX12_lines_154 ⟨Nat.zero_le _, Nat.zero_le _⟩) hH (fun H locs hH => ?_)
                          have hH : nm_H D Y (fun q => s0 ≤ q) s.heap X moN ad (I17, nJ0, moZ) H locs := hH
                          exact hJ157  I17 _ _ _ hH (lv_sub hl [0, 1, 2, 3, 4, 6, 7] rfl) hf
                  refine lv_if_eq (tgt := 107) hx hb dX12_lines_86 (by decide) (fun c19 => ?_) (fun c19 => ?_)
                  · have hf := nm_it c19 hf
                    exact hJ107 x5 _ _ _ hH (lv_sub hl [0, 1, 2, 3, 4, 5, 6, 7, 8] rfl) hf
                  · have hf := nm_ie c19 hf
                    refine lv_iload hx hb dX12_lines_89 (lv_at hl 5 rfl) ?_
                    refine lv_if_ge (tgt := 107) hx hb dX12_lines_91 (by decide) (fun c20 => ?_) (fun c20 => ?_)
                    · have hf := nm_it c20 hf
                      exact hJ107 x5 _ _ _ hH (lv_sub hl [0, 1, 2, 3, 4, 5, 6, 7, 8] rfl) hf
                    · have hf := nm_ie c20 hf
                      refine lv_iload_n hx hb dX12_lines_94 rfl (lv_at hl 2 rfl) ?_
                      have hJ103 : ∀  (H : Heap) (locs : List Loc) (ls : Array Slot), nm_H D Y (fun q => s0 ≤ q) s.heap X moN ad (I5, nJ0, moZ) H locs → lv_has ls 9 [(0, .ref (ad 0)), (1, .int x1), (2, .int x2), (3, .int v2), (4, .int x4), (6, .int x6), (7, .int x7), (8, .int t68_0)] → f_X12_lines_J103 x1 v2 x4 x6 x7 t68_0 I5 (f_X12_lines_L31 x1 x2 v2 x4 n31) = some o31 → W p l e R s m args below meth c H locs 0 0 Q (F0 m 103 ls []) := by
                        intro  H locs ls hH hl hf
                        unfold f_X12_lines_J103 at hf
                        refine lv_iload hx hb dX12_lines_103 (lv_at hl 6 rfl) ?_
                        refine lv_istore (lv' := [(5, .int x7), (0, .ref (ad 0)), (1, .int x1), (2, .int x2), (3, .int v2), (4, .int x4), (6, .int x6), (7, .int x7), (8, .int t68_0)]) hx hb dX12_lines_105 hl (by decide) rfl (fun ls hl => ?_)
                        exact hJ107 x7 _ _ _ hH (lv_sub hl [1, 2, 3, 4, 5, 0, 6, 7, 8] rfl) hf
                      refine lv_if_eq (tgt := 103) hx hb dX12_lines_95 (by decide) (fun c21 => ?_) (fun c21 => ?_)
                      · have hf := nm_it c21 hf
                        exact hJ103  _ _ _ hH (lv_sub hl [0, 1, 2, 3, 4, 6, 7, 8] rfl) hf
                      · have hf := nm_ie c21 hf
                        refine lv_iload hx hb dX12_lines_98 (lv_at hl 6 rfl) ?_
                        refine lv_if_eq (tgt := 107) hx hb dX12_lines_100 (by decide) (fun c22 => ?_) (fun c22 => ?_)
                        · have hf := nm_it c22 hf
                          exact hJ107 x5 _ _ _ hH (lv_sub hl [0, 1, 2, 3, 4, 5, 6, 7, 8] rfl) hf
                        · have hf := nm_ie c22 hf
                          exact hJ103  _ _ _ hH (lv_sub hl [0, 1, 2, 3, 4, 6, 7, 8] rfl) hf
                refine lv_if_eq (tgt := 84) hx hb dX12_lines_71 (by decide) (fun c23 => ?_) (fun c23 => ?_)
                · have hf := nm_it c23 hf
                  exact hJ84 x5 _ _ _ hH (lv_sub hl [1, 2, 3, 4, 5, 6, 7, 8, 0] rfl) hf
                · have hf := nm_ie c23 hf
                  refine lv_iload hx hb dX12_lines_74 (lv_at hl 8 rfl) ?_
                  refine lv_bipush (v := 64) hx hb dX12_lines_76 (by decide) ?_
                  refine lv_icmp_ne (tgt := 84) hx hb dX12_lines_78 (by decide) (fun c24 => ?_) (fun c24 => ?_)
                  · have hf := nm_ie c24 hf
                    exact hJ84 x5 _ _ _ hH (lv_sub hl [1, 2, 3, 4, 5, 6, 7, 8, 0] rfl) hf
                  · have hf := nm_it c24 hf
                    refine lv_iconst (v := -1) hx hb dX12_lines_81 (by decide) ?_
                    refine lv_istore (lv' := [(5, .int (-1 : Int32)), (8, .int t68_0), (0, .ref (ad 0)), (1, .int x1), (2, .int x2), (3, .int v2), (4, .int x4), (6, .int x6), (7, .int x7)]) hx hb dX12_lines_82 hl (by decide) rfl (fun ls hl => ?_)
                    exact hJ84 (-1 : Int32) _ _ _ hH (lv_sub hl [2, 3, 4, 5, 6, 0, 7, 8, 1] rfl) hf
              have hJ67 : ∀  (H : Heap) (locs : List Loc) (ls : Array Slot), nm_H D Y (fun q => s0 ≤ q) s.heap X moN ad (I5, nJ0, moZ) H locs → lv_has ls 9 [(0, .ref (ad 0)), (1, .int x1), (2, .int x2), (3, .int v2), (4, .int x4), (5, .int x5), (6, .int x6), (7, .int x7)] → f_X12_lines_J67 x1 x2 v2 x4 x5 x6 x7 I5 (f_X12_lines_L31 x1 x2 v2 x4 n31) = some o31 → W p l e R s m args below meth c H locs 0 0 Q (F0 m 67 ls []) := by
                intro  H locs ls hH hl hf
                unfold f_X12_lines_J67 at hf
                refine lv_iconst (v := 0) hx hb dX12_lines_67 (by decide) ?_
                exact hJ68 (0 : Int32) _ _ _ hH (lv_sub hl [0, 1, 2, 3, 4, 5, 6, 7] rfl) hf
              refine lv_icmp_ge (tgt := 67) hx hb dX12_lines_42 (by decide) (fun c25 => ?_) (fun c25 => ?_)
              · have hf := nm_it c25 hf
                exact hJ67  _ _ _ hH (lv_sub hl [0, 1, 2, 3, 4, 5, 6, 7] rfl) hf
              · have hf := nm_ie c25 hf
                refine lv_aload_n hx hb dX12_lines_45 rfl (lv_at hl 0 rfl) ?_
                refine gf_12_19 hK hx hb hts hown hH mo_n0 mo_k0 (hts _ tw_975) (fun _ h9 => h9) dX12_lines_46 ?_
                refine lv_iload_n hx hb dX12_lines_49 rfl (lv_at hl 3 rfl) ?_
                refine lv_iload hx hb dX12_lines_50 (lv_at hl 4 rfl) ?_
                refine lv_iload hx hb dX12_lines_52 (lv_at hl 7 rfl) ?_
                refine nm_calli (nm_runS (X := X) (nl := moN) (k_X12_along (hf := (rfl : f_X12_along x4 x7 = _))) hx hb hml hown hts hs0 hK hZ hH tw_1362 tw_1360 tw_1361 tw_9 hd_X12_along rfl rfl ⟨Nat.le_trans (Nat.le_of_ble_eq_true rfl) hRf, Nat.le_trans (Nat.le_of_ble_eq_true rfl) hRl⟩ rfl hl.1 rfl (Nat.le_of_ble_eq_true rfl) dX12_lines_54 ⟨Nat.zero_le _, Nat.zero_le _⟩) hH (fun H locs hH => ?_)
                have hH : nm_H D Y (fun q => s0 ≤ q) s.heap X moN ad (I5, nJ0, moZ) H locs := hH
                refine lv_iadd hx hb dX12_lines_57 ?_
                obtain ⟨hi26, hf⟩ := nm_chk hf
                refine nm_zald hx hb hK hH mo_n20 mo_k20 mo_l20 hi26 dX12_lines_58 ?_
                refine lv_iload_n hx hb dX12_lines_59 rfl (lv_at hl 2 rfl) ?_
                refine lv_icmp_eq (tgt := 67) hx hb dX12_lines_60 (by decide) (fun c27 => ?_) (fun c27 => ?_)
                · have hf := nm_it c27 hf
                  exact hJ67  _ _ _ hH (lv_sub hl [0, 1, 2, 3, 4, 5, 6, 7] rfl) hf
                · have hf := nm_ie c27 hf
                  refine lv_iconst (v := 1) hx hb dX12_lines_63 (by decide) ?_
                  refine lv_goto (tgt := 68) hx hb dX12_lines_64 (by decide) ?_
                  exact hJ68 (1 : Int32) _ _ _ hH (lv_sub hl [0, 1, 2, 3, 4, 5, 6, 7] rfl) hf
        obtain ⟨I28, hl29, hf⟩ := nm_sd1 hf
        refine hL31 nm_F (-1 : Int32) (0 : Int32) (0 : Int32) I3 _ _ _ _ hH (lv_sub hl [3, 4, 5, 6, 7, 2, 1, 0] rfl) hl29 (fun H locs ls hH hl => ?_)
        have hl : lv_has ls 9 [(0, .ref (ad 0)), (1, .int x1), (2, .int x2), (3, .int v2), (4, .int x4)] := hl
        have hH : nm_H D Y (fun q => s0 ≤ q) s.heap X moN ad (I28, nJ0, moZ) H locs := hH
        refine lv_iinc (v := x4 + 1) (lv' := [(4, .int (x4 + 1)), (0, .ref (ad 0)), (1, .int x1), (2, .int x2), (3, .int v2)]) hx hb dX12_lines_202 hl (k := 4) rfl rfl (by decide) rfl (fun ls hl => ?_)
        refine lv_goto (tgt := 14) hx hb dX12_lines_205 (by decide) ?_
        exact ih14 (x4 + 1) I28 _ _ _ _ hH (lv_sub hl [1, 2, 3, 4, 0] rfl) hf hX14
  obtain ⟨I30, hl31, hf⟩ := nm_sd1 hf
  refine hL14 nm_F (0 : Int32) I _ _ _ _ hH (lv_sub hl [2, 3, 4, 1, 0] rfl) hl31 (fun H locs ls hH hl => ?_)
  have hl : lv_has ls 9 [] := hl
  have hH : nm_H D Y (fun q => s0 ≤ q) s.heap X moN ad (I30, nJ0, moZ) H locs := hH
  exact nm_vret hx hb hr hlocks hQ hH (congrArg (fun q => (q, nJ0, moZ)) (Option.some.inj hf)) dX12_lines_208
