def f_X12_touches_L2 (x1 : Int32) : Nat → Int32 → nm_I → Option (nm_I)
  | 0, _, _ => none
  | n2 + 1, x2, I1 =>
(if (I1 0 33) ≤ x2 then
some I1
else
nm_c x2 4096 (
nm_l (nm_up I1 33 x2.toNatClampNeg (vp_nar .boolean (0 : Int32))) fun I4 =>
f_X12_touches_L2 x1 n2 (x2 + 1) I4))
def f_X12_touches_J73 (x1 : Int32) (x2 : Int32) (I9 : nm_I) (k : Int32 → nm_I → Option (nm_I)) : Option (nm_I) :=
k (x2 + 1) I9
def f_X12_touches_L25 (x1 : Int32) : Nat → Int32 → nm_I → Option (nm_I)
  | 0, _, _ => none
  | n25 + 1, x2, I6 =>
(if (4096 : Int32) ≤ x2 then
some I6
else
nm_c x2 4096 (
(if (I6 28 x2.toNatClampNeg) < 0 then
f_X12_touches_J73 x1 x2 I6 (f_X12_touches_L25 x1 n25)
else
nm_c x1 16 (
nm_c (((4096 : Int32) * (I6 11 x1.toNatClampNeg)) + x2) 65536 (
(if (I6 20 (((4096 : Int32) * (I6 11 x1.toNatClampNeg)) + x2).toNatClampNeg) = 0 then
f_X12_touches_J73 x1 x2 I6 (f_X12_touches_L25 x1 n25)
else
nm_c x2 4096 (
nm_c (I6 28 x2.toNatClampNeg) 4096 (
nm_l (nm_up I6 33 ((I6 28 x2.toNatClampNeg).toNatClampNeg) (vp_nar .boolean (1 : Int32))) fun I16 =>
f_X12_touches_J73 x1 x2 I16 (f_X12_touches_L25 x1 n25)))))))))
def f_X12_touches_J127 (x1 : Int32) (x2 : Int32) (t2 : Int32) (t1 : Int32) (I21 : nm_I) (k : Int32 → nm_I → Option (nm_I)) : Option (nm_I) :=
nm_c t1 65536 (
nm_l (nm_up I21 20 t1.toNatClampNeg (vp_nar .boolean t2)) fun I23 =>
k (x2 + 1) I23)
def f_X12_touches_J126 (x1 : Int32) (x2 : Int32) (t1 : Int32) (I24 : nm_I) (k : Int32 → nm_I → Option (nm_I)) : Option (nm_I) :=
f_X12_touches_J127 x1 x2 (0 : Int32) t1 I24 k
def f_X12_touches_L81 (x1 : Int32) : Nat → Int32 → nm_I → Option (nm_I)
  | 0, _, _ => none
  | n81 + 1, x2, I18 =>
(if (4096 : Int32) ≤ x2 then
some I18
else
nm_c x2 4096 (
(if (I18 28 x2.toNatClampNeg) < 0 then
f_X12_touches_J126 x1 x2 (((4096 : Int32) * x1) + x2) I18 (f_X12_touches_L81 x1 n81)
else
nm_c x2 4096 (
nm_c (I18 28 x2.toNatClampNeg) 4096 (
(if (I18 33 (I18 28 x2.toNatClampNeg).toNatClampNeg) = 0 then
f_X12_touches_J126 x1 x2 (((4096 : Int32) * x1) + x2) I18 (f_X12_touches_L81 x1 n81)
else
f_X12_touches_J127 x1 x2 (1 : Int32) (((4096 : Int32) * x1) + x2) I18 (f_X12_touches_L81 x1 n81)))))))
def f_X12_touches (x1 : Int32) (I : nm_I) : Option (nm_I) :=
nm_s1 (f_X12_touches_L2 x1 nm_F (0 : Int32) I) fun I5 =>
nm_s1 (f_X12_touches_L25 x1 nm_F (0 : Int32) I5) fun I17 =>
nm_s1 (f_X12_touches_L81 x1 nm_F (0 : Int32) I17) fun I29 =>
some I29
set_option maxHeartbeats 4000000 in
set_option maxRecDepth 100000 in
theorem k_X12_touches {l : Launch} {D : va_G} {Y : nm_Y} {s0 : Nat} {X : va_W} {ad : Nat → Nat}  {x1 : Int32} {I : nm_I} {M0 : nm_I} (hf : f_X12_touches x1 I = some M0) :
    nm_Met l yX12_touches cX12_touches 3 none { frames := 0, cells := 0, slots := 0, locals := 0 } [.ref (ad 0), .int x1] D Y s0 (nm_W Y X moN ad (I, nJ0, moZ)) (nm_Qv D s0 (nm_W Y X moN ad (M0, nJ0, moZ))) 0 0 := by
  refine nm_of (by decide) (Nat.le_of_ble_eq_true rfl) ?_
  intro p e R s m args below meth c Q ls hx hb hr hlocks hml hown hts hs0 hK hZ hRf hRl hRc hRs hQ hP hD hl
  have hH : nm_H D Y (fun q => s0 ≤ q) s.heap X moN ad (I, nJ0, moZ) s.heap [] := ⟨hP, hD, va_S.rf⟩
  have hl : lv_has ls 3 [(0, .ref (ad 0)), (1, .int x1)] := hl
  unfold f_X12_touches at hf
  refine lv_iconst (v := 0) hx hb dX12_touches_0 (by decide) ?_
  refine lv_istore_n (lv' := [(2, .int (0 : Int32)), (0, .ref (ad 0)), (1, .int x1)]) hx hb dX12_touches_1 rfl hl (by decide) rfl (fun ls hl => ?_)
  have hL2 : ∀ (n2 : Nat) (x1 : Int32) (x2 : Int32) (I1 : nm_I) (H : Heap) (locs : List Loc) (ls : Array Slot) (o2 : nm_I), nm_H D Y (fun q => s0 ≤ q) s.heap X moN ad (I1, nJ0, moZ) H locs → lv_has ls 3 [(0, .ref (ad 0)), (1, .int x1), (2, .int x2)] → f_X12_touches_L2 x1 n2 x2 I1 = some o2 → (∀ (H : Heap) (locs : List Loc) (ls : Array Slot), nm_H D Y (fun q => s0 ≤ q) s.heap X moN ad (o2, nJ0, moZ) H locs → lv_has ls 3 [(0, .ref (ad 0)), (1, .int x1)] → W p l e R s m args below meth c H locs 0 0 Q (F0 m 23 ls [])) → W p l e R s m args below meth c H locs 0 0 Q (F0 m 2 ls []) := by
    intro n2
    induction n2 with
    | zero =>
      intro x1 x2 I1 H locs ls o2 hH hl hf hX2
      cases hf
    | succ n2 ih2 =>
      intro x1 x2 I1 H locs ls o2 hH hl hf hX2
      rw [f_X12_touches_L2] at hf
      refine lv_iload_n hx hb dX12_touches_2 rfl (lv_at hl 2 rfl) ?_
      refine lv_aload_n hx hb dX12_touches_3 rfl (lv_at hl 0 rfl) ?_
      refine gf_12_33 hK hx hb hts hown hH mo_n0 mo_k0 (hts _ tw_989) (fun _ h9 => h9) dX12_touches_4 ?_
      refine lv_icmp_ge (tgt := 23) hx hb dX12_touches_7 (by decide) (fun c2 => ?_) (fun c2 => ?_)
      · have hf := nm_it c2 hf
        cases hf
        exact hX2 _ _ _ hH (lv_sub hl [0, 1] rfl)
      · have hf := nm_ie c2 hf
        refine lv_aload_n hx hb dX12_touches_10 rfl (lv_at hl 0 rfl) ?_
        refine gf_12_32 hK hx hb hts hown hH mo_n0 mo_k0 (hts _ tw_988) (fun _ h9 => h9) dX12_touches_11 ?_
        refine lv_iload_n hx hb dX12_touches_14 rfl (lv_at hl 2 rfl) ?_
        refine lv_iconst (v := 0) hx hb dX12_touches_15 (by decide) ?_
        obtain ⟨hi3, hf⟩ := nm_chk hf
        obtain ⟨I4, eI4, hf⟩ := nm_let hf
        refine nm_zast hx hb hK hH mo_n33 mo_k33 mo_l33 hi3 dX12_touches_16 (fun H locs hH => ?_)
        have hH : nm_H D Y (fun q => s0 ≤ q) s.heap X moN ad (I4, nJ0, moZ) H locs := by rw [eI4]; exact hH
        refine lv_iinc (v := x2 + 1) (lv' := [(2, .int (x2 + 1)), (0, .ref (ad 0)), (1, .int x1)]) hx hb dX12_touches_17 hl (k := 2) rfl rfl (by decide) rfl (fun ls hl => ?_)
        refine lv_goto (tgt := 2) hx hb dX12_touches_20 (by decide) ?_
        exact ih2 x1 (x2 + 1) I4 _ _ _ _ hH (lv_sub hl [1, 2, 0] rfl) hf hX2
  obtain ⟨I5, hl32, hf⟩ := nm_sd1 hf
  refine hL2 nm_F x1 (0 : Int32) I _ _ _ _ hH (lv_sub hl [1, 2, 0] rfl) hl32 (fun H locs ls hH hl => ?_)
  have hl : lv_has ls 3 [(0, .ref (ad 0)), (1, .int x1)] := hl
  have hH : nm_H D Y (fun q => s0 ≤ q) s.heap X moN ad (I5, nJ0, moZ) H locs := hH
  refine lv_iconst (v := 0) hx hb dX12_touches_23 (by decide) ?_
  refine lv_istore_n (lv' := [(2, .int (0 : Int32)), (0, .ref (ad 0)), (1, .int x1)]) hx hb dX12_touches_24 rfl hl (by decide) rfl (fun ls hl => ?_)
  have hL25 : ∀ (n25 : Nat) (x1 : Int32) (x2 : Int32) (I6 : nm_I) (H : Heap) (locs : List Loc) (ls : Array Slot) (o25 : nm_I), nm_H D Y (fun q => s0 ≤ q) s.heap X moN ad (I6, nJ0, moZ) H locs → lv_has ls 3 [(0, .ref (ad 0)), (1, .int x1), (2, .int x2)] → f_X12_touches_L25 x1 n25 x2 I6 = some o25 → (∀ (H : Heap) (locs : List Loc) (ls : Array Slot), nm_H D Y (fun q => s0 ≤ q) s.heap X moN ad (o25, nJ0, moZ) H locs → lv_has ls 3 [(0, .ref (ad 0)), (1, .int x1)] → W p l e R s m args below meth c H locs 0 0 Q (F0 m 79 ls [])) → W p l e R s m args below meth c H locs 0 0 Q (F0 m 25 ls []) := by
    intro n25
    induction n25 with
    | zero =>
      intro x1 x2 I6 H locs ls o25 hH hl hf hX25
      cases hf
    | succ n25 ih25 =>
      intro x1 x2 I6 H locs ls o25 hH hl hf hX25
      rw [f_X12_touches_L25] at hf
      refine lv_iload_n hx hb dX12_touches_25 rfl (lv_at hl 2 rfl) ?_
      refine lv_sipush (v := 4096) hx hb dX12_touches_26 (by decide) ?_
      refine lv_icmp_ge (tgt := 79) hx hb dX12_touches_29 (by decide) (fun c7 => ?_) (fun c7 => ?_)
      · have hf := nm_it c7 hf
        cases hf
        exact hX25 _ _ _ hH (lv_sub hl [0, 1] rfl)
      · have hf := nm_ie c7 hf
        refine lv_aload_n hx hb dX12_touches_32 rfl (lv_at hl 0 rfl) ?_
        refine gf_12_27 hK hx hb hts hown hH mo_n0 mo_k0 (hts _ tw_983) (fun _ h9 => h9) dX12_touches_33 ?_
        refine lv_iload_n hx hb dX12_touches_36 rfl (lv_at hl 2 rfl) ?_
        obtain ⟨hi8, hf⟩ := nm_chk hf
        refine nm_iald hx hb hK hH mo_n28 mo_k28 mo_l28 hi8 dX12_touches_37 ?_
        have hJ73 : ∀ (x1 : Int32) (x2 : Int32) (I9 : nm_I) (H : Heap) (locs : List Loc) (ls : Array Slot), nm_H D Y (fun q => s0 ≤ q) s.heap X moN ad (I9, nJ0, moZ) H locs → lv_has ls 3 [(0, .ref (ad 0)), (1, .int x1), (2, .int x2)] → f_X12_touches_J73 x1 x2 I9 (f_X12_touches_L25 x1 n25) = some o25 → W p l e R s m args below meth c H locs 0 0 Q (F0 m 73 ls []) := by
          intro x1 x2 I9 H locs ls hH hl hf
          unfold f_X12_touches_J73 at hf
          refine lv_iinc (v := x2 + 1) (lv' := [(2, .int (x2 + 1)), (0, .ref (ad 0)), (1, .int x1)]) hx hb dX12_touches_73 hl (k := 2) rfl rfl (by decide) rfl (fun ls hl => ?_)
          refine lv_goto (tgt := 25) hx hb dX12_touches_76 (by decide) ?_
          exact ih25 x1 (x2 + 1) I9 _ _ _ _ hH (lv_sub hl [1, 2, 0] rfl) hf hX25
        refine lv_if_lt (tgt := 73) hx hb dX12_touches_38 (by decide) (fun c10 => ?_) (fun c10 => ?_)
        · have hf := nm_it c10 hf
          exact hJ73 x1 x2 I6 _ _ _ hH (lv_sub hl [0, 1, 2] rfl) hf
        · have hf := nm_ie c10 hf
          refine lv_aload_n hx hb dX12_touches_41 rfl (lv_at hl 0 rfl) ?_
          refine gf_12_19 hK hx hb hts hown hH mo_n0 mo_k0 (hts _ tw_975) (fun _ h9 => h9) dX12_touches_42 ?_
          refine lv_sipush (v := 4096) hx hb dX12_touches_45 (by decide) ?_
          refine lv_aload_n hx hb dX12_touches_48 rfl (lv_at hl 0 rfl) ?_
          refine gf_12_10 hK hx hb hts hown hH mo_n0 mo_k0 (hts _ tw_966) (fun _ h9 => h9) dX12_touches_49 ?_
          refine lv_iload_n hx hb dX12_touches_52 rfl (lv_at hl 1 rfl) ?_
          obtain ⟨hi11, hf⟩ := nm_chk hf
          refine nm_iald hx hb hK hH mo_n11 mo_k11 mo_l11 hi11 dX12_touches_53 ?_
          refine lv_imul hx hb dX12_touches_54 ?_
          refine lv_iload_n hx hb dX12_touches_55 rfl (lv_at hl 2 rfl) ?_
          refine lv_iadd hx hb dX12_touches_56 ?_
          obtain ⟨hi12, hf⟩ := nm_chk hf
          refine nm_zald hx hb hK hH mo_n20 mo_k20 mo_l20 hi12 dX12_touches_57 ?_
          refine lv_if_eq (tgt := 73) hx hb dX12_touches_58 (by decide) (fun c13 => ?_) (fun c13 => ?_)
          · have hf := nm_it c13 hf
            exact hJ73 x1 x2 I6 _ _ _ hH (lv_sub hl [0, 1, 2] rfl) hf
          · have hf := nm_ie c13 hf
            refine lv_aload_n hx hb dX12_touches_61 rfl (lv_at hl 0 rfl) ?_
            refine gf_12_32 hK hx hb hts hown hH mo_n0 mo_k0 (hts _ tw_988) (fun _ h9 => h9) dX12_touches_62 ?_
            refine lv_aload_n hx hb dX12_touches_65 rfl (lv_at hl 0 rfl) ?_
            refine gf_12_27 hK hx hb hts hown hH mo_n0 mo_k0 (hts _ tw_983) (fun _ h9 => h9) dX12_touches_66 ?_
            refine lv_iload_n hx hb dX12_touches_69 rfl (lv_at hl 2 rfl) ?_
            obtain ⟨hi14, hf⟩ := nm_chk hf
            refine nm_iald hx hb hK hH mo_n28 mo_k28 mo_l28 hi14 dX12_touches_70 ?_
            refine lv_iconst (v := 1) hx hb dX12_touches_71 (by decide) ?_
            obtain ⟨hi15, hf⟩ := nm_chk hf
            obtain ⟨I16, eI16, hf⟩ := nm_let hf
            refine nm_zast hx hb hK hH mo_n33 mo_k33 mo_l33 hi15 dX12_touches_72 (fun H locs hH => ?_)
            have hH : nm_H D Y (fun q => s0 ≤ q) s.heap X moN ad (I16, nJ0, moZ) H locs := by rw [eI16]; exact hH
            exact hJ73 x1 x2 I16 _ _ _ hH (lv_sub hl [0, 1, 2] rfl) hf
  obtain ⟨I17, hl31, hf⟩ := nm_sd1 hf
  refine hL25 nm_F x1 (0 : Int32) I5 _ _ _ _ hH (lv_sub hl [1, 2, 0] rfl) hl31 (fun H locs ls hH hl => ?_)
  have hl : lv_has ls 3 [(0, .ref (ad 0)), (1, .int x1)] := hl
  have hH : nm_H D Y (fun q => s0 ≤ q) s.heap X moN ad (I17, nJ0, moZ) H locs := hH
  refine lv_iconst (v := 0) hx hb dX12_touches_79 (by decide) ?_
  refine lv_istore_n (lv' := [(2, .int (0 : Int32)), (0, .ref (ad 0)), (1, .int x1)]) hx hb dX12_touches_80 rfl hl (by decide) rfl (fun ls hl => ?_)
  have hL81 : ∀ (n81 : Nat) (x1 : Int32) (x2 : Int32) (I18 : nm_I) (H : Heap) (locs : List Loc) (ls : Array Slot) (o81 : nm_I), nm_H D Y (fun q => s0 ≤ q) s.heap X moN ad (I18, nJ0, moZ) H locs → lv_has ls 3 [(0, .ref (ad 0)), (1, .int x1), (2, .int x2)] → f_X12_touches_L81 x1 n81 x2 I18 = some o81 → (∀ (H : Heap) (locs : List Loc) (ls : Array Slot), nm_H D Y (fun q => s0 ≤ q) s.heap X moN ad (o81, nJ0, moZ) H locs → lv_has ls 3 [] → W p l e R s m args below meth c H locs 0 0 Q (F0 m 134 ls [])) → W p l e R s m args below meth c H locs 0 0 Q (F0 m 81 ls []) := by
    intro n81
    induction n81 with
    | zero =>
      intro x1 x2 I18 H locs ls o81 hH hl hf hX81
      cases hf
    | succ n81 ih81 =>
      intro x1 x2 I18 H locs ls o81 hH hl hf hX81
      rw [f_X12_touches_L81] at hf
      refine lv_iload_n hx hb dX12_touches_81 rfl (lv_at hl 2 rfl) ?_
      refine lv_sipush (v := 4096) hx hb dX12_touches_82 (by decide) ?_
      refine lv_icmp_ge (tgt := 134) hx hb dX12_touches_85 (by decide) (fun c19 => ?_) (fun c19 => ?_)
      · have hf := nm_it c19 hf
        cases hf
        exact hX81 _ _ _ hH (lv_sub hl [] rfl)
      · have hf := nm_ie c19 hf
        refine lv_aload_n hx hb dX12_touches_88 rfl (lv_at hl 0 rfl) ?_
        refine gf_12_19 hK hx hb hts hown hH mo_n0 mo_k0 (hts _ tw_975) (fun _ h9 => h9) dX12_touches_89 ?_
        refine lv_sipush (v := 4096) hx hb dX12_touches_92 (by decide) ?_
        refine lv_iload_n hx hb dX12_touches_95 rfl (lv_at hl 1 rfl) ?_
        refine lv_imul hx hb dX12_touches_96 ?_
        refine lv_iload_n hx hb dX12_touches_97 rfl (lv_at hl 2 rfl) ?_
        refine lv_iadd hx hb dX12_touches_98 ?_
        refine lv_aload_n hx hb dX12_touches_99 rfl (lv_at hl 0 rfl) ?_
        refine gf_12_27 hK hx hb hts hown hH mo_n0 mo_k0 (hts _ tw_983) (fun _ h9 => h9) dX12_touches_100 ?_
        refine lv_iload_n hx hb dX12_touches_103 rfl (lv_at hl 2 rfl) ?_
        obtain ⟨hi20, hf⟩ := nm_chk hf
        refine nm_iald hx hb hK hH mo_n28 mo_k28 mo_l28 hi20 dX12_touches_104 ?_
        have hJ127 : ∀ (x1 : Int32) (x2 : Int32) (t2 : Int32) (t1 : Int32) (I21 : nm_I) (H : Heap) (locs : List Loc) (ls : Array Slot), nm_H D Y (fun q => s0 ≤ q) s.heap X moN ad (I21, nJ0, moZ) H locs → lv_has ls 3 [(0, .ref (ad 0)), (1, .int x1), (2, .int x2)] → f_X12_touches_J127 x1 x2 t2 t1 I21 (f_X12_touches_L81 x1 n81) = some o81 → W p l e R s m args below meth c H locs 0 0 Q (F0 m 127 ls [.int t2, .int t1, .ref (ad 20)]) := by
          intro x1 x2 t2 t1 I21 H locs ls hH hl hf
          unfold f_X12_touches_J127 at hf
          obtain ⟨hi22, hf⟩ := nm_chk hf
          obtain ⟨I23, eI23, hf⟩ := nm_let hf
          refine nm_zast hx hb hK hH mo_n20 mo_k20 mo_l20 hi22 dX12_touches_127 (fun H locs hH => ?_)
          have hH : nm_H D Y (fun q => s0 ≤ q) s.heap X moN ad (I23, nJ0, moZ) H locs := by rw [eI23]; exact hH
          refine lv_iinc (v := x2 + 1) (lv' := [(2, .int (x2 + 1)), (0, .ref (ad 0)), (1, .int x1)]) hx hb dX12_touches_128 hl (k := 2) rfl rfl (by decide) rfl (fun ls hl => ?_)
          refine lv_goto (tgt := 81) hx hb dX12_touches_131 (by decide) ?_
          exact ih81 x1 (x2 + 1) I23 _ _ _ _ hH (lv_sub hl [1, 2, 0] rfl) hf hX81
        have hJ126 : ∀ (x1 : Int32) (x2 : Int32) (t1 : Int32) (I24 : nm_I) (H : Heap) (locs : List Loc) (ls : Array Slot), nm_H D Y (fun q => s0 ≤ q) s.heap X moN ad (I24, nJ0, moZ) H locs → lv_has ls 3 [(0, .ref (ad 0)), (1, .int x1), (2, .int x2)] → f_X12_touches_J126 x1 x2 t1 I24 (f_X12_touches_L81 x1 n81) = some o81 → W p l e R s m args below meth c H locs 0 0 Q (F0 m 126 ls [.int t1, .ref (ad 20)]) := by
          intro x1 x2 t1 I24 H locs ls hH hl hf
          unfold f_X12_touches_J126 at hf
          refine lv_iconst (v := 0) hx hb dX12_touches_126 (by decide) ?_
          exact hJ127 x1 x2 (0 : Int32) t1 I24 _ _ _ hH (lv_sub hl [0, 1, 2] rfl) hf
        refine lv_if_lt (tgt := 126) hx hb dX12_touches_105 (by decide) (fun c25 => ?_) (fun c25 => ?_)
        · have hf := nm_it c25 hf
          exact hJ126 x1 x2 (((4096 : Int32) * x1) + x2) I18 _ _ _ hH (lv_sub hl [0, 1, 2] rfl) hf
        · have hf := nm_ie c25 hf
          refine lv_aload_n hx hb dX12_touches_108 rfl (lv_at hl 0 rfl) ?_
          refine gf_12_32 hK hx hb hts hown hH mo_n0 mo_k0 (hts _ tw_988) (fun _ h9 => h9) dX12_touches_109 ?_
          refine lv_aload_n hx hb dX12_touches_112 rfl (lv_at hl 0 rfl) ?_
          refine gf_12_27 hK hx hb hts hown hH mo_n0 mo_k0 (hts _ tw_983) (fun _ h9 => h9) dX12_touches_113 ?_
          refine lv_iload_n hx hb dX12_touches_116 rfl (lv_at hl 2 rfl) ?_
          obtain ⟨hi26, hf⟩ := nm_chk hf
          refine nm_iald hx hb hK hH mo_n28 mo_k28 mo_l28 hi26 dX12_touches_117 ?_
          obtain ⟨hi27, hf⟩ := nm_chk hf
          refine nm_zald hx hb hK hH mo_n33 mo_k33 mo_l33 hi27 dX12_touches_118 ?_
          refine lv_if_eq (tgt := 126) hx hb dX12_touches_119 (by decide) (fun c28 => ?_) (fun c28 => ?_)
          · have hf := nm_it c28 hf
            exact hJ126 x1 x2 (((4096 : Int32) * x1) + x2) I18 _ _ _ hH (lv_sub hl [0, 1, 2] rfl) hf
          · have hf := nm_ie c28 hf
            refine lv_iconst (v := 1) hx hb dX12_touches_122 (by decide) ?_
            refine lv_goto (tgt := 127) hx hb dX12_touches_123 (by decide) ?_
            exact hJ127 x1 x2 (1 : Int32) (((4096 : Int32) * x1) + x2) I18 _ _ _ hH (lv_sub hl [0, 1, 2] rfl) hf
  obtain ⟨I29, hl30, hf⟩ := nm_sd1 hf
  refine hL81 nm_F x1 (0 : Int32) I17 _ _ _ _ hH (lv_sub hl [1, 2, 0] rfl) hl30 (fun H locs ls hH hl => ?_)
  have hl : lv_has ls 3 [] := hl
  have hH : nm_H D Y (fun q => s0 ≤ q) s.heap X moN ad (I29, nJ0, moZ) H locs := hH
  exact nm_vret hx hb hr hlocks hQ hH (congrArg (fun q => (q, nJ0, moZ)) (Option.some.inj hf)) dX12_touches_134
def f_X12_makes_J313 (x1 : Int32) (x2 : Int32) (x3 : Int32) (I11 : nm_I) (k : Int32 → nm_I → Option (nm_I)) : Option (nm_I) :=
k (x3 + 1) I11
def f_X12_makes_J190 (x1 : Int32) (x2 : Int32) (x3 : Int32) (t2 : Int32) (t1 : Int32) (I13 : nm_I) (k : Int32 → nm_I → Option (nm_I)) : Option (nm_I) :=
nm_c t1 65536 (
nm_l (nm_up I13 20 t1.toNatClampNeg (vp_nar .boolean t2)) fun I15 =>
f_X12_makes_J313 x1 x2 x3 I15 k)
def f_X12_makes_J189 (x1 : Int32) (x2 : Int32) (x3 : Int32) (t1 : Int32) (I16 : nm_I) (k : Int32 → nm_I → Option (nm_I)) : Option (nm_I) :=
f_X12_makes_J190 x1 x2 x3 (0 : Int32) t1 I16 k
def f_X12_makes_J216 (x1 : Int32) (x2 : Int32) (x3 : Int32) (t2 : Int32) (t1 : Int32) (I20 : nm_I) (k : Int32 → nm_I → Option (nm_I)) : Option (nm_I) :=
nm_c t1 65536 (
nm_l (nm_up I20 20 t1.toNatClampNeg (vp_nar .boolean t2)) fun I22 =>
f_X12_makes_J313 x1 x2 x3 I22 k)
def f_X12_makes_J211 (x1 : Int32) (x2 : Int32) (x3 : Int32) (t1 : Int32) (I23 : nm_I) (k : Int32 → nm_I → Option (nm_I)) : Option (nm_I) :=
f_X12_makes_J216 x1 x2 x3 (1 : Int32) t1 I23 k
def f_X12_makes_J242 (x1 : Int32) (x2 : Int32) (x3 : Int32) (t2 : Int32) (t1 : Int32) (I27 : nm_I) (k : Int32 → nm_I → Option (nm_I)) : Option (nm_I) :=
nm_c t1 65536 (
nm_l (nm_up I27 20 t1.toNatClampNeg (vp_nar .boolean t2)) fun I29 =>
f_X12_makes_J313 x1 x2 x3 I29 k)
def f_X12_makes_J241 (x1 : Int32) (x2 : Int32) (x3 : Int32) (t1 : Int32) (I30 : nm_I) (k : Int32 → nm_I → Option (nm_I)) : Option (nm_I) :=
f_X12_makes_J242 x1 x2 x3 (0 : Int32) t1 I30 k
def f_X12_makes_J125 (x1 : Int32) (x2 : Int32) (x3 : Int32) (x4 : Int32) (t0 : Int32) (I9 : nm_I) (k : Int32 → nm_I → Option (nm_I)) : Option (nm_I) :=
nm_c x1 16 (
(if (I9 9 x1.toNatClampNeg) = (0 : Int32) then
(if x4 = 0 then
f_X12_makes_J189 x1 x2 x3 (x2 + x3) I9 k
else
(if t0 = 0 then
f_X12_makes_J189 x1 x2 x3 (x2 + x3) I9 k
else
f_X12_makes_J190 x1 x2 x3 (1 : Int32) (x2 + x3) I9 k))
else
if (I9 9 x1.toNatClampNeg) = (1 : Int32) then
(if x4 = 0 then
(if t0 = 0 then
f_X12_makes_J216 x1 x2 x3 (0 : Int32) (x2 + x3) I9 k
else
f_X12_makes_J211 x1 x2 x3 (x2 + x3) I9 k)
else
f_X12_makes_J211 x1 x2 x3 (x2 + x3) I9 k)
else
if (I9 9 x1.toNatClampNeg) = (2 : Int32) then
(if x4 = 0 then
f_X12_makes_J241 x1 x2 x3 (x2 + x3) I9 k
else
(if t0 = 0 then
f_X12_makes_J242 x1 x2 x3 (1 : Int32) (x2 + x3) I9 k
else
f_X12_makes_J241 x1 x2 x3 (x2 + x3) I9 k))
else
if (I9 9 x1.toNatClampNeg) = (3 : Int32) then
nm_c x1 16 (
nm_c x1 16 (
nm_s1 (f_X12_around (I9 10 x1.toNatClampNeg) x3 (I9 11 x1.toNatClampNeg) (0 : Int32) I9) fun r36 =>
nm_c (x2 + x3) 65536 (
nm_l (nm_up I9 20 ((x2 + x3).toNatClampNeg) (vp_nar .boolean r36)) fun I39 =>
f_X12_makes_J313 x1 x2 x3 I39 k)))
else
if (I9 9 x1.toNatClampNeg) = (4 : Int32) then
nm_c x1 16 (
nm_c x1 16 (
nm_s1 (f_X12_around (I9 10 x1.toNatClampNeg) x3 (I9 11 x1.toNatClampNeg) (1 : Int32) I9) fun r43 =>
nm_c (x2 + x3) 65536 (
nm_l (nm_up I9 20 ((x2 + x3).toNatClampNeg) (vp_nar .boolean r43)) fun I46 =>
f_X12_makes_J313 x1 x2 x3 I46 k)))
else
nm_c (x2 + x3) 65536 (
nm_l (nm_up I9 20 ((x2 + x3).toNatClampNeg) (vp_nar .boolean (0 : Int32))) fun I48 =>
f_X12_makes_J313 x1 x2 x3 I48 k)))
def f_X12_makes_J124 (x1 : Int32) (x2 : Int32) (x3 : Int32) (x4 : Int32) (I49 : nm_I) (k : Int32 → nm_I → Option (nm_I)) : Option (nm_I) :=
f_X12_makes_J125 x1 x2 x3 x4 (0 : Int32) I49 k
def f_X12_makes_J79 (x1 : Int32) (x2 : Int32) (x3 : Int32) (t0 : Int32) (I7 : nm_I) (k : Int32 → nm_I → Option (nm_I)) : Option (nm_I) :=
nm_c x1 16 (
(if (I7 9 x1.toNatClampNeg) < 0 then
f_X12_makes_J124 x1 x2 x3 t0 I7 k
else
nm_c x1 16 (
(if (3 : Int32) ≤ (I7 9 x1.toNatClampNeg) then
f_X12_makes_J124 x1 x2 x3 t0 I7 k
else
nm_c x1 16 (
nm_c (((4096 : Int32) * (I7 11 x1.toNatClampNeg)) + x3) 65536 (
(if (I7 20 (((4096 : Int32) * (I7 11 x1.toNatClampNeg)) + x3).toNatClampNeg) = 0 then
f_X12_makes_J124 x1 x2 x3 t0 I7 k
else
f_X12_makes_J125 x1 x2 x3 t0 (1 : Int32) I7 k)))))))
def f_X12_makes_J78 (x1 : Int32) (x2 : Int32) (x3 : Int32) (I56 : nm_I) (k : Int32 → nm_I → Option (nm_I)) : Option (nm_I) :=
f_X12_makes_J79 x1 x2 x3 (0 : Int32) I56 k
def f_X12_makes_L38 (x1 : Int32) (x2 : Int32) : Nat → Int32 → nm_I → Option (nm_I)
  | 0, _, _ => none
  | n38 + 1, x3, I4 =>
(if (4096 : Int32) ≤ x3 then
some I4
else
nm_c x1 16 (
(if (I4 9 x1.toNatClampNeg) < 0 then
f_X12_makes_J78 x1 x2 x3 I4 (f_X12_makes_L38 x1 x2 n38)
else
nm_c x1 16 (
nm_c (((4096 : Int32) * (I4 10 x1.toNatClampNeg)) + x3) 65536 (
(if (I4 20 (((4096 : Int32) * (I4 10 x1.toNatClampNeg)) + x3).toNatClampNeg) = 0 then
f_X12_makes_J78 x1 x2 x3 I4 (f_X12_makes_L38 x1 x2 n38)
else
f_X12_makes_J79 x1 x2 x3 (1 : Int32) I4 (f_X12_makes_L38 x1 x2 n38)))))))
def f_X12_makes_J36 (x1 : Int32) (x2 : Int32) (I3 : nm_I) : Option (nm_I) :=
nm_s1 (f_X12_makes_L38 x1 x2 nm_F (0 : Int32) I3) fun I61 =>
nm_c x1 16 (
(if (I61 9 x1.toNatClampNeg) = (5 : Int32) then
nm_s1 (f_X12_touches x1 I61) fun I64 =>
some I64
else
some I61))
def f_X12_makes (x1 : Int32) (I : nm_I) : Option (nm_I) :=
nm_l ((4096 : Int32) * x1) fun v1 =>
nm_c x1 16 (
(if (I 9 x1.toNatClampNeg) = (5 : Int32) then
nm_c x1 16 (
nm_c x1 16 (
nm_s1 (f_X12_findPieces ((4096 : Int32) * (I 10 x1.toNatClampNeg)) (I 10 x1.toNatClampNeg) I) fun I70 =>
f_X12_makes_J36 x1 v1 I70))
else
f_X12_makes_J36 x1 v1 I))
set_option maxHeartbeats 4000000 in
set_option maxRecDepth 100000 in
theorem k_X12_makes {l : Launch} {D : va_G} {Y : nm_Y} {s0 : Nat} {X : va_W} {ad : Nat → Nat}  {x1 : Int32} {I : nm_I} {M0 : nm_I} (hf : f_X12_makes x1 I = some M0) :
    nm_Met l yX12_makes cX12_makes 6 none { frames := 2, cells := 0, slots := 0, locals := 52 } [.ref (ad 0), .int x1] D Y s0 (nm_W Y X moN ad (I, nJ0, moZ)) (nm_Qv D s0 (nm_W Y X moN ad (M0, nJ0, moZ))) 0 0 := by
  refine nm_of (by decide) (Nat.le_of_ble_eq_true rfl) ?_
  intro p e R s m args below meth c Q ls hx hb hr hlocks hml hown hts hs0 hK hZ hRf hRl hRc hRs hQ hP hD hl
  have hH : nm_H D Y (fun q => s0 ≤ q) s.heap X moN ad (I, nJ0, moZ) s.heap [] := ⟨hP, hD, va_S.rf⟩
  have hl : lv_has ls 6 [(0, .ref (ad 0)), (1, .int x1)] := hl
  unfold f_X12_makes at hf
  refine lv_sipush (v := 4096) hx hb dX12_makes_0 (by decide) ?_
  refine lv_iload_n hx hb dX12_makes_3 rfl (lv_at hl 1 rfl) ?_
  refine lv_imul hx hb dX12_makes_4 ?_
  obtain ⟨v1, ev1, hf⟩ := nm_let hf
  refine nm_topi ev1 ?_
  refine lv_istore_n (lv' := [(2, .int v1), (0, .ref (ad 0)), (1, .int x1)]) hx hb dX12_makes_5 rfl hl (by decide) rfl (fun ls hl => ?_)
  refine lv_aload_n hx hb dX12_makes_6 rfl (lv_at hl 1 rfl) ?_
  refine gf_12_8 hK hx hb hts hown hH mo_n0 mo_k0 (hts _ tw_964) (fun _ h9 => h9) dX12_makes_7 ?_
  refine lv_iload_n hx hb dX12_makes_10 rfl (lv_at hl 2 rfl) ?_
  obtain ⟨hi2, hf⟩ := nm_chk hf
  refine nm_iald hx hb hK hH mo_n9 mo_k9 mo_l9 hi2 dX12_makes_11 ?_
  refine lv_iconst (v := 5) hx hb dX12_makes_12 (by decide) ?_
  have hJ36 : ∀ (x1 : Int32) (x2 : Int32) (I3 : nm_I) (H : Heap) (locs : List Loc) (ls : Array Slot), nm_H D Y (fun q => s0 ≤ q) s.heap X moN ad (I3, nJ0, moZ) H locs → lv_has ls 6 [(0, .ref (ad 0)), (1, .int x1), (2, .int x2)] → f_X12_makes_J36 x1 x2 I3 = some M0 → W p l e R s m args below meth c H locs 0 0 Q (F0 m 36 ls []) := by
    intro x1 x2 I3 H locs ls hH hl hf
    unfold f_X12_makes_J36 at hf
    refine lv_iconst (v := 0) hx hb dX12_makes_36 (by decide) ?_
    refine lv_istore_n (lv' := [(3, .int (0 : Int32)), (0, .ref (ad 0)), (1, .int x1), (2, .int x2)]) hx hb dX12_makes_37 rfl hl (by decide) rfl (fun ls hl => ?_)
    have hL38 : ∀ (n38 : Nat) (x1 : Int32) (x2 : Int32) (x3 : Int32) (I4 : nm_I) (H : Heap) (locs : List Loc) (ls : Array Slot) (o38 : nm_I), nm_H D Y (fun q => s0 ≤ q) s.heap X moN ad (I4, nJ0, moZ) H locs → lv_has ls 6 [(0, .ref (ad 0)), (1, .int x1), (2, .int x2), (3, .int x3)] → f_X12_makes_L38 x1 x2 n38 x3 I4 = some o38 → (∀ (H : Heap) (locs : List Loc) (ls : Array Slot), nm_H D Y (fun q => s0 ≤ q) s.heap X moN ad (o38, nJ0, moZ) H locs → lv_has ls 6 [(0, .ref (ad 0)), (1, .int x1)] → W p l e R s m args below meth c H locs 0 0 Q (F0 m 319 ls [])) → W p l e R s m args below meth c H locs 0 0 Q (F0 m 38 ls []) := by
      intro n38
      induction n38 with
      | zero =>
        intro x1 x2 x3 I4 H locs ls o38 hH hl hf hX38
        cases hf
      | succ n38 ih38 =>
        intro x1 x2 x3 I4 H locs ls o38 hH hl hf hX38
        rw [f_X12_makes_L38] at hf
        refine lv_iload_n hx hb dX12_makes_38 rfl (lv_at hl 3 rfl) ?_
        refine lv_sipush (v := 4096) hx hb dX12_makes_39 (by decide) ?_
        refine lv_icmp_ge (tgt := 319) hx hb dX12_makes_42 (by decide) (fun c5 => ?_) (fun c5 => ?_)
        · have hf := nm_it c5 hf
          cases hf
          exact hX38 _ _ _ hH (lv_sub hl [0, 1] rfl)
        · have hf := nm_ie c5 hf
          refine lv_aload_n hx hb dX12_makes_45 rfl (lv_at hl 0 rfl) ?_
          refine gf_12_8 hK hx hb hts hown hH mo_n0 mo_k0 (hts _ tw_964) (fun _ h9 => h9) dX12_makes_46 ?_
          refine lv_iload_n hx hb dX12_makes_49 rfl (lv_at hl 1 rfl) ?_
          obtain ⟨hi6, hf⟩ := nm_chk hf
          refine nm_iald hx hb hK hH mo_n9 mo_k9 mo_l9 hi6 dX12_makes_50 ?_
          have hJ79 : ∀ (x1 : Int32) (x2 : Int32) (x3 : Int32) (t0 : Int32) (I7 : nm_I) (H : Heap) (locs : List Loc) (ls : Array Slot), nm_H D Y (fun q => s0 ≤ q) s.heap X moN ad (I7, nJ0, moZ) H locs → lv_has ls 6 [(0, .ref (ad 0)), (1, .int x1), (2, .int x2), (3, .int x3)] → f_X12_makes_J79 x1 x2 x3 t0 I7 (f_X12_makes_L38 x1 x2 n38) = some o38 → W p l e R s m args below meth c H locs 0 0 Q (F0 m 79 ls [.int t0]) := by
            intro x1 x2 x3 t0 I7 H locs ls hH hl hf
            unfold f_X12_makes_J79 at hf
            refine lv_istore (lv' := [(4, .int t0), (0, .ref (ad 0)), (1, .int x1), (2, .int x2), (3, .int x3)]) hx hb dX12_makes_79 hl (by decide) rfl (fun ls hl => ?_)
            refine lv_aload_n hx hb dX12_makes_81 rfl (lv_at hl 1 rfl) ?_
            refine gf_12_8 hK hx hb hts hown hH mo_n0 mo_k0 (hts _ tw_964) (fun _ h9 => h9) dX12_makes_82 ?_
            refine lv_iload_n hx hb dX12_makes_85 rfl (lv_at hl 2 rfl) ?_
            obtain ⟨hi8, hf⟩ := nm_chk hf
            refine nm_iald hx hb hK hH mo_n9 mo_k9 mo_l9 hi8 dX12_makes_86 ?_
            have hJ125 : ∀ (x1 : Int32) (x2 : Int32) (x3 : Int32) (x4 : Int32) (t0 : Int32) (I9 : nm_I) (H : Heap) (locs : List Loc) (ls : Array Slot), nm_H D Y (fun q => s0 ≤ q) s.heap X moN ad (I9, nJ0, moZ) H locs → lv_has ls 6 [(0, .ref (ad 0)), (1, .int x1), (2, .int x2), (3, .int x3), (4, .int x4)] → f_X12_makes_J125 x1 x2 x3 x4 t0 I9 (f_X12_makes_L38 x1 x2 n38) = some o38 → W p l e R s m args below meth c H locs 0 0 Q (F0 m 125 ls [.int t0]) := by
              intro x1 x2 x3 x4 t0 I9 H locs ls hH hl hf
              unfold f_X12_makes_J125 at hf
              refine lv_istore (lv' := [(5, .int t0), (0, .ref (ad 0)), (1, .int x1), (2, .int x2), (3, .int x3), (4, .int x4)]) hx hb dX12_makes_125 hl (by decide) rfl (fun ls hl => ?_)
              refine lv_aload_n hx hb dX12_makes_127 rfl (lv_at hl 1 rfl) ?_
              refine gf_12_8 hK hx hb hts hown hH mo_n0 mo_k0 (hts _ tw_964) (fun _ h9 => h9) dX12_makes_128 ?_
              refine lv_iload_n hx hb dX12_makes_131 rfl (lv_at hl 2 rfl) ?_
              obtain ⟨hi10, hf⟩ := nm_chk hf
              refine nm_iald hx hb hK hH mo_n9 mo_k9 mo_l9 hi10 dX12_makes_132 ?_
              have hJ313 : ∀ (x1 : Int32) (x2 : Int32) (x3 : Int32) (I11 : nm_I) (H : Heap) (locs : List Loc) (ls : Array Slot), nm_H D Y (fun q => s0 ≤ q) s.heap X moN ad (I11, nJ0, moZ) H locs → lv_has ls 6 [(0, .ref (ad 0)), (1, .int x1), (2, .int x2), (3, .int x3)] → f_X12_makes_J313 x1 x2 x3 I11 (f_X12_makes_L38 x1 x2 n38) = some o38 → W p l e R s m args below meth c H locs 0 0 Q (F0 m 313 ls []) := by
                intro x1 x2 x3 I11 H locs ls hH hl hf
                unfold f_X12_makes_J313 at hf
                refine lv_iinc (v := x3 + 1) (lv' := [(3, .int (x3 + 1)), (0, .ref (ad 0)), (1, .int x1), (2, .int x2)]) hx hb dX12_makes_313 hl (k := 3) rfl rfl (by decide) rfl (fun ls hl => ?_)
                refine lv_goto (tgt := 38) hx hb dX12_makes_316 (by decide) ?_
                exact ih38 x1 x2 (x3 + 1) I11 _ _ _ _ hH (lv_sub hl [1, 2, 3, 0] rfl) hf hX38
              by_cases c12 : (I9 9 x1.toNatClampNeg) = (0 : Int32)
              · have hf := nm_it c12 hf
                refine lv_tableIn (off := 35) (tgt := 168) hx hb dX12_makes_133 (by rw [c12]; decide) (by rw [c12]; decide) (by rw [c12]; decide) (by decide) ?_
                refine lv_aload_n hx hb dX12_makes_168 rfl (lv_at hl 1 rfl) ?_
                refine gf_12_19 hK hx hb hts hown hH mo_n0 mo_k0 (hts _ tw_975) (fun _ h9 => h9) dX12_makes_169 ?_
                refine lv_iload_n hx hb dX12_makes_172 rfl (lv_at hl 3 rfl) ?_
                refine lv_iload_n hx hb dX12_makes_173 rfl (lv_at hl 4 rfl) ?_
                refine lv_iadd hx hb dX12_makes_174 ?_
                refine lv_iload hx hb dX12_makes_175 (lv_at hl 5 rfl) ?_
                have hJ190 : ∀ (x1 : Int32) (x2 : Int32) (x3 : Int32) (t2 : Int32) (t1 : Int32) (I13 : nm_I) (H : Heap) (locs : List Loc) (ls : Array Slot), nm_H D Y (fun q => s0 ≤ q) s.heap X moN ad (I13, nJ0, moZ) H locs → lv_has ls 6 [(0, .ref (ad 0)), (1, .int x1), (2, .int x2), (3, .int x3)] → f_X12_makes_J190 x1 x2 x3 t2 t1 I13 (f_X12_makes_L38 x1 x2 n38) = some o38 → W p l e R s m args below meth c H locs 0 0 Q (F0 m 190 ls [.int t2, .int t1, .ref (ad 20)]) := by
                  intro x1 x2 x3 t2 t1 I13 H locs ls hH hl hf
                  unfold f_X12_makes_J190 at hf
                  obtain ⟨hi14, hf⟩ := nm_chk hf
                  obtain ⟨I15, eI15, hf⟩ := nm_let hf
                  refine nm_zast hx hb hK hH mo_n20 mo_k20 mo_l20 hi14 dX12_makes_190 (fun H locs hH => ?_)
                  have hH : nm_H D Y (fun q => s0 ≤ q) s.heap X moN ad (I15, nJ0, moZ) H locs := by rw [eI15]; exact hH
                  refine lv_goto (tgt := 313) hx hb dX12_makes_191 (by decide) ?_
                  exact hJ313 x1 x2 x3 I15 _ _ _ hH (lv_sub hl [0, 1, 2, 3] rfl) hf
                have hJ189 : ∀ (x1 : Int32) (x2 : Int32) (x3 : Int32) (t1 : Int32) (I16 : nm_I) (H : Heap) (locs : List Loc) (ls : Array Slot), nm_H D Y (fun q => s0 ≤ q) s.heap X moN ad (I16, nJ0, moZ) H locs → lv_has ls 6 [(0, .ref (ad 0)), (1, .int x1), (2, .int x2), (3, .int x3)] → f_X12_makes_J189 x1 x2 x3 t1 I16 (f_X12_makes_L38 x1 x2 n38) = some o38 → W p l e R s m args below meth c H locs 0 0 Q (F0 m 189 ls [.int t1, .ref (ad 20)]) := by
                  intro x1 x2 x3 t1 I16 H locs ls hH hl hf
                  unfold f_X12_makes_J189 at hf
                  refine lv_iconst (v := 0) hx hb dX12_makes_189 (by decide) ?_
                  exact hJ190 x1 x2 x3 (0 : Int32) t1 I16 _ _ _ hH (lv_sub hl [0, 1, 2, 3] rfl) hf
                refine lv_if_eq (tgt := 189) hx hb dX12_makes_177 (by decide) (fun c17 => ?_) (fun c17 => ?_)
                · have hf := nm_it c17 hf
                  exact hJ189 x1 x2 x3 (x2 + x3) I9 _ _ _ hH (lv_sub hl [1, 2, 3, 4] rfl) hf
                · have hf := nm_ie c17 hf
                  refine lv_iload hx hb dX12_makes_180 (lv_at hl 0 rfl) ?_
                  refine lv_if_eq (tgt := 189) hx hb dX12_makes_182 (by decide) (fun c18 => ?_) (fun c18 => ?_)
                  · have hf := nm_it c18 hf
                    exact hJ189 x1 x2 x3 (x2 + x3) I9 _ _ _ hH (lv_sub hl [1, 2, 3, 4] rfl) hf
                  · have hf := nm_ie c18 hf
                    refine lv_iconst (v := 1) hx hb dX12_makes_185 (by decide) ?_
                    refine lv_goto (tgt := 190) hx hb dX12_makes_186 (by decide) ?_
                    exact hJ190 x1 x2 x3 (1 : Int32) (x2 + x3) I9 _ _ _ hH (lv_sub hl [1, 2, 3, 4] rfl) hf
              have hf := nm_ie c12 hf
              by_cases c19 : (I9 9 x1.toNatClampNeg) = (1 : Int32)
              · have hf := nm_it c19 hf
                refine lv_tableIn (off := 61) (tgt := 194) hx hb dX12_makes_133 (by rw [c19]; decide) (by rw [c19]; decide) (by rw [c19]; decide) (by decide) ?_
                refine lv_aload_n hx hb dX12_makes_194 rfl (lv_at hl 1 rfl) ?_
                refine gf_12_19 hK hx hb hts hown hH mo_n0 mo_k0 (hts _ tw_975) (fun _ h9 => h9) dX12_makes_195 ?_
                refine lv_iload_n hx hb dX12_makes_198 rfl (lv_at hl 3 rfl) ?_
                refine lv_iload_n hx hb dX12_makes_199 rfl (lv_at hl 4 rfl) ?_
                refine lv_iadd hx hb dX12_makes_200 ?_
                refine lv_iload hx hb dX12_makes_201 (lv_at hl 5 rfl) ?_
                have hJ216 : ∀ (x1 : Int32) (x2 : Int32) (x3 : Int32) (t2 : Int32) (t1 : Int32) (I20 : nm_I) (H : Heap) (locs : List Loc) (ls : Array Slot), nm_H D Y (fun q => s0 ≤ q) s.heap X moN ad (I20, nJ0, moZ) H locs → lv_has ls 6 [(0, .ref (ad 0)), (1, .int x1), (2, .int x2), (3, .int x3)] → f_X12_makes_J216 x1 x2 x3 t2 t1 I20 (f_X12_makes_L38 x1 x2 n38) = some o38 → W p l e R s m args below meth c H locs 0 0 Q (F0 m 216 ls [.int t2, .int t1, .ref (ad 20)]) := by
                  intro x1 x2 x3 t2 t1 I20 H locs ls hH hl hf
                  unfold f_X12_makes_J216 at hf
                  obtain ⟨hi21, hf⟩ := nm_chk hf
                  obtain ⟨I22, eI22, hf⟩ := nm_let hf
                  refine nm_zast hx hb hK hH mo_n20 mo_k20 mo_l20 hi21 dX12_makes_216 (fun H locs hH => ?_)
                  have hH : nm_H D Y (fun q => s0 ≤ q) s.heap X moN ad (I22, nJ0, moZ) H locs := by rw [eI22]; exact hH
                  refine lv_goto (tgt := 313) hx hb dX12_makes_217 (by decide) ?_
                  exact hJ313 x1 x2 x3 I22 _ _ _ hH (lv_sub hl [0, 1, 2, 3] rfl) hf
                have hJ211 : ∀ (x1 : Int32) (x2 : Int32) (x3 : Int32) (t1 : Int32) (I23 : nm_I) (H : Heap) (locs : List Loc) (ls : Array Slot), nm_H D Y (fun q => s0 ≤ q) s.heap X moN ad (I23, nJ0, moZ) H locs → lv_has ls 6 [(0, .ref (ad 0)), (1, .int x1), (2, .int x2), (3, .int x3)] → f_X12_makes_J211 x1 x2 x3 t1 I23 (f_X12_makes_L38 x1 x2 n38) = some o38 → W p l e R s m args below meth c H locs 0 0 Q (F0 m 211 ls [.int t1, .ref (ad 20)]) := by
                  intro x1 x2 x3 t1 I23 H locs ls hH hl hf
                  unfold f_X12_makes_J211 at hf
                  refine lv_iconst (v := 1) hx hb dX12_makes_211 (by decide) ?_
                  refine lv_goto (tgt := 216) hx hb dX12_makes_212 (by decide) ?_
                  exact hJ216 x1 x2 x3 (1 : Int32) t1 I23 _ _ _ hH (lv_sub hl [0, 1, 2, 3] rfl) hf
                refine lv_if_ne (tgt := 211) hx hb dX12_makes_203 (by decide) (fun c24 => ?_) (fun c24 => ?_)
                · have hf := nm_ie c24 hf
                  exact hJ211 x1 x2 x3 (x2 + x3) I9 _ _ _ hH (lv_sub hl [1, 2, 3, 4] rfl) hf
                · have hf := nm_it c24 hf
                  refine lv_iload hx hb dX12_makes_206 (lv_at hl 0 rfl) ?_
                  refine lv_if_eq (tgt := 215) hx hb dX12_makes_208 (by decide) (fun c25 => ?_) (fun c25 => ?_)
                  · have hf := nm_it c25 hf
                    refine lv_iconst (v := 0) hx hb dX12_makes_215 (by decide) ?_
                    exact hJ216 x1 x2 x3 (0 : Int32) (x2 + x3) I9 _ _ _ hH (lv_sub hl [1, 2, 3, 4] rfl) hf
                  · have hf := nm_ie c25 hf
                    exact hJ211 x1 x2 x3 (x2 + x3) I9 _ _ _ hH (lv_sub hl [1, 2, 3, 4] rfl) hf
              have hf := nm_ie c19 hf
              by_cases c26 : (I9 9 x1.toNatClampNeg) = (2 : Int32)
              · have hf := nm_it c26 hf
                refine lv_tableIn (off := 87) (tgt := 220) hx hb dX12_makes_133 (by rw [c26]; decide) (by rw [c26]; decide) (by rw [c26]; decide) (by decide) ?_
                refine lv_aload_n hx hb dX12_makes_220 rfl (lv_at hl 1 rfl) ?_
                refine gf_12_19 hK hx hb hts hown hH mo_n0 mo_k0 (hts _ tw_975) (fun _ h9 => h9) dX12_makes_221 ?_
                refine lv_iload_n hx hb dX12_makes_224 rfl (lv_at hl 3 rfl) ?_
                refine lv_iload_n hx hb dX12_makes_225 rfl (lv_at hl 4 rfl) ?_
                refine lv_iadd hx hb dX12_makes_226 ?_
                refine lv_iload hx hb dX12_makes_227 (lv_at hl 5 rfl) ?_
                have hJ242 : ∀ (x1 : Int32) (x2 : Int32) (x3 : Int32) (t2 : Int32) (t1 : Int32) (I27 : nm_I) (H : Heap) (locs : List Loc) (ls : Array Slot), nm_H D Y (fun q => s0 ≤ q) s.heap X moN ad (I27, nJ0, moZ) H locs → lv_has ls 6 [(0, .ref (ad 0)), (1, .int x1), (2, .int x2), (3, .int x3)] → f_X12_makes_J242 x1 x2 x3 t2 t1 I27 (f_X12_makes_L38 x1 x2 n38) = some o38 → W p l e R s m args below meth c H locs 0 0 Q (F0 m 242 ls [.int t2, .int t1, .ref (ad 20)]) := by
                  intro x1 x2 x3 t2 t1 I27 H locs ls hH hl hf
                  unfold f_X12_makes_J242 at hf
                  obtain ⟨hi28, hf⟩ := nm_chk hf
                  obtain ⟨I29, eI29, hf⟩ := nm_let hf
                  refine nm_zast hx hb hK hH mo_n20 mo_k20 mo_l20 hi28 dX12_makes_242 (fun H locs hH => ?_)
                  have hH : nm_H D Y (fun q => s0 ≤ q) s.heap X moN ad (I29, nJ0, moZ) H locs := by rw [eI29]; exact hH
                  refine lv_goto (tgt := 313) hx hb dX12_makes_243 (by decide) ?_
                  exact hJ313 x1 x2 x3 I29 _ _ _ hH (lv_sub hl [0, 1, 2, 3] rfl) hf
                have hJ241 : ∀ (x1 : Int32) (x2 : Int32) (x3 : Int32) (t1 : Int32) (I30 : nm_I) (H : Heap) (locs : List Loc) (ls : Array Slot), nm_H D Y (fun q => s0 ≤ q) s.heap X moN ad (I30, nJ0, moZ) H locs → lv_has ls 6 [(0, .ref (ad 0)), (1, .int x1), (2, .int x2), (3, .int x3)] → f_X12_makes_J241 x1 x2 x3 t1 I30 (f_X12_makes_L38 x1 x2 n38) = some o38 → W p l e R s m args below meth c H locs 0 0 Q (F0 m 241 ls [.int t1, .ref (ad 20)]) := by
                  intro x1 x2 x3 t1 I30 H locs ls hH hl hf
                  unfold f_X12_makes_J241 at hf
                  refine lv_iconst (v := 0) hx hb dX12_makes_241 (by decide) ?_
                  exact hJ242 x1 x2 x3 (0 : Int32) t1 I30 _ _ _ hH (lv_sub hl [0, 1, 2, 3] rfl) hf
                refine lv_if_eq (tgt := 241) hx hb dX12_makes_229 (by decide) (fun c31 => ?_) (fun c31 => ?_)
                · have hf := nm_it c31 hf
                  exact hJ241 x1 x2 x3 (x2 + x3) I9 _ _ _ hH (lv_sub hl [1, 2, 3, 4] rfl) hf
                · have hf := nm_ie c31 hf
                  refine lv_iload hx hb dX12_makes_232 (lv_at hl 0 rfl) ?_
                  refine lv_if_ne (tgt := 241) hx hb dX12_makes_234 (by decide) (fun c32 => ?_) (fun c32 => ?_)
                  · have hf := nm_ie c32 hf
                    exact hJ241 x1 x2 x3 (x2 + x3) I9 _ _ _ hH (lv_sub hl [1, 2, 3, 4] rfl) hf
                  · have hf := nm_it c32 hf
                    refine lv_iconst (v := 1) hx hb dX12_makes_237 (by decide) ?_
                    refine lv_goto (tgt := 242) hx hb dX12_makes_238 (by decide) ?_
                    exact hJ242 x1 x2 x3 (1 : Int32) (x2 + x3) I9 _ _ _ hH (lv_sub hl [1, 2, 3, 4] rfl) hf
              have hf := nm_ie c26 hf
              by_cases c33 : (I9 9 x1.toNatClampNeg) = (3 : Int32)
              · have hf := nm_it c33 hf
                refine lv_tableIn (off := 113) (tgt := 246) hx hb dX12_makes_133 (by rw [c33]; decide) (by rw [c33]; decide) (by rw [c33]; decide) (by decide) ?_
                refine lv_aload_n hx hb dX12_makes_246 rfl (lv_at hl 1 rfl) ?_
                refine gf_12_19 hK hx hb hts hown hH mo_n0 mo_k0 (hts _ tw_975) (fun _ h9 => h9) dX12_makes_247 ?_
                refine lv_iload_n hx hb dX12_makes_250 rfl (lv_at hl 3 rfl) ?_
                refine lv_iload_n hx hb dX12_makes_251 rfl (lv_at hl 4 rfl) ?_
                refine lv_iadd hx hb dX12_makes_252 ?_
                refine lv_aload_n hx hb dX12_makes_253 rfl (lv_at hl 1 rfl) ?_
                refine lv_aload_n hx hb dX12_makes_254 rfl (lv_at hl 1 rfl) ?_
                refine gf_12_9 hK hx hb hts hown hH mo_n0 mo_k0 (hts _ tw_965) (fun _ h9 => h9) dX12_makes_255 ?_
                refine lv_iload_n hx hb dX12_makes_258 rfl (lv_at hl 2 rfl) ?_
                obtain ⟨hi34, hf⟩ := nm_chk hf
                refine nm_iald hx hb hK hH mo_n10 mo_k10 mo_l10 hi34 dX12_makes_259 ?_
                refine lv_iload_n hx hb dX12_makes_260 rfl (lv_at hl 4 rfl) ?_
                refine lv_aload_n hx hb dX12_makes_261 rfl (lv_at hl 1 rfl) ?_
                refine gf_12_10 hK hx hb hts hown hH mo_n0 mo_k0 (hts _ tw_966) (fun _ h9 => h9) dX12_makes_262 ?_
                refine lv_iload_n hx hb dX12_makes_265 rfl (lv_at hl 2 rfl) ?_
                obtain ⟨hi35, hf⟩ := nm_chk hf
                refine nm_iald hx hb hK hH mo_n11 mo_k11 mo_l11 hi35 dX12_makes_266 ?_
                refine lv_iconst (v := 0) hx hb dX12_makes_267 (by decide) ?_
                obtain ⟨r36, hc37, hf⟩ := nm_sd1 hf
                refine nm_calli (nm_runV (X := X) (nl := moN) (k_X12_around (hf := hc37)) hx hb hml hown hts hs0 hK hZ hH tw_1326 tw_1323 tw_1325 (sw_X12_around) tw_9 hd_X12_around mo_n0 mo_k0 (by decide) rfl rfl rfl ⟨Nat.le_trans (Nat.le_of_ble_eq_true rfl) hRf, Nat.le_trans (Nat.le_of_ble_eq_true rfl) hRl⟩ rfl hl.1 rfl (Nat.le_of_ble_eq_true rfl) dX12_makes_268 ⟨Nat.zero_le _, Nat.zero_le _⟩) hH (fun H locs hH => ?_)
                have hH : nm_H D Y (fun q => s0 ≤ q) s.heap X moN ad (I9, nJ0, moZ) H locs := hH
                obtain ⟨hi38, hf⟩ := nm_chk hf
                obtain ⟨I39, eI39, hf⟩ := nm_let hf
                refine nm_zast hx hb hK hH mo_n20 mo_k20 mo_l20 hi38 dX12_makes_271 (fun H locs hH => ?_)
                have hH : nm_H D Y (fun q => s0 ≤ q) s.heap X moN ad (I39, nJ0, moZ) H locs := by rw [eI39]; exact hH
                refine lv_goto (tgt := 313) hx hb dX12_makes_272 (by decide) ?_
                exact hJ313 x1 x2 x3 I39 _ _ _ hH (lv_sub hl [1, 2, 3, 4] rfl) hf
              have hf := nm_ie c33 hf
              by_cases c40 : (I9 9 x1.toNatClampNeg) = (4 : Int32)
              · have hf := nm_it c40 hf
                refine lv_tableIn (off := 142) (tgt := 275) hx hb dX12_makes_133 (by rw [c40]; decide) (by rw [c40]; decide) (by rw [c40]; decide) (by decide) ?_
                refine lv_aload_n hx hb dX12_makes_275 rfl (lv_at hl 1 rfl) ?_
                refine gf_12_19 hK hx hb hts hown hH mo_n0 mo_k0 (hts _ tw_975) (fun _ h9 => h9) dX12_makes_276 ?_
                refine lv_iload_n hx hb dX12_makes_279 rfl (lv_at hl 3 rfl) ?_
                refine lv_iload_n hx hb dX12_makes_280 rfl (lv_at hl 4 rfl) ?_
                refine lv_iadd hx hb dX12_makes_281 ?_
                refine lv_aload_n hx hb dX12_makes_282 rfl (lv_at hl 1 rfl) ?_
                refine lv_aload_n hx hb dX12_makes_283 rfl (lv_at hl 1 rfl) ?_
                refine gf_12_9 hK hx hb hts hown hH mo_n0 mo_k0 (hts _ tw_965) (fun _ h9 => h9) dX12_makes_284 ?_
                refine lv_iload_n hx hb dX12_makes_287 rfl (lv_at hl 2 rfl) ?_
                obtain ⟨hi41, hf⟩ := nm_chk hf
                refine nm_iald hx hb hK hH mo_n10 mo_k10 mo_l10 hi41 dX12_makes_288 ?_
                refine lv_iload_n hx hb dX12_makes_289 rfl (lv_at hl 4 rfl) ?_
                refine lv_aload_n hx hb dX12_makes_290 rfl (lv_at hl 1 rfl) ?_
                refine gf_12_10 hK hx hb hts hown hH mo_n0 mo_k0 (hts _ tw_966) (fun _ h9 => h9) dX12_makes_291 ?_
                refine lv_iload_n hx hb dX12_makes_294 rfl (lv_at hl 2 rfl) ?_
                obtain ⟨hi42, hf⟩ := nm_chk hf
                refine nm_iald hx hb hK hH mo_n11 mo_k11 mo_l11 hi42 dX12_makes_295 ?_
                refine lv_iconst (v := 1) hx hb dX12_makes_296 (by decide) ?_
                obtain ⟨r43, hc44, hf⟩ := nm_sd1 hf
                refine nm_calli (nm_runV (X := X) (nl := moN) (k_X12_around (hf := hc44)) hx hb hml hown hts hs0 hK hZ hH tw_1326 tw_1323 tw_1325 (sw_X12_around) tw_9 hd_X12_around mo_n0 mo_k0 (by decide) rfl rfl rfl ⟨Nat.le_trans (Nat.le_of_ble_eq_true rfl) hRf, Nat.le_trans (Nat.le_of_ble_eq_true rfl) hRl⟩ rfl hl.1 rfl (Nat.le_of_ble_eq_true rfl) dX12_makes_297 ⟨Nat.zero_le _, Nat.zero_le _⟩) hH (fun H locs hH => ?_)
                have hH : nm_H D Y (fun q => s0 ≤ q) s.heap X moN ad (I9, nJ0, moZ) H locs := hH
                obtain ⟨hi45, hf⟩ := nm_chk hf
                obtain ⟨I46, eI46, hf⟩ := nm_let hf
                refine nm_zast hx hb hK hH mo_n20 mo_k20 mo_l20 hi45 dX12_makes_300 (fun H locs hH => ?_)
                have hH : nm_H D Y (fun q => s0 ≤ q) s.heap X moN ad (I46, nJ0, moZ) H locs := by rw [eI46]; exact hH
                refine lv_goto (tgt := 313) hx hb dX12_makes_301 (by decide) ?_
                exact hJ313 x1 x2 x3 I46 _ _ _ hH (lv_sub hl [1, 2, 3, 4] rfl) hf
              have hf := nm_ie c40 hf
              refine lv_tableOut (tgt := 304) hx hb dX12_makes_133 (nm_sw (I9 9 x1.toNatClampNeg) (fun k h1 h2 hk => by
                rcases (show k = 0 ∨ k = 1 ∨ k = 2 ∨ k = 3 ∨ k = 4 by omega) with rfl | rfl | rfl | rfl | rfl <;> first | exact c12 hk | exact c19 hk | exact c26 hk | exact c33 hk | exact c40 hk)) (by decide) ?_
              refine lv_aload_n hx hb dX12_makes_304 rfl (lv_at hl 1 rfl) ?_
              refine gf_12_19 hK hx hb hts hown hH mo_n0 mo_k0 (hts _ tw_975) (fun _ h9 => h9) dX12_makes_305 ?_
              refine lv_iload_n hx hb dX12_makes_308 rfl (lv_at hl 3 rfl) ?_
              refine lv_iload_n hx hb dX12_makes_309 rfl (lv_at hl 4 rfl) ?_
              refine lv_iadd hx hb dX12_makes_310 ?_
              refine lv_iconst (v := 0) hx hb dX12_makes_311 (by decide) ?_
              obtain ⟨hi47, hf⟩ := nm_chk hf
              obtain ⟨I48, eI48, hf⟩ := nm_let hf
              refine nm_zast hx hb hK hH mo_n20 mo_k20 mo_l20 hi47 dX12_makes_312 (fun H locs hH => ?_)
              have hH : nm_H D Y (fun q => s0 ≤ q) s.heap X moN ad (I48, nJ0, moZ) H locs := by rw [eI48]; exact hH
              exact hJ313 x1 x2 x3 I48 _ _ _ hH (lv_sub hl [1, 2, 3, 4] rfl) hf
            have hJ124 : ∀ (x1 : Int32) (x2 : Int32) (x3 : Int32) (x4 : Int32) (I49 : nm_I) (H : Heap) (locs : List Loc) (ls : Array Slot), nm_H D Y (fun q => s0 ≤ q) s.heap X moN ad (I49, nJ0, moZ) H locs → lv_has ls 6 [(0, .ref (ad 0)), (1, .int x1), (2, .int x2), (3, .int x3), (4, .int x4)] → f_X12_makes_J124 x1 x2 x3 x4 I49 (f_X12_makes_L38 x1 x2 n38) = some o38 → W p l e R s m args below meth c H locs 0 0 Q (F0 m 124 ls []) := by
              intro x1 x2 x3 x4 I49 H locs ls hH hl hf
              unfold f_X12_makes_J124 at hf
              refine lv_iconst (v := 0) hx hb dX12_makes_124 (by decide) ?_
              exact hJ125 x1 x2 x3 x4 (0 : Int32) I49 _ _ _ hH (lv_sub hl [0, 1, 2, 3, 4] rfl) hf
            refine lv_if_lt (tgt := 124) hx hb dX12_makes_87 (by decide) (fun c50 => ?_) (fun c50 => ?_)
            · have hf := nm_it c50 hf
              exact hJ124 x1 x2 x3 t0 I7 _ _ _ hH (lv_sub hl [1, 2, 3, 4, 0] rfl) hf
            · have hf := nm_ie c50 hf
              refine lv_aload_n hx hb dX12_makes_90 rfl (lv_at hl 1 rfl) ?_
              refine gf_12_8 hK hx hb hts hown hH mo_n0 mo_k0 (hts _ tw_964) (fun _ h9 => h9) dX12_makes_91 ?_
              refine lv_iload_n hx hb dX12_makes_94 rfl (lv_at hl 2 rfl) ?_
              obtain ⟨hi51, hf⟩ := nm_chk hf
              refine nm_iald hx hb hK hH mo_n9 mo_k9 mo_l9 hi51 dX12_makes_95 ?_
              refine lv_iconst (v := 3) hx hb dX12_makes_96 (by decide) ?_
              refine lv_icmp_ge (tgt := 124) hx hb dX12_makes_97 (by decide) (fun c52 => ?_) (fun c52 => ?_)
              · have hf := nm_it c52 hf
                exact hJ124 x1 x2 x3 t0 I7 _ _ _ hH (lv_sub hl [1, 2, 3, 4, 0] rfl) hf
              · have hf := nm_ie c52 hf
                refine lv_aload_n hx hb dX12_makes_100 rfl (lv_at hl 1 rfl) ?_
                refine gf_12_19 hK hx hb hts hown hH mo_n0 mo_k0 (hts _ tw_975) (fun _ h9 => h9) dX12_makes_101 ?_
                refine lv_sipush (v := 4096) hx hb dX12_makes_104 (by decide) ?_
                refine lv_aload_n hx hb dX12_makes_107 rfl (lv_at hl 1 rfl) ?_
                refine gf_12_10 hK hx hb hts hown hH mo_n0 mo_k0 (hts _ tw_966) (fun _ h9 => h9) dX12_makes_108 ?_
                refine lv_iload_n hx hb dX12_makes_111 rfl (lv_at hl 2 rfl) ?_
                obtain ⟨hi53, hf⟩ := nm_chk hf
                refine nm_iald hx hb hK hH mo_n11 mo_k11 mo_l11 hi53 dX12_makes_112 ?_
                refine lv_imul hx hb dX12_makes_113 ?_
                refine lv_iload_n hx hb dX12_makes_114 rfl (lv_at hl 4 rfl) ?_
                refine lv_iadd hx hb dX12_makes_115 ?_
                obtain ⟨hi54, hf⟩ := nm_chk hf
                refine nm_zald hx hb hK hH mo_n20 mo_k20 mo_l20 hi54 dX12_makes_116 ?_
                refine lv_if_eq (tgt := 124) hx hb dX12_makes_117 (by decide) (fun c55 => ?_) (fun c55 => ?_)
                · have hf := nm_it c55 hf
                  exact hJ124 x1 x2 x3 t0 I7 _ _ _ hH (lv_sub hl [1, 2, 3, 4, 0] rfl) hf
                · have hf := nm_ie c55 hf
                  refine lv_iconst (v := 1) hx hb dX12_makes_120 (by decide) ?_
                  refine lv_goto (tgt := 125) hx hb dX12_makes_121 (by decide) ?_
                  exact hJ125 x1 x2 x3 t0 (1 : Int32) I7 _ _ _ hH (lv_sub hl [1, 2, 3, 4, 0] rfl) hf
          have hJ78 : ∀ (x1 : Int32) (x2 : Int32) (x3 : Int32) (I56 : nm_I) (H : Heap) (locs : List Loc) (ls : Array Slot), nm_H D Y (fun q => s0 ≤ q) s.heap X moN ad (I56, nJ0, moZ) H locs → lv_has ls 6 [(0, .ref (ad 0)), (1, .int x1), (2, .int x2), (3, .int x3)] → f_X12_makes_J78 x1 x2 x3 I56 (f_X12_makes_L38 x1 x2 n38) = some o38 → W p l e R s m args below meth c H locs 0 0 Q (F0 m 78 ls []) := by
            intro x1 x2 x3 I56 H locs ls hH hl hf
            unfold f_X12_makes_J78 at hf
            refine lv_iconst (v := 0) hx hb dX12_makes_78 (by decide) ?_
            exact hJ79 x1 x2 x3 (0 : Int32) I56 _ _ _ hH (lv_sub hl [0, 1, 2, 3] rfl) hf
          refine lv_if_lt (tgt := 78) hx hb dX12_makes_51 (by decide) (fun c57 => ?_) (fun c57 => ?_)
          · have hf := nm_it c57 hf
            exact hJ78 x1 x2 x3 I4 _ _ _ hH (lv_sub hl [0, 1, 2, 3] rfl) hf
          · have hf := nm_ie c57 hf
            refine lv_aload_n hx hb dX12_makes_54 rfl (lv_at hl 0 rfl) ?_
            refine gf_12_19 hK hx hb hts hown hH mo_n0 mo_k0 (hts _ tw_975) (fun _ h9 => h9) dX12_makes_55 ?_
            refine lv_sipush (v := 4096) hx hb dX12_makes_58 (by decide) ?_
            refine lv_aload_n hx hb dX12_makes_61 rfl (lv_at hl 0 rfl) ?_
            refine gf_12_9 hK hx hb hts hown hH mo_n0 mo_k0 (hts _ tw_965) (fun _ h9 => h9) dX12_makes_62 ?_
            refine lv_iload_n hx hb dX12_makes_65 rfl (lv_at hl 1 rfl) ?_
            obtain ⟨hi58, hf⟩ := nm_chk hf
            refine nm_iald hx hb hK hH mo_n10 mo_k10 mo_l10 hi58 dX12_makes_66 ?_
            refine lv_imul hx hb dX12_makes_67 ?_
            refine lv_iload_n hx hb dX12_makes_68 rfl (lv_at hl 3 rfl) ?_
            refine lv_iadd hx hb dX12_makes_69 ?_
            obtain ⟨hi59, hf⟩ := nm_chk hf
            refine nm_zald hx hb hK hH mo_n20 mo_k20 mo_l20 hi59 dX12_makes_70 ?_
            refine lv_if_eq (tgt := 78) hx hb dX12_makes_71 (by decide) (fun c60 => ?_) (fun c60 => ?_)
            · have hf := nm_it c60 hf
              exact hJ78 x1 x2 x3 I4 _ _ _ hH (lv_sub hl [0, 1, 2, 3] rfl) hf
            · have hf := nm_ie c60 hf
              refine lv_iconst (v := 1) hx hb dX12_makes_74 (by decide) ?_
              refine lv_goto (tgt := 79) hx hb dX12_makes_75 (by decide) ?_
              exact hJ79 x1 x2 x3 (1 : Int32) I4 _ _ _ hH (lv_sub hl [0, 1, 2, 3] rfl) hf
    obtain ⟨I61, hl66, hf⟩ := nm_sd1 hf
    refine hL38 nm_F x1 x2 (0 : Int32) I3 _ _ _ _ hH (lv_sub hl [1, 2, 3, 0] rfl) hl66 (fun H locs ls hH hl => ?_)
    have hl : lv_has ls 6 [(0, .ref (ad 0)), (1, .int x1)] := hl
    have hH : nm_H D Y (fun q => s0 ≤ q) s.heap X moN ad (I61, nJ0, moZ) H locs := hH
    refine lv_aload_n hx hb dX12_makes_319 rfl (lv_at hl 0 rfl) ?_
    refine gf_12_8 hK hx hb hts hown hH mo_n0 mo_k0 (hts _ tw_964) (fun _ h9 => h9) dX12_makes_320 ?_
    refine lv_iload_n hx hb dX12_makes_323 rfl (lv_at hl 1 rfl) ?_
    obtain ⟨hi62, hf⟩ := nm_chk hf
    refine nm_iald hx hb hK hH mo_n9 mo_k9 mo_l9 hi62 dX12_makes_324 ?_
    refine lv_iconst (v := 5) hx hb dX12_makes_325 (by decide) ?_
    refine lv_icmp_ne (tgt := 334) hx hb dX12_makes_326 (by decide) (fun c63 => ?_) (fun c63 => ?_)
    · have hf := nm_ie c63 hf
      exact nm_vret hx hb hr hlocks hQ hH (congrArg (fun q => (q, nJ0, moZ)) (Option.some.inj hf)) dX12_makes_334
    · have hf := nm_it c63 hf
      refine lv_aload_n hx hb dX12_makes_329 rfl (lv_at hl 0 rfl) ?_
      refine lv_iload_n hx hb dX12_makes_330 rfl (lv_at hl 1 rfl) ?_
      obtain ⟨I64, hc65, hf⟩ := nm_sd1 hf
      refine nm_callv (nm_runV (X := X) (nl := moN) (k_X12_touches (hf := hc65)) hx hb hml hown hts hs0 hK hZ hH tw_1330 tw_1327 tw_1329 (sw_X12_touches) tw_9 hd_X12_touches mo_n0 mo_k0 (by decide) rfl rfl rfl ⟨Nat.le_trans (Nat.le_of_ble_eq_true rfl) hRf, Nat.le_trans (Nat.le_of_ble_eq_true rfl) hRl⟩ rfl hl.1 rfl (Nat.le_of_ble_eq_true rfl) dX12_makes_331 ⟨Nat.zero_le _, Nat.zero_le _⟩) hH (fun H locs hH => ?_)
      have hH : nm_H D Y (fun q => s0 ≤ q) s.heap X moN ad (I64, nJ0, moZ) H locs := hH
      exact nm_vret hx hb hr hlocks hQ hH (congrArg (fun q => (q, nJ0, moZ)) (Option.some.inj hf)) dX12_makes_334
  refine lv_icmp_ne (tgt := 36) hx hb dX12_makes_13 (by decide) (fun c67 => ?_) (fun c67 => ?_)
  · have hf := nm_ie c67 hf
    exact hJ36 x1 v1 I _ _ _ hH (lv_sub hl [1, 2, 0] rfl) hf
  · have hf := nm_it c67 hf
    refine lv_aload_n hx hb dX12_makes_16 rfl (lv_at hl 1 rfl) ?_
    refine lv_sipush (v := 4096) hx hb dX12_makes_17 (by decide) ?_
    refine lv_aload_n hx hb dX12_makes_20 rfl (lv_at hl 1 rfl) ?_
    refine gf_12_9 hK hx hb hts hown hH mo_n0 mo_k0 (hts _ tw_965) (fun _ h9 => h9) dX12_makes_21 ?_
    refine lv_iload_n hx hb dX12_makes_24 rfl (lv_at hl 2 rfl) ?_
    obtain ⟨hi68, hf⟩ := nm_chk hf
    refine nm_iald hx hb hK hH mo_n10 mo_k10 mo_l10 hi68 dX12_makes_25 ?_
    refine lv_imul hx hb dX12_makes_26 ?_
    refine lv_aload_n hx hb dX12_makes_27 rfl (lv_at hl 1 rfl) ?_
    refine gf_12_9 hK hx hb hts hown hH mo_n0 mo_k0 (hts _ tw_965) (fun _ h9 => h9) dX12_makes_28 ?_
    refine lv_iload_n hx hb dX12_makes_31 rfl (lv_at hl 2 rfl) ?_
    obtain ⟨hi69, hf⟩ := nm_chk hf
    refine nm_iald hx hb hK hH mo_n10 mo_k10 mo_l10 hi69 dX12_makes_32 ?_
    obtain ⟨I70, hc71, hf⟩ := nm_sd1 hf
    refine nm_callv (nm_runV (X := X) (nl := moN) (k_X12_findPieces (hf := hc71)) hx hb hml hown hts hs0 hK hZ hH tw_1318 tw_1315 tw_1317 (sw_X12_findPieces) tw_9 hd_X12_findPieces mo_n0 mo_k0 (by decide) rfl rfl rfl ⟨Nat.le_trans (Nat.le_of_ble_eq_true rfl) hRf, Nat.le_trans (Nat.le_of_ble_eq_true rfl) hRl⟩ rfl hl.1 rfl (Nat.le_of_ble_eq_true rfl) dX12_makes_33 ⟨Nat.zero_le _, Nat.zero_le _⟩) hH (fun H locs hH => ?_)
    have hH : nm_H D Y (fun q => s0 ≤ q) s.heap X moN ad (I70, nJ0, moZ) H locs := hH
    exact hJ36 x1 v1 I70 _ _ _ hH (lv_sub hl [1, 2, 0] rfl) hf
def f_X12_flat_L16 (x1 : Int32) : Nat → Int32 → nm_I → Option (nm_I)
  | 0, _, _ => none
  | n16 + 1, x2, I2 =>
(if x1 < x2 then
some I2
else
nm_s1 (f_X12_lays x2 I2) fun I4 =>
f_X12_flat_L16 x1 n16 (x2 + 1) I4)
def f_X12_flat_J76 (x1 : Int32) (x3 : Int32) (t1 : Int32) (t0 : Int32) (I13 : nm_I) (k : Int32 → Int32 → nm_I → Option (Int32 × nm_I)) : Option (Int32 × nm_I) :=
nm_l (t0 + t1) fun v14 =>
k v14 (x3 + 1) I13
def f_X12_flat_L36 (x1 : Int32) : Nat → Int32 → Int32 → nm_I → Option (Int32 × nm_I)
  | 0, _, _, _ => none
  | n36 + 1, x2, x3, I7 =>
(if (32768 : Int32) ≤ x3 then
some (x2, I7)
else
nm_c (((32768 : Int32) * x1) + x3) 262144 (
nm_c x3 65536 (
nm_l (nm_up I7 20 x3.toNatClampNeg (vp_nar .boolean (I7 13 (((32768 : Int32) * x1) + x3).toNatClampNeg))) fun I11 =>
nm_c x3 65536 (
(if (I11 20 x3.toNatClampNeg) = 0 then
f_X12_flat_J76 x1 x3 (0 : Int32) x2 I11 (f_X12_flat_L36 x1 n36)
else
f_X12_flat_J76 x1 x3 (1 : Int32) x2 I11 (f_X12_flat_L36 x1 n36))))))
def f_X12_flat_L87 (x1 : Int32) (x2 : Int32) : Nat → Int32 → nm_I → Option (nm_I)
  | 0, _, _ => none
  | n87 + 1, x3, I18 =>
(if (16 : Int32) ≤ x3 then
some I18
else
nm_s1 (f_X12_makes x3 I18) fun I20 =>
f_X12_flat_L87 x1 x2 n87 (x3 + 1) I20)
def f_X12_flat_L116 (x1 : Int32) (x2 : Int32) : Nat → Int32 → nm_I → Option (nm_I)
  | 0, _, _ => none
  | n116 + 1, x3, I25 =>
(if (I25 0 26) ≤ x3 then
some I25
else
nm_c (((200 : Int32) * x1) + x3) 1600 (
nm_c x3 200 (
nm_l (nm_up I25 24 x3.toNatClampNeg (I25 14 (((200 : Int32) * x1) + x3).toNatClampNeg)) fun I29 =>
nm_c (((200 : Int32) * x1) + x3) 1600 (
nm_c x3 200 (
nm_l (nm_up I29 25 x3.toNatClampNeg (I29 15 (((200 : Int32) * x1) + x3).toNatClampNeg)) fun I32 =>
nm_c (((200 : Int32) * x1) + x3) 1600 (
nm_c x3 200 (
nm_l (nm_up I32 26 x3.toNatClampNeg (I32 16 (((200 : Int32) * x1) + x3).toNatClampNeg)) fun I35 =>
f_X12_flat_L116 x1 x2 n116 (x3 + 1) I35)))))))
def f_X12_flat (x1 : Int32) (I : nm_I) : Option (Int32 × nm_I) :=
(if (f_X12_isCell x1) = 0 then
nm_s2 (f_X12_no (-3 : Int32) I) fun r47 I45 =>
some (r47, I45)
else
nm_s1 (f_X12_flat_L16 x1 nm_F (0 : Int32) I) fun I6 =>
nm_s2 (f_X12_flat_L36 x1 nm_F (0 : Int32) (0 : Int32) I6) fun y16 I17 =>
nm_s1 (f_X12_flat_L87 x1 y16 nm_F (8 : Int32) I17) fun I22 =>
nm_c x1 8 (
nm_l (nm_up I22 0 26 (I22 17 x1.toNatClampNeg)) fun I24 =>
nm_s1 (f_X12_flat_L116 x1 y16 nm_F (0 : Int32) I24) fun I36 =>
nm_l (nm_up I36 0 20 (1 : Int32)) fun I37 =>
nm_l (nm_up I37 0 21 (0 : Int32)) fun I38 =>
nm_l (nm_up I38 0 22 (0 : Int32)) fun I39 =>
nm_l (nm_up I39 0 72 (0 : Int32)) fun I40 =>
some (y16, I40)))
set_option maxHeartbeats 4000000 in
set_option maxRecDepth 100000 in
theorem k_X12_flat {l : Launch} {D : va_G} {Y : nm_Y} {s0 : Nat} {X : va_W} {ad : Nat → Nat}  {x1 : Int32} {I : nm_I} {r0 : Int32} {M0 : nm_I} (hf : f_X12_flat x1 I = some (r0, M0)) :
    nm_Met l yX12_flat cX12_flat 4 (some .int) { frames := 4, cells := 0, slots := 0, locals := 104 } [.ref (ad 0), .int x1] D Y s0 (nm_W Y X moN ad (I, nJ0, moZ)) (nm_Qi D s0 r0 (nm_W Y X moN ad (M0, nJ0, moZ))) 0 0 := by
  refine nm_of (by decide) (Nat.le_of_ble_eq_true rfl) ?_
  intro p e R s m args below meth c Q ls hx hb hr hlocks hml hown hts hs0 hK hZ hRf hRl hRc hRs hQ hP hD hl
  have hH : nm_H D Y (fun q => s0 ≤ q) s.heap X moN ad (I, nJ0, moZ) s.heap [] := ⟨hP, hD, va_S.rf⟩
  have hl : lv_has ls 4 [(0, .ref (ad 0)), (1, .int x1)] := hl
  unfold f_X12_flat at hf
  refine lv_iload_n hx hb dX12_flat_0 rfl (lv_at hl 1 rfl) ?_
  refine nm_calli (nm_runS (X := X) (nl := moN) (k_X12_isCell (hf := (rfl : f_X12_isCell x1 = _))) hx hb hml hown hts hs0 hK hZ hH tw_1203 tw_1201 tw_1202 tw_9 hd_X12_isCell rfl rfl ⟨Nat.le_trans (Nat.le_of_ble_eq_true rfl) hRf, Nat.le_trans (Nat.le_of_ble_eq_true rfl) hRl⟩ rfl hl.1 rfl (Nat.le_of_ble_eq_true rfl) dX12_flat_1 ⟨Nat.zero_le _, Nat.zero_le _⟩) hH (fun H locs hH => ?_)
  have hH : nm_H D Y (fun q => s0 ≤ q) s.heap X moN ad (I, nJ0, moZ) H locs := hH
  refine lv_if_ne (tgt := 14) hx hb dX12_flat_4 (by decide) (fun c1 => ?_) (fun c1 => ?_)
  · have hf := nm_ie c1 hf
    refine lv_iconst (v := 0) hx hb dX12_flat_14 (by decide) ?_
    refine lv_istore_n (lv' := [(2, .int (0 : Int32)), (0, .ref (ad 0)), (1, .int x1)]) hx hb dX12_flat_15 rfl hl (by decide) rfl (fun ls hl => ?_)
    have hL16 : ∀ (n16 : Nat) (x1 : Int32) (x2 : Int32) (I2 : nm_I) (H : Heap) (locs : List Loc) (ls : Array Slot) (o16 : nm_I), nm_H D Y (fun q => s0 ≤ q) s.heap X moN ad (I2, nJ0, moZ) H locs → lv_has ls 4 [(0, .ref (ad 0)), (1, .int x1), (2, .int x2)] → f_X12_flat_L16 x1 n16 x2 I2 = some o16 → (∀ (H : Heap) (locs : List Loc) (ls : Array Slot), nm_H D Y (fun q => s0 ≤ q) s.heap X moN ad (o16, nJ0, moZ) H locs → lv_has ls 4 [(0, .ref (ad 0)), (1, .int x1)] → W p l e R s m args below meth c H locs 0 0 Q (F0 m 32 ls [])) → W p l e R s m args below meth c H locs 0 0 Q (F0 m 16 ls []) := by
      intro n16
      induction n16 with
      | zero =>
        intro x1 x2 I2 H locs ls o16 hH hl hf hX16
        cases hf
      | succ n16 ih16 =>
        intro x1 x2 I2 H locs ls o16 hH hl hf hX16
        rw [f_X12_flat_L16] at hf
        refine lv_iload_n hx hb dX12_flat_16 rfl (lv_at hl 2 rfl) ?_
        refine lv_iload_n hx hb dX12_flat_17 rfl (lv_at hl 1 rfl) ?_
        refine lv_icmp_gt (tgt := 32) hx hb dX12_flat_18 (by decide) (fun c3 => ?_) (fun c3 => ?_)
        · have hf := nm_it c3 hf
          cases hf
          exact hX16 _ _ _ hH (lv_sub hl [0, 1] rfl)
        · have hf := nm_ie c3 hf
          refine lv_aload_n hx hb dX12_flat_21 rfl (lv_at hl 0 rfl) ?_
          refine lv_iload_n hx hb dX12_flat_22 rfl (lv_at hl 2 rfl) ?_
          obtain ⟨I4, hc5, hf⟩ := nm_sd1 hf
          refine nm_callv (nm_runV (X := X) (nl := moN) (k_X12_lays (hf := hc5)) hx hb hml hown hts hs0 hK hZ hH tw_1274 tw_1271 tw_1273 (sw_X12_lays) tw_9 hd_X12_lays mo_n0 mo_k0 (by decide) rfl rfl rfl ⟨Nat.le_trans (Nat.le_of_ble_eq_true rfl) hRf, Nat.le_trans (Nat.le_of_ble_eq_true rfl) hRl⟩ rfl hl.1 rfl (Nat.le_of_ble_eq_true rfl) dX12_flat_23 ⟨Nat.zero_le _, Nat.zero_le _⟩) hH (fun H locs hH => ?_)
          have hH : nm_H D Y (fun q => s0 ≤ q) s.heap X moN ad (I4, nJ0, moZ) H locs := hH
          refine lv_iinc (v := x2 + 1) (lv' := [(2, .int (x2 + 1)), (0, .ref (ad 0)), (1, .int x1)]) hx hb dX12_flat_26 hl (k := 2) rfl rfl (by decide) rfl (fun ls hl => ?_)
          refine lv_goto (tgt := 16) hx hb dX12_flat_29 (by decide) ?_
          exact ih16 x1 (x2 + 1) I4 _ _ _ _ hH (lv_sub hl [1, 2, 0] rfl) hf hX16
    obtain ⟨I6, hl44, hf⟩ := nm_sd1 hf
    refine hL16 nm_F x1 (0 : Int32) I _ _ _ _ hH (lv_sub hl [1, 2, 0] rfl) hl44 (fun H locs ls hH hl => ?_)
    have hl : lv_has ls 4 [(0, .ref (ad 0)), (1, .int x1)] := hl
    have hH : nm_H D Y (fun q => s0 ≤ q) s.heap X moN ad (I6, nJ0, moZ) H locs := hH
    refine lv_iconst (v := 0) hx hb dX12_flat_32 (by decide) ?_
    refine lv_istore_n (lv' := [(2, .int (0 : Int32)), (0, .ref (ad 0)), (1, .int x1)]) hx hb dX12_flat_33 rfl hl (by decide) rfl (fun ls hl => ?_)
    refine lv_iconst (v := 0) hx hb dX12_flat_34 (by decide) ?_
    refine lv_istore_n (lv' := [(3, .int (0 : Int32)), (2, .int (0 : Int32)), (0, .ref (ad 0)), (1, .int x1)]) hx hb dX12_flat_35 rfl hl (by decide) rfl (fun ls hl => ?_)
    have hL36 : ∀ (n36 : Nat) (x1 : Int32) (x2 : Int32) (x3 : Int32) (I7 : nm_I) (H : Heap) (locs : List Loc) (ls : Array Slot) (o36 : Int32 × nm_I), nm_H D Y (fun q => s0 ≤ q) s.heap X moN ad (I7, nJ0, moZ) H locs → lv_has ls 4 [(0, .ref (ad 0)), (1, .int x1), (2, .int x2), (3, .int x3)] → f_X12_flat_L36 x1 n36 x2 x3 I7 = some o36 → (∀ (H : Heap) (locs : List Loc) (ls : Array Slot), nm_H D Y (fun q => s0 ≤ q) s.heap X moN ad (o36.2, nJ0, moZ) H locs → lv_has ls 4 [(0, .ref (ad 0)), (1, .int x1), (2, .int o36.1)] → W p l e R s m args below meth c H locs 0 0 Q (F0 m 84 ls [])) → W p l e R s m args below meth c H locs 0 0 Q (F0 m 36 ls []) := by
      intro n36
      induction n36 with
      | zero =>
        intro x1 x2 x3 I7 H locs ls o36 hH hl hf hX36
        cases hf
      | succ n36 ih36 =>
        intro x1 x2 x3 I7 H locs ls o36 hH hl hf hX36
        rw [f_X12_flat_L36] at hf
        refine lv_iload_n hx hb dX12_flat_36 rfl (lv_at hl 3 rfl) ?_
        refine lv_ldcw hx hb hown (hts _ tw_1310) dX12_flat_37 ?_
        refine lv_icmp_ge (tgt := 84) hx hb dX12_flat_40 (by decide) (fun c8 => ?_) (fun c8 => ?_)
        · have hf := nm_it c8 hf
          cases hf
          exact hX36 _ _ _ hH (lv_sub hl [0, 1, 2] rfl)
        · have hf := nm_ie c8 hf
          refine lv_aload_n hx hb dX12_flat_43 rfl (lv_at hl 0 rfl) ?_
          refine gf_12_19 hK hx hb hts hown hH mo_n0 mo_k0 (hts _ tw_975) (fun _ h9 => h9) dX12_flat_44 ?_
          refine lv_iload_n hx hb dX12_flat_47 rfl (lv_at hl 3 rfl) ?_
          refine lv_aload_n hx hb dX12_flat_48 rfl (lv_at hl 0 rfl) ?_
          refine gf_12_12 hK hx hb hts hown hH mo_n0 mo_k0 (hts _ tw_968) (fun _ h9 => h9) dX12_flat_49 ?_
          refine lv_ldcw hx hb hown (hts _ tw_1310) dX12_flat_52 ?_
          refine lv_iload_n hx hb dX12_flat_55 rfl (lv_at hl 1 rfl) ?_
          refine lv_imul hx hb dX12_flat_56 ?_
          refine lv_iload_n hx hb dX12_flat_57 rfl (lv_at hl 3 rfl) ?_
          refine lv_iadd hx hb dX12_flat_58 ?_
          obtain ⟨hi9, hf⟩ := nm_chk hf
          refine nm_zald hx hb hK hH mo_n13 mo_k13 mo_l13 hi9 dX12_flat_59 ?_
          obtain ⟨hi10, hf⟩ := nm_chk hf
          obtain ⟨I11, eI11, hf⟩ := nm_let hf
          refine nm_zast hx hb hK hH mo_n20 mo_k20 mo_l20 hi10 dX12_flat_60 (fun H locs hH => ?_)
          have hH : nm_H D Y (fun q => s0 ≤ q) s.heap X moN ad (I11, nJ0, moZ) H locs := by rw [eI11]; exact hH
          refine lv_iload_n hx hb dX12_flat_61 rfl (lv_at hl 2 rfl) ?_
          refine lv_aload_n hx hb dX12_flat_62 rfl (lv_at hl 0 rfl) ?_
          refine gf_12_19 hK hx hb hts hown hH mo_n0 mo_k0 (hts _ tw_975) (fun _ h9 => h9) dX12_flat_63 ?_
          refine lv_iload_n hx hb dX12_flat_66 rfl (lv_at hl 3 rfl) ?_
          obtain ⟨hi12, hf⟩ := nm_chk hf
          refine nm_zald hx hb hK hH mo_n20 mo_k20 mo_l20 hi12 dX12_flat_67 ?_
          have hJ76 : ∀ (x1 : Int32) (x3 : Int32) (t1 : Int32) (t0 : Int32) (I13 : nm_I) (H : Heap) (locs : List Loc) (ls : Array Slot), nm_H D Y (fun q => s0 ≤ q) s.heap X moN ad (I13, nJ0, moZ) H locs → lv_has ls 4 [(0, .ref (ad 0)), (1, .int x1), (3, .int x3)] → f_X12_flat_J76 x1 x3 t1 t0 I13 (f_X12_flat_L36 x1 n36) = some o36 → W p l e R s m args below meth c H locs 0 0 Q (F0 m 76 ls [.int t1, .int t0]) := by
            intro x1 x3 t1 t0 I13 H locs ls hH hl hf
            unfold f_X12_flat_J76 at hf
            refine lv_iadd hx hb dX12_flat_76 ?_
            obtain ⟨v14, ev14, hf⟩ := nm_let hf
            refine nm_topi ev14 ?_
            refine lv_istore_n (lv' := [(2, .int v14), (0, .ref (ad 0)), (1, .int x1), (3, .int x3)]) hx hb dX12_flat_77 rfl hl (by decide) rfl (fun ls hl => ?_)
            refine lv_iinc (v := x3 + 1) (lv' := [(3, .int (x3 + 1)), (2, .int v14), (0, .ref (ad 0)), (1, .int x1)]) hx hb dX12_flat_78 hl (k := 3) rfl rfl (by decide) rfl (fun ls hl => ?_)
            refine lv_goto (tgt := 36) hx hb dX12_flat_81 (by decide) ?_
            exact ih36 x1 v14 (x3 + 1) I13 _ _ _ _ hH (lv_sub hl [2, 3, 1, 0] rfl) hf hX36
          refine lv_if_eq (tgt := 75) hx hb dX12_flat_68 (by decide) (fun c15 => ?_) (fun c15 => ?_)
          · have hf := nm_it c15 hf
            refine lv_iconst (v := 0) hx hb dX12_flat_75 (by decide) ?_
            exact hJ76 x1 x3 (0 : Int32) x2 I11 _ _ _ hH (lv_sub hl [0, 1, 3] rfl) hf
          · have hf := nm_ie c15 hf
            refine lv_iconst (v := 1) hx hb dX12_flat_71 (by decide) ?_
            refine lv_goto (tgt := 76) hx hb dX12_flat_72 (by decide) ?_
            exact hJ76 x1 x3 (1 : Int32) x2 I11 _ _ _ hH (lv_sub hl [0, 1, 3] rfl) hf
    obtain ⟨y16, I17, hl43, hf⟩ := nm_sd2 hf
    refine hL36 nm_F x1 (0 : Int32) (0 : Int32) I6 _ _ _ _ hH (lv_sub hl [2, 3, 1, 0] rfl) hl43 (fun H locs ls hH hl => ?_)
    have hl : lv_has ls 4 [(0, .ref (ad 0)), (1, .int x1), (2, .int y16)] := hl
    have hH : nm_H D Y (fun q => s0 ≤ q) s.heap X moN ad (I17, nJ0, moZ) H locs := hH
    refine lv_bipush (v := 8) hx hb dX12_flat_84 (by decide) ?_
    refine lv_istore_n (lv' := [(3, .int (8 : Int32)), (0, .ref (ad 0)), (1, .int x1), (2, .int y16)]) hx hb dX12_flat_86 rfl hl (by decide) rfl (fun ls hl => ?_)
    have hL87 : ∀ (n87 : Nat) (x1 : Int32) (x2 : Int32) (x3 : Int32) (I18 : nm_I) (H : Heap) (locs : List Loc) (ls : Array Slot) (o87 : nm_I), nm_H D Y (fun q => s0 ≤ q) s.heap X moN ad (I18, nJ0, moZ) H locs → lv_has ls 4 [(0, .ref (ad 0)), (1, .int x1), (2, .int x2), (3, .int x3)] → f_X12_flat_L87 x1 x2 n87 x3 I18 = some o87 → (∀ (H : Heap) (locs : List Loc) (ls : Array Slot), nm_H D Y (fun q => s0 ≤ q) s.heap X moN ad (o87, nJ0, moZ) H locs → lv_has ls 4 [(0, .ref (ad 0)), (1, .int x1), (2, .int x2)] → W p l e R s m args below meth c H locs 0 0 Q (F0 m 104 ls [])) → W p l e R s m args below meth c H locs 0 0 Q (F0 m 87 ls []) := by
      intro n87
      induction n87 with
      | zero =>
        intro x1 x2 x3 I18 H locs ls o87 hH hl hf hX87
        cases hf
      | succ n87 ih87 =>
        intro x1 x2 x3 I18 H locs ls o87 hH hl hf hX87
        rw [f_X12_flat_L87] at hf
        refine lv_iload_n hx hb dX12_flat_87 rfl (lv_at hl 3 rfl) ?_
        refine lv_bipush (v := 16) hx hb dX12_flat_88 (by decide) ?_
        refine lv_icmp_ge (tgt := 104) hx hb dX12_flat_90 (by decide) (fun c19 => ?_) (fun c19 => ?_)
        · have hf := nm_it c19 hf
          cases hf
          exact hX87 _ _ _ hH (lv_sub hl [0, 1, 2] rfl)
        · have hf := nm_ie c19 hf
          refine lv_aload_n hx hb dX12_flat_93 rfl (lv_at hl 0 rfl) ?_
          refine lv_iload_n hx hb dX12_flat_94 rfl (lv_at hl 3 rfl) ?_
          obtain ⟨I20, hc21, hf⟩ := nm_sd1 hf
          refine nm_callv (nm_runV (X := X) (nl := moN) (k_X12_makes (hf := hc21)) hx hb hml hown hts hs0 hK hZ hH tw_1314 tw_1311 tw_1313 (sw_X12_makes) tw_9 hd_X12_makes mo_n0 mo_k0 (by decide) rfl rfl rfl ⟨Nat.le_trans (Nat.le_of_ble_eq_true rfl) hRf, Nat.le_trans (Nat.le_of_ble_eq_true rfl) hRl⟩ rfl hl.1 rfl (Nat.le_of_ble_eq_true rfl) dX12_flat_95 ⟨Nat.zero_le _, Nat.zero_le _⟩) hH (fun H locs hH => ?_)
          have hH : nm_H D Y (fun q => s0 ≤ q) s.heap X moN ad (I20, nJ0, moZ) H locs := hH
          refine lv_iinc (v := x3 + 1) (lv' := [(3, .int (x3 + 1)), (0, .ref (ad 0)), (1, .int x1), (2, .int x2)]) hx hb dX12_flat_98 hl (k := 3) rfl rfl (by decide) rfl (fun ls hl => ?_)
          refine lv_goto (tgt := 87) hx hb dX12_flat_101 (by decide) ?_
          exact ih87 x1 x2 (x3 + 1) I20 _ _ _ _ hH (lv_sub hl [1, 2, 3, 0] rfl) hf hX87
    obtain ⟨I22, hl42, hf⟩ := nm_sd1 hf
    refine hL87 nm_F x1 y16 (8 : Int32) I17 _ _ _ _ hH (lv_sub hl [1, 2, 3, 0] rfl) hl42 (fun H locs ls hH hl => ?_)
    have hl : lv_has ls 4 [(0, .ref (ad 0)), (1, .int x1), (2, .int y16)] := hl
    have hH : nm_H D Y (fun q => s0 ≤ q) s.heap X moN ad (I22, nJ0, moZ) H locs := hH
    refine lv_aload_n hx hb dX12_flat_104 rfl (lv_at hl 0 rfl) ?_
    refine lv_aload_n hx hb dX12_flat_105 rfl (lv_at hl 0 rfl) ?_
    refine gf_12_16 hK hx hb hts hown hH mo_n0 mo_k0 (hts _ tw_972) (fun _ h9 => h9) dX12_flat_106 ?_
    refine lv_iload_n hx hb dX12_flat_109 rfl (lv_at hl 1 rfl) ?_
    obtain ⟨hi23, hf⟩ := nm_chk hf
    refine nm_iald hx hb hK hH mo_n17 mo_k17 mo_l17 hi23 dX12_flat_110 ?_
    obtain ⟨I24, eI24, hf⟩ := nm_let hf
    refine pf_12_26 hK hx hb hts hown hH mo_n0 mo_k0 (hts _ tw_982) (fun _ h9 => h9) dX12_flat_111 (fun H locs hH => ?_)
    have hH : nm_H D Y (fun q => s0 ≤ q) s.heap X moN ad (I24, nJ0, moZ) H locs := by rw [eI24]; exact hH
    refine lv_iconst (v := 0) hx hb dX12_flat_114 (by decide) ?_
    refine lv_istore_n (lv' := [(3, .int (0 : Int32)), (0, .ref (ad 0)), (1, .int x1), (2, .int y16)]) hx hb dX12_flat_115 rfl hl (by decide) rfl (fun ls hl => ?_)
    have hL116 : ∀ (n116 : Nat) (x1 : Int32) (x2 : Int32) (x3 : Int32) (I25 : nm_I) (H : Heap) (locs : List Loc) (ls : Array Slot) (o116 : nm_I), nm_H D Y (fun q => s0 ≤ q) s.heap X moN ad (I25, nJ0, moZ) H locs → lv_has ls 4 [(0, .ref (ad 0)), (1, .int x1), (2, .int x2), (3, .int x3)] → f_X12_flat_L116 x1 x2 n116 x3 I25 = some o116 → (∀ (H : Heap) (locs : List Loc) (ls : Array Slot), nm_H D Y (fun q => s0 ≤ q) s.heap X moN ad (o116, nJ0, moZ) H locs → lv_has ls 4 [(0, .ref (ad 0)), (2, .int x2)] → W p l e R s m args below meth c H locs 0 0 Q (F0 m 184 ls [])) → W p l e R s m args below meth c H locs 0 0 Q (F0 m 116 ls []) := by
      intro n116
      induction n116 with
      | zero =>
        intro x1 x2 x3 I25 H locs ls o116 hH hl hf hX116
        cases hf
      | succ n116 ih116 =>
        intro x1 x2 x3 I25 H locs ls o116 hH hl hf hX116
        rw [f_X12_flat_L116] at hf
        refine lv_iload_n hx hb dX12_flat_116 rfl (lv_at hl 3 rfl) ?_
        refine lv_aload_n hx hb dX12_flat_117 rfl (lv_at hl 0 rfl) ?_
        refine gf_12_26 hK hx hb hts hown hH mo_n0 mo_k0 (hts _ tw_982) (fun _ h9 => h9) dX12_flat_118 ?_
        refine lv_icmp_ge (tgt := 184) hx hb dX12_flat_121 (by decide) (fun c26 => ?_) (fun c26 => ?_)
        · have hf := nm_it c26 hf
          cases hf
          exact hX116 _ _ _ hH (lv_sub hl [0, 2] rfl)
        · have hf := nm_ie c26 hf
          refine lv_aload_n hx hb dX12_flat_124 rfl (lv_at hl 0 rfl) ?_
          refine gf_12_23 hK hx hb hts hown hH mo_n0 mo_k0 (hts _ tw_979) (fun _ h9 => h9) dX12_flat_125 ?_
          refine lv_iload_n hx hb dX12_flat_128 rfl (lv_at hl 3 rfl) ?_
          refine lv_aload_n hx hb dX12_flat_129 rfl (lv_at hl 0 rfl) ?_
          refine gf_12_13 hK hx hb hts hown hH mo_n0 mo_k0 (hts _ tw_969) (fun _ h9 => h9) dX12_flat_130 ?_
          refine lv_sipush (v := 200) hx hb dX12_flat_133 (by decide) ?_
          refine lv_iload_n hx hb dX12_flat_136 rfl (lv_at hl 1 rfl) ?_
          refine lv_imul hx hb dX12_flat_137 ?_
          refine lv_iload_n hx hb dX12_flat_138 rfl (lv_at hl 3 rfl) ?_
          refine lv_iadd hx hb dX12_flat_139 ?_
          obtain ⟨hi27, hf⟩ := nm_chk hf
          refine nm_iald hx hb hK hH mo_n14 mo_k14 mo_l14 hi27 dX12_flat_140 ?_
          obtain ⟨hi28, hf⟩ := nm_chk hf
          obtain ⟨I29, eI29, hf⟩ := nm_let hf
          refine nm_iast hx hb hK hH mo_n24 mo_k24 mo_l24 hi28 dX12_flat_141 (fun H locs hH => ?_)
          have hH : nm_H D Y (fun q => s0 ≤ q) s.heap X moN ad (I29, nJ0, moZ) H locs := by rw [eI29]; exact hH
          refine lv_aload_n hx hb dX12_flat_142 rfl (lv_at hl 0 rfl) ?_
          refine gf_12_24 hK hx hb hts hown hH mo_n0 mo_k0 (hts _ tw_980) (fun _ h9 => h9) dX12_flat_143 ?_
          refine lv_iload_n hx hb dX12_flat_146 rfl (lv_at hl 3 rfl) ?_
          refine lv_aload_n hx hb dX12_flat_147 rfl (lv_at hl 0 rfl) ?_
          refine gf_12_14 hK hx hb hts hown hH mo_n0 mo_k0 (hts _ tw_970) (fun _ h9 => h9) dX12_flat_148 ?_
          refine lv_sipush (v := 200) hx hb dX12_flat_151 (by decide) ?_
          refine lv_iload_n hx hb dX12_flat_154 rfl (lv_at hl 1 rfl) ?_
          refine lv_imul hx hb dX12_flat_155 ?_
          refine lv_iload_n hx hb dX12_flat_156 rfl (lv_at hl 3 rfl) ?_
          refine lv_iadd hx hb dX12_flat_157 ?_
          obtain ⟨hi30, hf⟩ := nm_chk hf
          refine nm_iald hx hb hK hH mo_n15 mo_k15 mo_l15 hi30 dX12_flat_158 ?_
          obtain ⟨hi31, hf⟩ := nm_chk hf
          obtain ⟨I32, eI32, hf⟩ := nm_let hf
          refine nm_iast hx hb hK hH mo_n25 mo_k25 mo_l25 hi31 dX12_flat_159 (fun H locs hH => ?_)
          have hH : nm_H D Y (fun q => s0 ≤ q) s.heap X moN ad (I32, nJ0, moZ) H locs := by rw [eI32]; exact hH
          refine lv_aload_n hx hb dX12_flat_160 rfl (lv_at hl 0 rfl) ?_
          refine gf_12_25 hK hx hb hts hown hH mo_n0 mo_k0 (hts _ tw_981) (fun _ h9 => h9) dX12_flat_161 ?_
          refine lv_iload_n hx hb dX12_flat_164 rfl (lv_at hl 3 rfl) ?_
          refine lv_aload_n hx hb dX12_flat_165 rfl (lv_at hl 0 rfl) ?_
          refine gf_12_15 hK hx hb hts hown hH mo_n0 mo_k0 (hts _ tw_971) (fun _ h9 => h9) dX12_flat_166 ?_
          refine lv_sipush (v := 200) hx hb dX12_flat_169 (by decide) ?_
          refine lv_iload_n hx hb dX12_flat_172 rfl (lv_at hl 1 rfl) ?_
          refine lv_imul hx hb dX12_flat_173 ?_
          refine lv_iload_n hx hb dX12_flat_174 rfl (lv_at hl 3 rfl) ?_
          refine lv_iadd hx hb dX12_flat_175 ?_
          obtain ⟨hi33, hf⟩ := nm_chk hf
          refine nm_iald hx hb hK hH mo_n16 mo_k16 mo_l16 hi33 dX12_flat_176 ?_
          obtain ⟨hi34, hf⟩ := nm_chk hf
          obtain ⟨I35, eI35, hf⟩ := nm_let hf
          refine nm_iast hx hb hK hH mo_n26 mo_k26 mo_l26 hi34 dX12_flat_177 (fun H locs hH => ?_)
          have hH : nm_H D Y (fun q => s0 ≤ q) s.heap X moN ad (I35, nJ0, moZ) H locs := by rw [eI35]; exact hH
          refine lv_iinc (v := x3 + 1) (lv' := [(3, .int (x3 + 1)), (0, .ref (ad 0)), (1, .int x1), (2, .int x2)]) hx hb dX12_flat_178 hl (k := 3) rfl rfl (by decide) rfl (fun ls hl => ?_)
          refine lv_goto (tgt := 116) hx hb dX12_flat_181 (by decide) ?_
          exact ih116 x1 x2 (x3 + 1) I35 _ _ _ _ hH (lv_sub hl [1, 2, 3, 0] rfl) hf hX116
    obtain ⟨I36, hl41, hf⟩ := nm_sd1 hf
    refine hL116 nm_F x1 y16 (0 : Int32) I24 _ _ _ _ hH (lv_sub hl [1, 2, 3, 0] rfl) hl41 (fun H locs ls hH hl => ?_)
    have hl : lv_has ls 4 [(0, .ref (ad 0)), (2, .int y16)] := hl
    have hH : nm_H D Y (fun q => s0 ≤ q) s.heap X moN ad (I36, nJ0, moZ) H locs := hH
    refine lv_aload_n hx hb dX12_flat_184 rfl (lv_at hl 0 rfl) ?_
    refine lv_iconst (v := 1) hx hb dX12_flat_185 (by decide) ?_
    obtain ⟨I37, eI37, hf⟩ := nm_let hf
    refine pf_12_20 hK hx hb hts hown hH mo_n0 mo_k0 (hts _ tw_976) (fun _ h9 => h9) rfl rfl dX12_flat_186 (fun H locs hH => ?_)
    have hH : nm_H D Y (fun q => s0 ≤ q) s.heap X moN ad (I37, nJ0, moZ) H locs := by rw [eI37]; exact hH
    refine lv_aload_n hx hb dX12_flat_189 rfl (lv_at hl 0 rfl) ?_
    refine lv_iconst (v := 0) hx hb dX12_flat_190 (by decide) ?_
    obtain ⟨I38, eI38, hf⟩ := nm_let hf
    refine pf_12_21 hK hx hb hts hown hH mo_n0 mo_k0 (hts _ tw_977) (fun _ h9 => h9) rfl rfl dX12_flat_191 (fun H locs hH => ?_)
    have hH : nm_H D Y (fun q => s0 ≤ q) s.heap X moN ad (I38, nJ0, moZ) H locs := by rw [eI38]; exact hH
    refine lv_aload_n hx hb dX12_flat_194 rfl (lv_at hl 0 rfl) ?_
    refine lv_iconst (v := 0) hx hb dX12_flat_195 (by decide) ?_
    obtain ⟨I39, eI39, hf⟩ := nm_let hf
    refine pf_12_22 hK hx hb hts hown hH mo_n0 mo_k0 (hts _ tw_978) (fun _ h9 => h9) rfl rfl dX12_flat_196 (fun H locs hH => ?_)
    have hH : nm_H D Y (fun q => s0 ≤ q) s.heap X moN ad (I39, nJ0, moZ) H locs := by rw [eI39]; exact hH
    refine lv_aload_n hx hb dX12_flat_199 rfl (lv_at hl 0 rfl) ?_
    refine lv_iconst (v := 0) hx hb dX12_flat_200 (by decide) ?_
    obtain ⟨I40, eI40, hf⟩ := nm_let hf
    refine pf_12_72 hK hx hb hts hown hH mo_n0 mo_k0 (hts _ tw_1027) (fun _ h9 => h9) rfl rfl dX12_flat_201 (fun H locs hH => ?_)
    have hH : nm_H D Y (fun q => s0 ≤ q) s.heap X moN ad (I40, nJ0, moZ) H locs := by rw [eI40]; exact hH
    refine lv_iload_n hx hb dX12_flat_204 rfl (lv_at hl 1 rfl) ?_
    exact nm_iret hx hb hr hlocks hQ hH (congrArg Prod.fst (Option.some.inj hf)) (congrArg (fun q => (q.2, nJ0, moZ)) (Option.some.inj hf)) dX12_flat_205
  · have hf := nm_it c1 hf
    refine lv_aload_n hx hb dX12_flat_7 rfl (lv_at hl 0 rfl) ?_
    refine lv_bipush (v := -3) hx hb dX12_flat_8 (by decide) ?_
    obtain ⟨r47, I45, hc46, hf⟩ := nm_sd2 hf
    refine nm_calli (nm_runV (X := X) (nl := moN) (k_X12_no (hf := hc46)) hx hb hml hown hts hs0 hK hZ hH tw_1214 tw_1211 tw_1213 (sw_X12_no) tw_9 hd_X12_no mo_n0 mo_k0 (by decide) rfl rfl rfl ⟨Nat.le_trans (Nat.le_of_ble_eq_true rfl) hRf, Nat.le_trans (Nat.le_of_ble_eq_true rfl) hRl⟩ rfl hl.1 rfl (Nat.le_of_ble_eq_true rfl) dX12_flat_10 ⟨Nat.zero_le _, Nat.zero_le _⟩) hH (fun H locs hH => ?_)
    have hH : nm_H D Y (fun q => s0 ≤ q) s.heap X moN ad (I45, nJ0, moZ) H locs := hH
    exact nm_iret hx hb hr hlocks hQ hH (congrArg Prod.fst (Option.some.inj hf)) (congrArg (fun q => (q.2, nJ0, moZ)) (Option.some.inj hf)) dX12_flat_13
def f_X12_areaOf_J32 (x1 : Int32) (x3 : Int32) (t1 : Int32) (t0 : Int32) (I : nm_I) (k : Int32 → Int32 → Option (Int32)) : Option (Int32) :=
nm_l (t0 + t1) fun v3 =>
k v3 (x3 + 1)
def f_X12_areaOf_L4 (x1 : Int32) (I : nm_I) : Nat → Int32 → Int32 → Option (Int32)
  | 0, _, _ => none
  | n4 + 1, x2, x3 =>
(if (4096 : Int32) ≤ x3 then
some x2
else
nm_c (((4096 : Int32) * x1) + x3) 65536 (
(if (I 20 (((4096 : Int32) * x1) + x3).toNatClampNeg) = 0 then
f_X12_areaOf_J32 x1 x3 (0 : Int32) x2 I (f_X12_areaOf_L4 x1 I n4)
else
f_X12_areaOf_J32 x1 x3 (1 : Int32) x2 I (f_X12_areaOf_L4 x1 I n4))))
def f_X12_areaOf (x1 : Int32) (I : nm_I) : Option Int32 :=
nm_s1 (f_X12_areaOf_L4 x1 I nm_F (0 : Int32) (0 : Int32)) fun y5 =>
some y5
set_option maxHeartbeats 4000000 in
set_option maxRecDepth 100000 in
theorem k_X12_areaOf {l : Launch} {D : va_G} {Y : nm_Y} {s0 : Nat} {X : va_W} {ad : Nat → Nat}  {x1 : Int32} {I : nm_I} {r0 : Int32} (hf : f_X12_areaOf x1 I = some r0) :
    nm_Met l yX12_areaOf cX12_areaOf 4 (some .int) { frames := 0, cells := 0, slots := 0, locals := 0 } [.ref (ad 0), .int x1] D Y s0 (nm_W Y X moN ad (I, nJ0, moZ)) (nm_Qi D s0 r0 (nm_W Y X moN ad (I, nJ0, moZ))) 0 0 := by
  refine nm_of (by decide) (Nat.le_of_ble_eq_true rfl) ?_
  intro p e R s m args below meth c Q ls hx hb hr hlocks hml hown hts hs0 hK hZ hRf hRl hRc hRs hQ hP hD hl
  have hH : nm_H D Y (fun q => s0 ≤ q) s.heap X moN ad (I, nJ0, moZ) s.heap [] := ⟨hP, hD, va_S.rf⟩
  have hl : lv_has ls 4 [(0, .ref (ad 0)), (1, .int x1)] := hl
  unfold f_X12_areaOf at hf
  refine lv_iconst (v := 0) hx hb dX12_areaOf_0 (by decide) ?_
  refine lv_istore_n (lv' := [(2, .int (0 : Int32)), (0, .ref (ad 0)), (1, .int x1)]) hx hb dX12_areaOf_1 rfl hl (by decide) rfl (fun ls hl => ?_)
  refine lv_iconst (v := 0) hx hb dX12_areaOf_2 (by decide) ?_
  refine lv_istore_n (lv' := [(3, .int (0 : Int32)), (2, .int (0 : Int32)), (0, .ref (ad 0)), (1, .int x1)]) hx hb dX12_areaOf_3 rfl hl (by decide) rfl (fun ls hl => ?_)
  have hL4 : ∀ (n4 : Nat) (x1 : Int32) (x2 : Int32) (x3 : Int32) (H : Heap) (locs : List Loc) (ls : Array Slot) (o4 : Int32), nm_H D Y (fun q => s0 ≤ q) s.heap X moN ad (I, nJ0, moZ) H locs → lv_has ls 4 [(0, .ref (ad 0)), (1, .int x1), (2, .int x2), (3, .int x3)] → f_X12_areaOf_L4 x1 I n4 x2 x3 = some o4 → (∀ (H : Heap) (locs : List Loc) (ls : Array Slot), nm_H D Y (fun q => s0 ≤ q) s.heap X moN ad (I, nJ0, moZ) H locs → lv_has ls 4 [(2, .int o4)] → W p l e R s m args below meth c H locs 0 0 Q (F0 m 40 ls [])) → W p l e R s m args below meth c H locs 0 0 Q (F0 m 4 ls []) := by
    intro n4
    induction n4 with
    | zero =>
      intro x1 x2 x3 H locs ls o4 hH hl hf hX4
      cases hf
    | succ n4 ih4 =>
      intro x1 x2 x3 H locs ls o4 hH hl hf hX4
      rw [f_X12_areaOf_L4] at hf
      refine lv_iload_n hx hb dX12_areaOf_4 rfl (lv_at hl 3 rfl) ?_
      refine lv_sipush (v := 4096) hx hb dX12_areaOf_5 (by decide) ?_
      refine lv_icmp_ge (tgt := 40) hx hb dX12_areaOf_8 (by decide) (fun c1 => ?_) (fun c1 => ?_)
      · have hf := nm_it c1 hf
        cases hf
        exact hX4 _ _ _ hH (lv_sub hl [2] rfl)
      · have hf := nm_ie c1 hf
        refine lv_iload_n hx hb dX12_areaOf_11 rfl (lv_at hl 2 rfl) ?_
        refine lv_aload_n hx hb dX12_areaOf_12 rfl (lv_at hl 0 rfl) ?_
        refine gf_12_19 hK hx hb hts hown hH mo_n0 mo_k0 (hts _ tw_975) (fun _ h9 => h9) dX12_areaOf_13 ?_
        refine lv_sipush (v := 4096) hx hb dX12_areaOf_16 (by decide) ?_
        refine lv_iload_n hx hb dX12_areaOf_19 rfl (lv_at hl 1 rfl) ?_
        refine lv_imul hx hb dX12_areaOf_20 ?_
        refine lv_iload_n hx hb dX12_areaOf_21 rfl (lv_at hl 3 rfl) ?_
        refine lv_iadd hx hb dX12_areaOf_22 ?_
        obtain ⟨hi2, hf⟩ := nm_chk hf
        refine nm_zald hx hb hK hH mo_n20 mo_k20 mo_l20 hi2 dX12_areaOf_23 ?_
        have hJ32 : ∀ (x1 : Int32) (x3 : Int32) (t1 : Int32) (t0 : Int32) (H : Heap) (locs : List Loc) (ls : Array Slot), nm_H D Y (fun q => s0 ≤ q) s.heap X moN ad (I, nJ0, moZ) H locs → lv_has ls 4 [(0, .ref (ad 0)), (1, .int x1), (3, .int x3)] → f_X12_areaOf_J32 x1 x3 t1 t0 I (f_X12_areaOf_L4 x1 I n4) = some o4 → W p l e R s m args below meth c H locs 0 0 Q (F0 m 32 ls [.int t1, .int t0]) := by
          intro x1 x3 t1 t0 H locs ls hH hl hf
          unfold f_X12_areaOf_J32 at hf
          refine lv_iadd hx hb dX12_areaOf_32 ?_
          obtain ⟨v3, ev3, hf⟩ := nm_let hf
          refine nm_topi ev3 ?_
          refine lv_istore_n (lv' := [(2, .int v3), (0, .ref (ad 0)), (1, .int x1), (3, .int x3)]) hx hb dX12_areaOf_33 rfl hl (by decide) rfl (fun ls hl => ?_)
          refine lv_iinc (v := x3 + 1) (lv' := [(3, .int (x3 + 1)), (2, .int v3), (0, .ref (ad 0)), (1, .int x1)]) hx hb dX12_areaOf_34 hl (k := 3) rfl rfl (by decide) rfl (fun ls hl => ?_)
          refine lv_goto (tgt := 4) hx hb dX12_areaOf_37 (by decide) ?_
          exact ih4 x1 v3 (x3 + 1) _ _ _ _ hH (lv_sub hl [2, 3, 1, 0] rfl) hf hX4
        refine lv_if_eq (tgt := 31) hx hb dX12_areaOf_24 (by decide) (fun c4 => ?_) (fun c4 => ?_)
        · have hf := nm_it c4 hf
          refine lv_iconst (v := 0) hx hb dX12_areaOf_31 (by decide) ?_
          exact hJ32 x1 x3 (0 : Int32) x2 _ _ _ hH (lv_sub hl [0, 1, 3] rfl) hf
        · have hf := nm_ie c4 hf
          refine lv_iconst (v := 1) hx hb dX12_areaOf_27 (by decide) ?_
          refine lv_goto (tgt := 32) hx hb dX12_areaOf_28 (by decide) ?_
          exact hJ32 x1 x3 (1 : Int32) x2 _ _ _ hH (lv_sub hl [0, 1, 3] rfl) hf
  obtain ⟨y5, hl6, hf⟩ := nm_sd1 hf
  refine hL4 nm_F x1 (0 : Int32) (0 : Int32) _ _ _ _ hH (lv_sub hl [2, 3, 1, 0] rfl) hl6 (fun H locs ls hH hl => ?_)
  have hl : lv_has ls 4 [(2, .int y5)] := hl
  have hH : nm_H D Y (fun q => s0 ≤ q) s.heap X moN ad (I, nJ0, moZ) H locs := hH
  refine lv_iload_n hx hb dX12_areaOf_40 rfl (lv_at hl 0 rfl) ?_
  exact nm_iret hx hb hr hlocks hQ hH (Option.some.inj hf) rfl dX12_areaOf_41
def f_X12_area (x1 : Int32) (I : nm_I) : Option (Int32 × nm_I) :=
(if (f_X12_isLayer x1) = 0 then
nm_s2 (f_X12_no (-3 : Int32) I) fun r10 I8 =>
some (r10, I8)
else
(if (I 0 20) = 0 then
nm_s2 (f_X12_no (-2 : Int32) I) fun r5 I3 =>
some (r5, I3)
else
nm_s1 (f_X12_areaOf x1 I) fun r6 =>
some (r6, I)))
set_option maxHeartbeats 4000000 in
set_option maxRecDepth 100000 in
theorem k_X12_area {l : Launch} {D : va_G} {Y : nm_Y} {s0 : Nat} {X : va_W} {ad : Nat → Nat}  {x1 : Int32} {I : nm_I} {r0 : Int32} {M0 : nm_I} (hf : f_X12_area x1 I = some (r0, M0)) :
    nm_Met l yX12_area cX12_area 2 (some .int) { frames := 1, cells := 0, slots := 0, locals := 23 } [.ref (ad 0), .int x1] D Y s0 (nm_W Y X moN ad (I, nJ0, moZ)) (nm_Qi D s0 r0 (nm_W Y X moN ad (M0, nJ0, moZ))) 0 0 := by
  refine nm_of (by decide) (Nat.le_of_ble_eq_true rfl) ?_
  intro p e R s m args below meth c Q ls hx hb hr hlocks hml hown hts hs0 hK hZ hRf hRl hRc hRs hQ hP hD hl
  have hH : nm_H D Y (fun q => s0 ≤ q) s.heap X moN ad (I, nJ0, moZ) s.heap [] := ⟨hP, hD, va_S.rf⟩
  have hl : lv_has ls 2 [(0, .ref (ad 0)), (1, .int x1)] := hl
  unfold f_X12_area at hf
  refine lv_iload_n hx hb dX12_area_0 rfl (lv_at hl 1 rfl) ?_
  refine nm_calli (nm_runS (X := X) (nl := moN) (k_X12_isLayer (hf := (rfl : f_X12_isLayer x1 = _))) hx hb hml hown hts hs0 hK hZ hH tw_1231 tw_1229 tw_1230 tw_9 hd_X12_isLayer rfl rfl ⟨Nat.le_trans (Nat.le_of_ble_eq_true rfl) hRf, Nat.le_trans (Nat.le_of_ble_eq_true rfl) hRl⟩ rfl hl.1 rfl (Nat.le_of_ble_eq_true rfl) dX12_area_1 ⟨Nat.zero_le _, Nat.zero_le _⟩) hH (fun H locs hH => ?_)
  have hH : nm_H D Y (fun q => s0 ≤ q) s.heap X moN ad (I, nJ0, moZ) H locs := hH
  refine lv_if_ne (tgt := 14) hx hb dX12_area_4 (by decide) (fun c1 => ?_) (fun c1 => ?_)
  · have hf := nm_ie c1 hf
    refine lv_aload_n hx hb dX12_area_14 rfl (lv_at hl 0 rfl) ?_
    refine gf_12_20 hK hx hb hts hown hH mo_n0 mo_k0 (hts _ tw_976) (fun _ h9 => h9) dX12_area_15 ?_
    refine lv_if_eq (tgt := 29) hx hb dX12_area_18 (by decide) (fun c2 => ?_) (fun c2 => ?_)
    · have hf := nm_it c2 hf
      refine lv_aload_n hx hb dX12_area_29 rfl (lv_at hl 0 rfl) ?_
      refine lv_bipush (v := -2) hx hb dX12_area_30 (by decide) ?_
      obtain ⟨r5, I3, hc4, hf⟩ := nm_sd2 hf
      refine nm_calli (nm_runV (X := X) (nl := moN) (k_X12_no (hf := hc4)) hx hb hml hown hts hs0 hK hZ hH tw_1214 tw_1211 tw_1213 (sw_X12_no) tw_9 hd_X12_no mo_n0 mo_k0 (by decide) rfl rfl rfl ⟨Nat.le_trans (Nat.le_of_ble_eq_true rfl) hRf, Nat.le_trans (Nat.le_of_ble_eq_true rfl) hRl⟩ rfl hl.1 rfl (Nat.le_of_ble_eq_true rfl) dX12_area_32 ⟨Nat.zero_le _, Nat.zero_le _⟩) hH (fun H locs hH => ?_)
      have hH : nm_H D Y (fun q => s0 ≤ q) s.heap X moN ad (I3, nJ0, moZ) H locs := hH
      exact nm_iret hx hb hr hlocks hQ hH (congrArg Prod.fst (Option.some.inj hf)) (congrArg (fun q => (q.2, nJ0, moZ)) (Option.some.inj hf)) dX12_area_35
    · have hf := nm_ie c2 hf
      refine lv_aload_n hx hb dX12_area_21 rfl (lv_at hl 0 rfl) ?_
      refine lv_iload_n hx hb dX12_area_22 rfl (lv_at hl 1 rfl) ?_
      obtain ⟨r6, hc7, hf⟩ := nm_sd1 hf
      refine nm_calli (nm_runV (X := X) (nl := moN) (k_X12_areaOf (hf := hc7)) hx hb hml hown hts hs0 hK hZ hH tw_1338 tw_1335 tw_1337 (sw_X12_areaOf) tw_9 hd_X12_areaOf mo_n0 mo_k0 (by decide) rfl rfl rfl ⟨Nat.le_trans (Nat.le_of_ble_eq_true rfl) hRf, Nat.le_trans (Nat.le_of_ble_eq_true rfl) hRl⟩ rfl hl.1 rfl (Nat.le_of_ble_eq_true rfl) dX12_area_23 ⟨Nat.zero_le _, Nat.zero_le _⟩) hH (fun H locs hH => ?_)
      have hH : nm_H D Y (fun q => s0 ≤ q) s.heap X moN ad (I, nJ0, moZ) H locs := hH
      refine lv_goto (tgt := 35) hx hb dX12_area_26 (by decide) ?_
      exact nm_iret hx hb hr hlocks hQ hH (congrArg Prod.fst (Option.some.inj hf)) (congrArg (fun q => (q.2, nJ0, moZ)) (Option.some.inj hf)) dX12_area_35
  · have hf := nm_it c1 hf
    refine lv_aload_n hx hb dX12_area_7 rfl (lv_at hl 0 rfl) ?_
    refine lv_bipush (v := -3) hx hb dX12_area_8 (by decide) ?_
    obtain ⟨r10, I8, hc9, hf⟩ := nm_sd2 hf
    refine nm_calli (nm_runV (X := X) (nl := moN) (k_X12_no (hf := hc9)) hx hb hml hown hts hs0 hK hZ hH tw_1214 tw_1211 tw_1213 (sw_X12_no) tw_9 hd_X12_no mo_n0 mo_k0 (by decide) rfl rfl rfl ⟨Nat.le_trans (Nat.le_of_ble_eq_true rfl) hRf, Nat.le_trans (Nat.le_of_ble_eq_true rfl) hRl⟩ rfl hl.1 rfl (Nat.le_of_ble_eq_true rfl) dX12_area_10 ⟨Nat.zero_le _, Nat.zero_le _⟩) hH (fun H locs hH => ?_)
    have hH : nm_H D Y (fun q => s0 ≤ q) s.heap X moN ad (I8, nJ0, moZ) H locs := hH
    exact nm_iret hx hb hr hlocks hQ hH (congrArg Prod.fst (Option.some.inj hf)) (congrArg (fun q => (q.2, nJ0, moZ)) (Option.some.inj hf)) dX12_area_13
def f_X12_covered (x1 : Int32) (x2 : Int32) (I : nm_I) : Option (Int32 × nm_I) :=
(if (f_X12_isLayer x1) = 0 then
nm_s2 (f_X12_no (-3 : Int32) I) fun r4 I2 =>
some (r4, I2)
else
(if (f_X12_isSquare x2) = 0 then
nm_s2 (f_X12_no (-3 : Int32) I) fun r14 I12 =>
some (r14, I12)
else
(if (I 0 20) = 0 then
nm_s2 (f_X12_no (-2 : Int32) I) fun r11 I9 =>
some (r11, I9)
else
nm_c (((4096 : Int32) * x1) + x2) 65536 (
(if (I 20 (((4096 : Int32) * x1) + x2).toNatClampNeg) = 0 then
some ((0 : Int32), I)
else
some ((1 : Int32), I))))))
set_option maxHeartbeats 4000000 in
set_option maxRecDepth 100000 in
theorem k_X12_covered {l : Launch} {D : va_G} {Y : nm_Y} {s0 : Nat} {X : va_W} {ad : Nat → Nat}  {x1 : Int32} {x2 : Int32} {I : nm_I} {r0 : Int32} {M0 : nm_I} (hf : f_X12_covered x1 x2 I = some (r0, M0)) :
    nm_Met l yX12_covered cX12_covered 3 (some .int) { frames := 1, cells := 0, slots := 0, locals := 21 } [.ref (ad 0), .int x1, .int x2] D Y s0 (nm_W Y X moN ad (I, nJ0, moZ)) (nm_Qi D s0 r0 (nm_W Y X moN ad (M0, nJ0, moZ))) 0 0 := by
  refine nm_of (by decide) (Nat.le_of_ble_eq_true rfl) ?_
  intro p e R s m args below meth c Q ls hx hb hr hlocks hml hown hts hs0 hK hZ hRf hRl hRc hRs hQ hP hD hl
  have hH : nm_H D Y (fun q => s0 ≤ q) s.heap X moN ad (I, nJ0, moZ) s.heap [] := ⟨hP, hD, va_S.rf⟩
  have hl : lv_has ls 3 [(0, .ref (ad 0)), (1, .int x1), (2, .int x2)] := hl
  unfold f_X12_covered at hf
  refine lv_iload_n hx hb dX12_covered_0 rfl (lv_at hl 1 rfl) ?_
  refine nm_calli (nm_runS (X := X) (nl := moN) (k_X12_isLayer (hf := (rfl : f_X12_isLayer x1 = _))) hx hb hml hown hts hs0 hK hZ hH tw_1231 tw_1229 tw_1230 tw_9 hd_X12_isLayer rfl rfl ⟨Nat.le_trans (Nat.le_of_ble_eq_true rfl) hRf, Nat.le_trans (Nat.le_of_ble_eq_true rfl) hRl⟩ rfl hl.1 rfl (Nat.le_of_ble_eq_true rfl) dX12_covered_1 ⟨Nat.zero_le _, Nat.zero_le _⟩) hH (fun H locs hH => ?_)
  have hH : nm_H D Y (fun q => s0 ≤ q) s.heap X moN ad (I, nJ0, moZ) H locs := hH
  refine lv_if_eq (tgt := 14) hx hb dX12_covered_4 (by decide) (fun c1 => ?_) (fun c1 => ?_)
  · have hf := nm_it c1 hf
    refine lv_aload_n hx hb dX12_covered_14 rfl (lv_at hl 0 rfl) ?_
    refine lv_bipush (v := -3) hx hb dX12_covered_15 (by decide) ?_
    obtain ⟨r4, I2, hc3, hf⟩ := nm_sd2 hf
    refine nm_calli (nm_runV (X := X) (nl := moN) (k_X12_no (hf := hc3)) hx hb hml hown hts hs0 hK hZ hH tw_1214 tw_1211 tw_1213 (sw_X12_no) tw_9 hd_X12_no mo_n0 mo_k0 (by decide) rfl rfl rfl ⟨Nat.le_trans (Nat.le_of_ble_eq_true rfl) hRf, Nat.le_trans (Nat.le_of_ble_eq_true rfl) hRl⟩ rfl hl.1 rfl (Nat.le_of_ble_eq_true rfl) dX12_covered_17 ⟨Nat.zero_le _, Nat.zero_le _⟩) hH (fun H locs hH => ?_)
    have hH : nm_H D Y (fun q => s0 ≤ q) s.heap X moN ad (I2, nJ0, moZ) H locs := hH
    exact nm_iret hx hb hr hlocks hQ hH (congrArg Prod.fst (Option.some.inj hf)) (congrArg (fun q => (q.2, nJ0, moZ)) (Option.some.inj hf)) dX12_covered_20
  · have hf := nm_ie c1 hf
    refine lv_iload_n hx hb dX12_covered_7 rfl (lv_at hl 2 rfl) ?_
    refine nm_calli (nm_runS (X := X) (nl := moN) (k_X12_isSquare (hf := (rfl : f_X12_isSquare x2 = _))) hx hb hml hown hts hs0 hK hZ hH tw_1210 tw_1208 tw_1209 tw_9 hd_X12_isSquare rfl rfl ⟨Nat.le_trans (Nat.le_of_ble_eq_true rfl) hRf, Nat.le_trans (Nat.le_of_ble_eq_true rfl) hRl⟩ rfl hl.1 rfl (Nat.le_of_ble_eq_true rfl) dX12_covered_8 ⟨Nat.zero_le _, Nat.zero_le _⟩) hH (fun H locs hH => ?_)
    have hH : nm_H D Y (fun q => s0 ≤ q) s.heap X moN ad (I, nJ0, moZ) H locs := hH
    refine lv_if_ne (tgt := 21) hx hb dX12_covered_11 (by decide) (fun c5 => ?_) (fun c5 => ?_)
    · have hf := nm_ie c5 hf
      refine lv_aload_n hx hb dX12_covered_21 rfl (lv_at hl 0 rfl) ?_
      refine gf_12_20 hK hx hb hts hown hH mo_n0 mo_k0 (hts _ tw_976) (fun _ h9 => h9) dX12_covered_22 ?_
      refine lv_if_ne (tgt := 35) hx hb dX12_covered_25 (by decide) (fun c6 => ?_) (fun c6 => ?_)
      · have hf := nm_ie c6 hf
        refine lv_aload_n hx hb dX12_covered_35 rfl (lv_at hl 0 rfl) ?_
        refine gf_12_19 hK hx hb hts hown hH mo_n0 mo_k0 (hts _ tw_975) (fun _ h9 => h9) dX12_covered_36 ?_
        refine lv_sipush (v := 4096) hx hb dX12_covered_39 (by decide) ?_
        refine lv_iload_n hx hb dX12_covered_42 rfl (lv_at hl 1 rfl) ?_
        refine lv_imul hx hb dX12_covered_43 ?_
        refine lv_iload_n hx hb dX12_covered_44 rfl (lv_at hl 2 rfl) ?_
        refine lv_iadd hx hb dX12_covered_45 ?_
        obtain ⟨hi7, hf⟩ := nm_chk hf
        refine nm_zald hx hb hK hH mo_n20 mo_k20 mo_l20 hi7 dX12_covered_46 ?_
        refine lv_if_eq (tgt := 54) hx hb dX12_covered_47 (by decide) (fun c8 => ?_) (fun c8 => ?_)
        · have hf := nm_it c8 hf
          refine lv_iconst (v := 0) hx hb dX12_covered_54 (by decide) ?_
          exact nm_iret hx hb hr hlocks hQ hH (congrArg Prod.fst (Option.some.inj hf)) (congrArg (fun q => (q.2, nJ0, moZ)) (Option.some.inj hf)) dX12_covered_55
        · have hf := nm_ie c8 hf
          refine lv_iconst (v := 1) hx hb dX12_covered_50 (by decide) ?_
          refine lv_goto (tgt := 55) hx hb dX12_covered_51 (by decide) ?_
          exact nm_iret hx hb hr hlocks hQ hH (congrArg Prod.fst (Option.some.inj hf)) (congrArg (fun q => (q.2, nJ0, moZ)) (Option.some.inj hf)) dX12_covered_55
      · have hf := nm_it c6 hf
        refine lv_aload_n hx hb dX12_covered_28 rfl (lv_at hl 0 rfl) ?_
        refine lv_bipush (v := -2) hx hb dX12_covered_29 (by decide) ?_
        obtain ⟨r11, I9, hc10, hf⟩ := nm_sd2 hf
        refine nm_calli (nm_runV (X := X) (nl := moN) (k_X12_no (hf := hc10)) hx hb hml hown hts hs0 hK hZ hH tw_1214 tw_1211 tw_1213 (sw_X12_no) tw_9 hd_X12_no mo_n0 mo_k0 (by decide) rfl rfl rfl ⟨Nat.le_trans (Nat.le_of_ble_eq_true rfl) hRf, Nat.le_trans (Nat.le_of_ble_eq_true rfl) hRl⟩ rfl hl.1 rfl (Nat.le_of_ble_eq_true rfl) dX12_covered_31 ⟨Nat.zero_le _, Nat.zero_le _⟩) hH (fun H locs hH => ?_)
        have hH : nm_H D Y (fun q => s0 ≤ q) s.heap X moN ad (I9, nJ0, moZ) H locs := hH
        exact nm_iret hx hb hr hlocks hQ hH (congrArg Prod.fst (Option.some.inj hf)) (congrArg (fun q => (q.2, nJ0, moZ)) (Option.some.inj hf)) dX12_covered_34
    · have hf := nm_it c5 hf
      refine lv_aload_n hx hb dX12_covered_14 rfl (lv_at hl 0 rfl) ?_
      refine lv_bipush (v := -3) hx hb dX12_covered_15 (by decide) ?_
      obtain ⟨r14, I12, hc13, hf⟩ := nm_sd2 hf
      refine nm_calli (nm_runV (X := X) (nl := moN) (k_X12_no (hf := hc13)) hx hb hml hown hts hs0 hK hZ hH tw_1214 tw_1211 tw_1213 (sw_X12_no) tw_9 hd_X12_no mo_n0 mo_k0 (by decide) rfl rfl rfl ⟨Nat.le_trans (Nat.le_of_ble_eq_true rfl) hRf, Nat.le_trans (Nat.le_of_ble_eq_true rfl) hRl⟩ rfl hl.1 rfl (Nat.le_of_ble_eq_true rfl) dX12_covered_17 ⟨Nat.zero_le _, Nat.zero_le _⟩) hH (fun H locs hH => ?_)
      have hH : nm_H D Y (fun q => s0 ≤ q) s.heap X moN ad (I12, nJ0, moZ) H locs := hH
      exact nm_iret hx hb hr hlocks hQ hH (congrArg Prod.fst (Option.some.inj hf)) (congrArg (fun q => (q.2, nJ0, moZ)) (Option.some.inj hf)) dX12_covered_20
def f_X12_pieces (x1 : Int32) (x2 : Int32) (I : nm_I) : Option (Int32 × nm_I) :=
(if (f_X12_isLayer x1) = 0 then
nm_s2 (f_X12_no (-3 : Int32) I) fun r16 I14 =>
some (r16, I14)
else
(if (I 0 20) = 0 then
nm_s2 (f_X12_no (-2 : Int32) I) fun r13 I11 =>
some (r13, I11)
else
nm_s1 (f_X12_findPieces ((4096 : Int32) * x1) x1 I) fun I3 =>
(if x2 = (-1 : Int32) then
some (I3 0 33, I3)
else
(if (f_X12_isIn x2.toInt64 (0 : Int64) (((I3 0 33) - (1 : Int32)).toInt64)) = 0 then
nm_s2 (f_X12_no (-3 : Int32) I3) fun r9 I7 =>
some (r9, I7)
else
nm_c x2 4096 (
some (I3 29 x2.toNatClampNeg, I3))))))
set_option maxHeartbeats 4000000 in
set_option maxRecDepth 100000 in
theorem k_X12_pieces {l : Launch} {D : va_G} {Y : nm_Y} {s0 : Nat} {X : va_W} {ad : Nat → Nat}  {x1 : Int32} {x2 : Int32} {I : nm_I} {r0 : Int32} {M0 : nm_I} (hf : f_X12_pieces x1 x2 I = some (r0, M0)) :
    nm_Met l yX12_pieces cX12_pieces 3 (some .int) { frames := 2, cells := 0, slots := 0, locals := 50 } [.ref (ad 0), .int x1, .int x2] D Y s0 (nm_W Y X moN ad (I, nJ0, moZ)) (nm_Qi D s0 r0 (nm_W Y X moN ad (M0, nJ0, moZ))) 0 0 := by
  refine nm_of (by decide) (Nat.le_of_ble_eq_true rfl) ?_
  intro p e R s m args below meth c Q ls hx hb hr hlocks hml hown hts hs0 hK hZ hRf hRl hRc hRs hQ hP hD hl
  have hH : nm_H D Y (fun q => s0 ≤ q) s.heap X moN ad (I, nJ0, moZ) s.heap [] := ⟨hP, hD, va_S.rf⟩
  have hl : lv_has ls 3 [(0, .ref (ad 0)), (1, .int x1), (2, .int x2)] := hl
  unfold f_X12_pieces at hf
  refine lv_iload_n hx hb dX12_pieces_0 rfl (lv_at hl 1 rfl) ?_
  refine nm_calli (nm_runS (X := X) (nl := moN) (k_X12_isLayer (hf := (rfl : f_X12_isLayer x1 = _))) hx hb hml hown hts hs0 hK hZ hH tw_1231 tw_1229 tw_1230 tw_9 hd_X12_isLayer rfl rfl ⟨Nat.le_trans (Nat.le_of_ble_eq_true rfl) hRf, Nat.le_trans (Nat.le_of_ble_eq_true rfl) hRl⟩ rfl hl.1 rfl (Nat.le_of_ble_eq_true rfl) dX12_pieces_1 ⟨Nat.zero_le _, Nat.zero_le _⟩) hH (fun H locs hH => ?_)
  have hH : nm_H D Y (fun q => s0 ≤ q) s.heap X moN ad (I, nJ0, moZ) H locs := hH
  refine lv_if_ne (tgt := 14) hx hb dX12_pieces_4 (by decide) (fun c1 => ?_) (fun c1 => ?_)
  · have hf := nm_ie c1 hf
    refine lv_aload_n hx hb dX12_pieces_14 rfl (lv_at hl 0 rfl) ?_
    refine gf_12_20 hK hx hb hts hown hH mo_n0 mo_k0 (hts _ tw_976) (fun _ h9 => h9) dX12_pieces_15 ?_
    refine lv_if_ne (tgt := 28) hx hb dX12_pieces_18 (by decide) (fun c2 => ?_) (fun c2 => ?_)
    · have hf := nm_ie c2 hf
      refine lv_aload_n hx hb dX12_pieces_28 rfl (lv_at hl 0 rfl) ?_
      refine lv_sipush (v := 4096) hx hb dX12_pieces_29 (by decide) ?_
      refine lv_iload_n hx hb dX12_pieces_32 rfl (lv_at hl 1 rfl) ?_
      refine lv_imul hx hb dX12_pieces_33 ?_
      refine lv_iload_n hx hb dX12_pieces_34 rfl (lv_at hl 1 rfl) ?_
      obtain ⟨I3, hc4, hf⟩ := nm_sd1 hf
      refine nm_callv (nm_runV (X := X) (nl := moN) (k_X12_findPieces (hf := hc4)) hx hb hml hown hts hs0 hK hZ hH tw_1318 tw_1315 tw_1317 (sw_X12_findPieces) tw_9 hd_X12_findPieces mo_n0 mo_k0 (by decide) rfl rfl rfl ⟨Nat.le_trans (Nat.le_of_ble_eq_true rfl) hRf, Nat.le_trans (Nat.le_of_ble_eq_true rfl) hRl⟩ rfl hl.1 rfl (Nat.le_of_ble_eq_true rfl) dX12_pieces_35 ⟨Nat.zero_le _, Nat.zero_le _⟩) hH (fun H locs hH => ?_)
      have hH : nm_H D Y (fun q => s0 ≤ q) s.heap X moN ad (I3, nJ0, moZ) H locs := hH
      refine lv_iload_n hx hb dX12_pieces_38 rfl (lv_at hl 2 rfl) ?_
      refine lv_iconst (v := -1) hx hb dX12_pieces_39 (by decide) ?_
      refine lv_icmp_ne (tgt := 48) hx hb dX12_pieces_40 (by decide) (fun c5 => ?_) (fun c5 => ?_)
      · have hf := nm_ie c5 hf
        refine lv_iload_n hx hb dX12_pieces_48 rfl (lv_at hl 2 rfl) ?_
        refine lv_i2l hx hb dX12_pieces_49 rfl ?_
        refine lv_lconst (v := 0) hx hb dX12_pieces_50 (by decide) ?_
        refine lv_aload_n hx hb dX12_pieces_51 rfl (lv_at hl 0 rfl) ?_
        refine gf_12_33 hK hx hb hts hown hH mo_n0 mo_k0 (hts _ tw_989) (fun _ h9 => h9) dX12_pieces_52 ?_
        refine lv_iconst (v := 1) hx hb dX12_pieces_55 (by decide) ?_
        refine lv_isub hx hb dX12_pieces_56 ?_
        refine lv_i2l hx hb dX12_pieces_57 rfl ?_
        refine nm_calli (nm_runS (X := X) (nl := moN) (k_X12_isIn (hf := (rfl : f_X12_isIn x2.toInt64 (0 : Int64) (((I3 0 33) - (1 : Int32)).toInt64) = _))) hx hb hml hown hts hs0 hK hZ hH tw_1207 tw_1205 tw_1206 tw_9 hd_X12_isIn rfl rfl ⟨Nat.le_trans (Nat.le_of_ble_eq_true rfl) hRf, Nat.le_trans (Nat.le_of_ble_eq_true rfl) hRl⟩ rfl hl.1 rfl (Nat.le_of_ble_eq_true rfl) dX12_pieces_58 ⟨Nat.zero_le _, Nat.zero_le _⟩) hH (fun H locs hH => ?_)
        have hH : nm_H D Y (fun q => s0 ≤ q) s.heap X moN ad (I3, nJ0, moZ) H locs := hH
        refine lv_if_eq (tgt := 73) hx hb dX12_pieces_61 (by decide) (fun c6 => ?_) (fun c6 => ?_)
        · have hf := nm_it c6 hf
          refine lv_aload_n hx hb dX12_pieces_73 rfl (lv_at hl 0 rfl) ?_
          refine lv_bipush (v := -3) hx hb dX12_pieces_74 (by decide) ?_
          obtain ⟨r9, I7, hc8, hf⟩ := nm_sd2 hf
          refine nm_calli (nm_runV (X := X) (nl := moN) (k_X12_no (hf := hc8)) hx hb hml hown hts hs0 hK hZ hH tw_1214 tw_1211 tw_1213 (sw_X12_no) tw_9 hd_X12_no mo_n0 mo_k0 (by decide) rfl rfl rfl ⟨Nat.le_trans (Nat.le_of_ble_eq_true rfl) hRf, Nat.le_trans (Nat.le_of_ble_eq_true rfl) hRl⟩ rfl hl.1 rfl (Nat.le_of_ble_eq_true rfl) dX12_pieces_76 ⟨Nat.zero_le _, Nat.zero_le _⟩) hH (fun H locs hH => ?_)
          have hH : nm_H D Y (fun q => s0 ≤ q) s.heap X moN ad (I7, nJ0, moZ) H locs := hH
          exact nm_iret hx hb hr hlocks hQ hH (congrArg Prod.fst (Option.some.inj hf)) (congrArg (fun q => (q.2, nJ0, moZ)) (Option.some.inj hf)) dX12_pieces_79
        · have hf := nm_ie c6 hf
          refine lv_aload_n hx hb dX12_pieces_64 rfl (lv_at hl 0 rfl) ?_
          refine gf_12_28 hK hx hb hts hown hH mo_n0 mo_k0 (hts _ tw_984) (fun _ h9 => h9) dX12_pieces_65 ?_
          refine lv_iload_n hx hb dX12_pieces_68 rfl (lv_at hl 2 rfl) ?_
          obtain ⟨hi10, hf⟩ := nm_chk hf
          refine nm_iald hx hb hK hH mo_n29 mo_k29 mo_l29 hi10 dX12_pieces_69 ?_
          refine lv_goto (tgt := 79) hx hb dX12_pieces_70 (by decide) ?_
          exact nm_iret hx hb hr hlocks hQ hH (congrArg Prod.fst (Option.some.inj hf)) (congrArg (fun q => (q.2, nJ0, moZ)) (Option.some.inj hf)) dX12_pieces_79
      · have hf := nm_it c5 hf
        refine lv_aload_n hx hb dX12_pieces_43 rfl (lv_at hl 0 rfl) ?_
        refine gf_12_33 hK hx hb hts hown hH mo_n0 mo_k0 (hts _ tw_989) (fun _ h9 => h9) dX12_pieces_44 ?_
        exact nm_iret hx hb hr hlocks hQ hH (congrArg Prod.fst (Option.some.inj hf)) (congrArg (fun q => (q.2, nJ0, moZ)) (Option.some.inj hf)) dX12_pieces_47
    · have hf := nm_it c2 hf
      refine lv_aload_n hx hb dX12_pieces_21 rfl (lv_at hl 0 rfl) ?_
      refine lv_bipush (v := -2) hx hb dX12_pieces_22 (by decide) ?_
      obtain ⟨r13, I11, hc12, hf⟩ := nm_sd2 hf
      refine nm_calli (nm_runV (X := X) (nl := moN) (k_X12_no (hf := hc12)) hx hb hml hown hts hs0 hK hZ hH tw_1214 tw_1211 tw_1213 (sw_X12_no) tw_9 hd_X12_no mo_n0 mo_k0 (by decide) rfl rfl rfl ⟨Nat.le_trans (Nat.le_of_ble_eq_true rfl) hRf, Nat.le_trans (Nat.le_of_ble_eq_true rfl) hRl⟩ rfl hl.1 rfl (Nat.le_of_ble_eq_true rfl) dX12_pieces_24 ⟨Nat.zero_le _, Nat.zero_le _⟩) hH (fun H locs hH => ?_)
      have hH : nm_H D Y (fun q => s0 ≤ q) s.heap X moN ad (I11, nJ0, moZ) H locs := hH
      exact nm_iret hx hb hr hlocks hQ hH (congrArg Prod.fst (Option.some.inj hf)) (congrArg (fun q => (q.2, nJ0, moZ)) (Option.some.inj hf)) dX12_pieces_27
  · have hf := nm_it c1 hf
    refine lv_aload_n hx hb dX12_pieces_7 rfl (lv_at hl 0 rfl) ?_
    refine lv_bipush (v := -3) hx hb dX12_pieces_8 (by decide) ?_
    obtain ⟨r16, I14, hc15, hf⟩ := nm_sd2 hf
    refine nm_calli (nm_runV (X := X) (nl := moN) (k_X12_no (hf := hc15)) hx hb hml hown hts hs0 hK hZ hH tw_1214 tw_1211 tw_1213 (sw_X12_no) tw_9 hd_X12_no mo_n0 mo_k0 (by decide) rfl rfl rfl ⟨Nat.le_trans (Nat.le_of_ble_eq_true rfl) hRf, Nat.le_trans (Nat.le_of_ble_eq_true rfl) hRl⟩ rfl hl.1 rfl (Nat.le_of_ble_eq_true rfl) dX12_pieces_10 ⟨Nat.zero_le _, Nat.zero_le _⟩) hH (fun H locs hH => ?_)
    have hH : nm_H D Y (fun q => s0 ≤ q) s.heap X moN ad (I14, nJ0, moZ) H locs := hH
    exact nm_iret hx hb hr hlocks hQ hH (congrArg Prod.fst (Option.some.inj hf)) (congrArg (fun q => (q.2, nJ0, moZ)) (Option.some.inj hf)) dX12_pieces_13
def f_X12_rule_J74 (x1 : Int32) (x2 : Int32) (x3 : Int32) (x4 : Int32) (t2 : Int64) (t1 : Int64) (t0 : Int64) (I7 : nm_I) : Option (Int32 × nm_I) :=
(if (f_X12_isIn t0 t1 t2) = 0 then
nm_s2 (f_X12_no (-7 : Int32) I7) fun r24 I22 =>
some (r24, I22)
else
(if (I7 0 39) = (16 : Int32) then
nm_s2 (f_X12_no (-8 : Int32) I7) fun r21 I19 =>
some (r21, I19)
else
nm_c (I7 0 39) 16 (
nm_l (nm_up I7 36 ((I7 0 39).toNatClampNeg) x1) fun I11 =>
nm_c (I11 0 39) 16 (
nm_l (nm_up I11 37 ((I11 0 39).toNatClampNeg) x2) fun I13 =>
nm_c (I13 0 39) 16 (
nm_l (nm_up I13 38 ((I13 0 39).toNatClampNeg) x3) fun I15 =>
nm_c (I15 0 39) 16 (
nm_l (nm_up I15 39 ((I15 0 39).toNatClampNeg) x4) fun I17 =>
nm_l (nm_up I17 0 39 ((I17 0 39) + (1 : Int32))) fun I18 =>
some ((I18 0 39) - (1 : Int32), I18)))))))
def f_X12_rule_J45 (x1 : Int32) (x2 : Int32) (x3 : Int32) (x4 : Int32) (I6 : nm_I) : Option (Int32 × nm_I) :=
(if (2 : Int32) ≤ x1 then
(if x1 = (2 : Int32) then
f_X12_rule_J74 x1 x2 x3 x4 (9 : Int64) (0 : Int64) x4.toInt64 I6
else
f_X12_rule_J74 x1 x2 x3 x4 (4096 : Int64) (0 : Int64) x4.toInt64 I6)
else
f_X12_rule_J74 x1 x2 x3 x4 (64 : Int64) (0 : Int64) x4.toInt64 I6)
def f_X12_rule (x1 : Int32) (x2 : Int32) (x3 : Int32) (x4 : Int32) (I : nm_I) : Option (Int32 × nm_I) :=
(if (f_X12_isIn x1.toInt64 (0 : Int64) (4 : Int64)) = 0 then
nm_s2 (f_X12_no (-7 : Int32) I) fun r34 I32 =>
some (r34, I32)
else
(if (f_X12_isLayer x2) = 0 then
nm_s2 (f_X12_no (-3 : Int32) I) fun r5 I3 =>
some (r5, I3)
else
(if x1 = (2 : Int32) then
(if (f_X12_isLayer x3) = 0 then
nm_s2 (f_X12_no (-3 : Int32) I) fun r31 I29 =>
some (r31, I29)
else
f_X12_rule_J45 x1 x2 x3 x4 I)
else
f_X12_rule_J45 x1 x2 x3 x4 I)))
set_option maxHeartbeats 4000000 in
set_option maxRecDepth 100000 in
theorem k_X12_rule {l : Launch} {D : va_G} {Y : nm_Y} {s0 : Nat} {X : va_W} {ad : Nat → Nat}  {x1 : Int32} {x2 : Int32} {x3 : Int32} {x4 : Int32} {I : nm_I} {r0 : Int32} {M0 : nm_I} (hf : f_X12_rule x1 x2 x3 x4 I = some (r0, M0)) :
    nm_Met l yX12_rule cX12_rule 5 (some .int) { frames := 1, cells := 0, slots := 0, locals := 25 } [.ref (ad 0), .int x1, .int x2, .int x3, .int x4] D Y s0 (nm_W Y X moN ad (I, nJ0, moZ)) (nm_Qi D s0 r0 (nm_W Y X moN ad (M0, nJ0, moZ))) 0 0 := by
  refine nm_of (by decide) (Nat.le_of_ble_eq_true rfl) ?_
  intro p e R s m args below meth c Q ls hx hb hr hlocks hml hown hts hs0 hK hZ hRf hRl hRc hRs hQ hP hD hl
  have hH : nm_H D Y (fun q => s0 ≤ q) s.heap X moN ad (I, nJ0, moZ) s.heap [] := ⟨hP, hD, va_S.rf⟩
  have hl : lv_has ls 5 [(0, .ref (ad 0)), (1, .int x1), (2, .int x2), (3, .int x3), (4, .int x4)] := hl
  unfold f_X12_rule at hf
  refine lv_iload_n hx hb dX12_rule_0 rfl (lv_at hl 1 rfl) ?_
  refine lv_i2l hx hb dX12_rule_1 rfl ?_
  refine lv_lconst (v := 0) hx hb dX12_rule_2 (by decide) ?_
  refine lv_ldc2 hx hb hown (hts _ tw_1249) dX12_rule_3 ?_
  refine nm_calli (nm_runS (X := X) (nl := moN) (k_X12_isIn (hf := (rfl : f_X12_isIn x1.toInt64 (0 : Int64) (4 : Int64) = _))) hx hb hml hown hts hs0 hK hZ hH tw_1207 tw_1205 tw_1206 tw_9 hd_X12_isIn rfl rfl ⟨Nat.le_trans (Nat.le_of_ble_eq_true rfl) hRf, Nat.le_trans (Nat.le_of_ble_eq_true rfl) hRl⟩ rfl hl.1 rfl (Nat.le_of_ble_eq_true rfl) dX12_rule_6 ⟨Nat.zero_le _, Nat.zero_le _⟩) hH (fun H locs hH => ?_)
  have hH : nm_H D Y (fun q => s0 ≤ q) s.heap X moN ad (I, nJ0, moZ) H locs := hH
  refine lv_if_ne (tgt := 19) hx hb dX12_rule_9 (by decide) (fun c1 => ?_) (fun c1 => ?_)
  · have hf := nm_ie c1 hf
    refine lv_iload_n hx hb dX12_rule_19 rfl (lv_at hl 2 rfl) ?_
    refine nm_calli (nm_runS (X := X) (nl := moN) (k_X12_isLayer (hf := (rfl : f_X12_isLayer x2 = _))) hx hb hml hown hts hs0 hK hZ hH tw_1231 tw_1229 tw_1230 tw_9 hd_X12_isLayer rfl rfl ⟨Nat.le_trans (Nat.le_of_ble_eq_true rfl) hRf, Nat.le_trans (Nat.le_of_ble_eq_true rfl) hRl⟩ rfl hl.1 rfl (Nat.le_of_ble_eq_true rfl) dX12_rule_20 ⟨Nat.zero_le _, Nat.zero_le _⟩) hH (fun H locs hH => ?_)
    have hH : nm_H D Y (fun q => s0 ≤ q) s.heap X moN ad (I, nJ0, moZ) H locs := hH
    refine lv_if_eq (tgt := 38) hx hb dX12_rule_23 (by decide) (fun c2 => ?_) (fun c2 => ?_)
    · have hf := nm_it c2 hf
      refine lv_aload_n hx hb dX12_rule_38 rfl (lv_at hl 0 rfl) ?_
      refine lv_bipush (v := -3) hx hb dX12_rule_39 (by decide) ?_
      obtain ⟨r5, I3, hc4, hf⟩ := nm_sd2 hf
      refine nm_calli (nm_runV (X := X) (nl := moN) (k_X12_no (hf := hc4)) hx hb hml hown hts hs0 hK hZ hH tw_1214 tw_1211 tw_1213 (sw_X12_no) tw_9 hd_X12_no mo_n0 mo_k0 (by decide) rfl rfl rfl ⟨Nat.le_trans (Nat.le_of_ble_eq_true rfl) hRf, Nat.le_trans (Nat.le_of_ble_eq_true rfl) hRl⟩ rfl hl.1 rfl (Nat.le_of_ble_eq_true rfl) dX12_rule_41 ⟨Nat.zero_le _, Nat.zero_le _⟩) hH (fun H locs hH => ?_)
      have hH : nm_H D Y (fun q => s0 ≤ q) s.heap X moN ad (I3, nJ0, moZ) H locs := hH
      exact nm_iret hx hb hr hlocks hQ hH (congrArg Prod.fst (Option.some.inj hf)) (congrArg (fun q => (q.2, nJ0, moZ)) (Option.some.inj hf)) dX12_rule_44
    · have hf := nm_ie c2 hf
      refine lv_iload_n hx hb dX12_rule_26 rfl (lv_at hl 1 rfl) ?_
      refine lv_iconst (v := 2) hx hb dX12_rule_27 (by decide) ?_
      have hJ45 : ∀ (x1 : Int32) (x2 : Int32) (x3 : Int32) (x4 : Int32) (I6 : nm_I) (H : Heap) (locs : List Loc) (ls : Array Slot), nm_H D Y (fun q => s0 ≤ q) s.heap X moN ad (I6, nJ0, moZ) H locs → lv_has ls 5 [(0, .ref (ad 0)), (1, .int x1), (2, .int x2), (3, .int x3), (4, .int x4)] → f_X12_rule_J45 x1 x2 x3 x4 I6 = some (r0, M0) → W p l e R s m args below meth c H locs 0 0 Q (F0 m 45 ls []) := by
        intro x1 x2 x3 x4 I6 H locs ls hH hl hf
        unfold f_X12_rule_J45 at hf
        refine lv_iload hx hb dX12_rule_45 (lv_at hl 4 rfl) ?_
        refine lv_i2l hx hb dX12_rule_47 rfl ?_
        refine lv_lconst (v := 0) hx hb dX12_rule_48 (by decide) ?_
        refine lv_iload_n hx hb dX12_rule_49 rfl (lv_at hl 1 rfl) ?_
        refine lv_iconst (v := 2) hx hb dX12_rule_50 (by decide) ?_
        have hJ74 : ∀ (x1 : Int32) (x2 : Int32) (x3 : Int32) (x4 : Int32) (t2 : Int64) (t1 : Int64) (t0 : Int64) (I7 : nm_I) (H : Heap) (locs : List Loc) (ls : Array Slot), nm_H D Y (fun q => s0 ≤ q) s.heap X moN ad (I7, nJ0, moZ) H locs → lv_has ls 5 [(0, .ref (ad 0)), (1, .int x1), (2, .int x2), (3, .int x3), (4, .int x4)] → f_X12_rule_J74 x1 x2 x3 x4 t2 t1 t0 I7 = some (r0, M0) → W p l e R s m args below meth c H locs 0 0 Q (F0 m 74 ls [.long t2, .long t1, .long t0]) := by
          intro x1 x2 x3 x4 t2 t1 t0 I7 H locs ls hH hl hf
          unfold f_X12_rule_J74 at hf
          refine nm_calli (nm_runS (X := X) (nl := moN) (k_X12_isIn (hf := (rfl : f_X12_isIn t0 t1 t2 = _))) hx hb hml hown hts hs0 hK hZ hH tw_1207 tw_1205 tw_1206 tw_9 hd_X12_isIn rfl rfl ⟨Nat.le_trans (Nat.le_of_ble_eq_true rfl) hRf, Nat.le_trans (Nat.le_of_ble_eq_true rfl) hRl⟩ rfl hl.1 rfl (Nat.le_of_ble_eq_true rfl) dX12_rule_74 ⟨Nat.zero_le _, Nat.zero_le _⟩) hH (fun H locs hH => ?_)
          have hH : nm_H D Y (fun q => s0 ≤ q) s.heap X moN ad (I7, nJ0, moZ) H locs := hH
          refine lv_if_ne (tgt := 87) hx hb dX12_rule_77 (by decide) (fun c8 => ?_) (fun c8 => ?_)
          · have hf := nm_ie c8 hf
            refine lv_aload_n hx hb dX12_rule_87 rfl (lv_at hl 0 rfl) ?_
            refine gf_12_39 hK hx hb hts hown hH mo_n0 mo_k0 (hts _ tw_995) (fun _ h9 => h9) dX12_rule_88 ?_
            refine lv_bipush (v := 16) hx hb dX12_rule_91 (by decide) ?_
            refine lv_icmp_ne (tgt := 103) hx hb dX12_rule_93 (by decide) (fun c9 => ?_) (fun c9 => ?_)
            · have hf := nm_ie c9 hf
              refine lv_aload_n hx hb dX12_rule_103 rfl (lv_at hl 0 rfl) ?_
              refine gf_12_35 hK hx hb hts hown hH mo_n0 mo_k0 (hts _ tw_991) (fun _ h9 => h9) dX12_rule_104 ?_
              refine lv_aload_n hx hb dX12_rule_107 rfl (lv_at hl 0 rfl) ?_
              refine gf_12_39 hK hx hb hts hown hH mo_n0 mo_k0 (hts _ tw_995) (fun _ h9 => h9) dX12_rule_108 ?_
              refine lv_iload_n hx hb dX12_rule_111 rfl (lv_at hl 1 rfl) ?_
              obtain ⟨hi10, hf⟩ := nm_chk hf
              obtain ⟨I11, eI11, hf⟩ := nm_let hf
              refine nm_iast hx hb hK hH mo_n36 mo_k36 mo_l36 hi10 dX12_rule_112 (fun H locs hH => ?_)
              have hH : nm_H D Y (fun q => s0 ≤ q) s.heap X moN ad (I11, nJ0, moZ) H locs := by rw [eI11]; exact hH
              refine lv_aload_n hx hb dX12_rule_113 rfl (lv_at hl 0 rfl) ?_
              refine gf_12_36 hK hx hb hts hown hH mo_n0 mo_k0 (hts _ tw_992) (fun _ h9 => h9) dX12_rule_114 ?_
              refine lv_aload_n hx hb dX12_rule_117 rfl (lv_at hl 0 rfl) ?_
              refine gf_12_39 hK hx hb hts hown hH mo_n0 mo_k0 (hts _ tw_995) (fun _ h9 => h9) dX12_rule_118 ?_
              refine lv_iload_n hx hb dX12_rule_121 rfl (lv_at hl 2 rfl) ?_
              obtain ⟨hi12, hf⟩ := nm_chk hf
              obtain ⟨I13, eI13, hf⟩ := nm_let hf
              refine nm_iast hx hb hK hH mo_n37 mo_k37 mo_l37 hi12 dX12_rule_122 (fun H locs hH => ?_)
              have hH : nm_H D Y (fun q => s0 ≤ q) s.heap X moN ad (I13, nJ0, moZ) H locs := by rw [eI13]; exact hH
              refine lv_aload_n hx hb dX12_rule_123 rfl (lv_at hl 0 rfl) ?_
              refine gf_12_37 hK hx hb hts hown hH mo_n0 mo_k0 (hts _ tw_993) (fun _ h9 => h9) dX12_rule_124 ?_
              refine lv_aload_n hx hb dX12_rule_127 rfl (lv_at hl 0 rfl) ?_
              refine gf_12_39 hK hx hb hts hown hH mo_n0 mo_k0 (hts _ tw_995) (fun _ h9 => h9) dX12_rule_128 ?_
              refine lv_iload_n hx hb dX12_rule_131 rfl (lv_at hl 3 rfl) ?_
              obtain ⟨hi14, hf⟩ := nm_chk hf
              obtain ⟨I15, eI15, hf⟩ := nm_let hf
              refine nm_iast hx hb hK hH mo_n38 mo_k38 mo_l38 hi14 dX12_rule_132 (fun H locs hH => ?_)
              have hH : nm_H D Y (fun q => s0 ≤ q) s.heap X moN ad (I15, nJ0, moZ) H locs := by rw [eI15]; exact hH
              refine lv_aload_n hx hb dX12_rule_133 rfl (lv_at hl 0 rfl) ?_
              refine gf_12_38 hK hx hb hts hown hH mo_n0 mo_k0 (hts _ tw_994) (fun _ h9 => h9) dX12_rule_134 ?_
              refine lv_aload_n hx hb dX12_rule_137 rfl (lv_at hl 0 rfl) ?_
              refine gf_12_39 hK hx hb hts hown hH mo_n0 mo_k0 (hts _ tw_995) (fun _ h9 => h9) dX12_rule_138 ?_
              refine lv_iload hx hb dX12_rule_141 (lv_at hl 4 rfl) ?_
              obtain ⟨hi16, hf⟩ := nm_chk hf
              obtain ⟨I17, eI17, hf⟩ := nm_let hf
              refine nm_iast hx hb hK hH mo_n39 mo_k39 mo_l39 hi16 dX12_rule_143 (fun H locs hH => ?_)
              have hH : nm_H D Y (fun q => s0 ≤ q) s.heap X moN ad (I17, nJ0, moZ) H locs := by rw [eI17]; exact hH
              refine lv_aload_n hx hb dX12_rule_144 rfl (lv_at hl 0 rfl) ?_
              refine lv_dup hx hb dX12_rule_145 rfl ?_
              refine gf_12_39 hK hx hb hts hown hH mo_n0 mo_k0 (hts _ tw_995) (fun _ h9 => h9) dX12_rule_146 ?_
              refine lv_iconst (v := 1) hx hb dX12_rule_149 (by decide) ?_
              refine lv_iadd hx hb dX12_rule_150 ?_
              obtain ⟨I18, eI18, hf⟩ := nm_let hf
              refine pf_12_39 hK hx hb hts hown hH mo_n0 mo_k0 (hts _ tw_995) (fun _ h9 => h9) dX12_rule_151 (fun H locs hH => ?_)
              have hH : nm_H D Y (fun q => s0 ≤ q) s.heap X moN ad (I18, nJ0, moZ) H locs := by rw [eI18]; exact hH
              refine lv_aload_n hx hb dX12_rule_154 rfl (lv_at hl 0 rfl) ?_
              refine gf_12_39 hK hx hb hts hown hH mo_n0 mo_k0 (hts _ tw_995) (fun _ h9 => h9) dX12_rule_155 ?_
              refine lv_iconst (v := 1) hx hb dX12_rule_158 (by decide) ?_
              refine lv_isub hx hb dX12_rule_159 ?_
              exact nm_iret hx hb hr hlocks hQ hH (congrArg Prod.fst (Option.some.inj hf)) (congrArg (fun q => (q.2, nJ0, moZ)) (Option.some.inj hf)) dX12_rule_160
            · have hf := nm_it c9 hf
              refine lv_aload_n hx hb dX12_rule_96 rfl (lv_at hl 0 rfl) ?_
              refine lv_bipush (v := -8) hx hb dX12_rule_97 (by decide) ?_
              obtain ⟨r21, I19, hc20, hf⟩ := nm_sd2 hf
              refine nm_calli (nm_runV (X := X) (nl := moN) (k_X12_no (hf := hc20)) hx hb hml hown hts hs0 hK hZ hH tw_1214 tw_1211 tw_1213 (sw_X12_no) tw_9 hd_X12_no mo_n0 mo_k0 (by decide) rfl rfl rfl ⟨Nat.le_trans (Nat.le_of_ble_eq_true rfl) hRf, Nat.le_trans (Nat.le_of_ble_eq_true rfl) hRl⟩ rfl hl.1 rfl (Nat.le_of_ble_eq_true rfl) dX12_rule_99 ⟨Nat.zero_le _, Nat.zero_le _⟩) hH (fun H locs hH => ?_)
              have hH : nm_H D Y (fun q => s0 ≤ q) s.heap X moN ad (I19, nJ0, moZ) H locs := hH
              exact nm_iret hx hb hr hlocks hQ hH (congrArg Prod.fst (Option.some.inj hf)) (congrArg (fun q => (q.2, nJ0, moZ)) (Option.some.inj hf)) dX12_rule_102
          · have hf := nm_it c8 hf
            refine lv_aload_n hx hb dX12_rule_80 rfl (lv_at hl 0 rfl) ?_
            refine lv_bipush (v := -7) hx hb dX12_rule_81 (by decide) ?_
            obtain ⟨r24, I22, hc23, hf⟩ := nm_sd2 hf
            refine nm_calli (nm_runV (X := X) (nl := moN) (k_X12_no (hf := hc23)) hx hb hml hown hts hs0 hK hZ hH tw_1214 tw_1211 tw_1213 (sw_X12_no) tw_9 hd_X12_no mo_n0 mo_k0 (by decide) rfl rfl rfl ⟨Nat.le_trans (Nat.le_of_ble_eq_true rfl) hRf, Nat.le_trans (Nat.le_of_ble_eq_true rfl) hRl⟩ rfl hl.1 rfl (Nat.le_of_ble_eq_true rfl) dX12_rule_83 ⟨Nat.zero_le _, Nat.zero_le _⟩) hH (fun H locs hH => ?_)
            have hH : nm_H D Y (fun q => s0 ≤ q) s.heap X moN ad (I22, nJ0, moZ) H locs := hH
            exact nm_iret hx hb hr hlocks hQ hH (congrArg Prod.fst (Option.some.inj hf)) (congrArg (fun q => (q.2, nJ0, moZ)) (Option.some.inj hf)) dX12_rule_86
        refine lv_icmp_ge (tgt := 60) hx hb dX12_rule_51 (by decide) (fun c25 => ?_) (fun c25 => ?_)
        · have hf := nm_it c25 hf
          refine lv_iload_n hx hb dX12_rule_60 rfl (lv_at hl 1 rfl) ?_
          refine lv_iconst (v := 2) hx hb dX12_rule_61 (by decide) ?_
          refine lv_icmp_ne (tgt := 71) hx hb dX12_rule_62 (by decide) (fun c26 => ?_) (fun c26 => ?_)
          · have hf := nm_ie c26 hf
            refine lv_ldc2 hx hb hown (hts _ tw_1351) dX12_rule_71 ?_
            exact hJ74 x1 x2 x3 x4 (4096 : Int64) (0 : Int64) x4.toInt64 I6 _ _ _ hH (lv_sub hl [0, 1, 2, 3, 4] rfl) hf
          · have hf := nm_it c26 hf
            refine lv_ldc2 hx hb hown (hts _ tw_1224) dX12_rule_65 ?_
            refine lv_goto (tgt := 74) hx hb dX12_rule_68 (by decide) ?_
            exact hJ74 x1 x2 x3 x4 (9 : Int64) (0 : Int64) x4.toInt64 I6 _ _ _ hH (lv_sub hl [0, 1, 2, 3, 4] rfl) hf
        · have hf := nm_ie c25 hf
          refine lv_ldc2 hx hb hown (hts _ tw_1215) dX12_rule_54 ?_
          refine lv_goto (tgt := 74) hx hb dX12_rule_57 (by decide) ?_
          exact hJ74 x1 x2 x3 x4 (64 : Int64) (0 : Int64) x4.toInt64 I6 _ _ _ hH (lv_sub hl [0, 1, 2, 3, 4] rfl) hf
      refine lv_icmp_ne (tgt := 45) hx hb dX12_rule_28 (by decide) (fun c27 => ?_) (fun c27 => ?_)
      · have hf := nm_ie c27 hf
        exact hJ45 x1 x2 x3 x4 I _ _ _ hH (lv_sub hl [0, 1, 2, 3, 4] rfl) hf
      · have hf := nm_it c27 hf
        refine lv_iload_n hx hb dX12_rule_31 rfl (lv_at hl 3 rfl) ?_
        refine nm_calli (nm_runS (X := X) (nl := moN) (k_X12_isLayer (hf := (rfl : f_X12_isLayer x3 = _))) hx hb hml hown hts hs0 hK hZ hH tw_1231 tw_1229 tw_1230 tw_9 hd_X12_isLayer rfl rfl ⟨Nat.le_trans (Nat.le_of_ble_eq_true rfl) hRf, Nat.le_trans (Nat.le_of_ble_eq_true rfl) hRl⟩ rfl hl.1 rfl (Nat.le_of_ble_eq_true rfl) dX12_rule_32 ⟨Nat.zero_le _, Nat.zero_le _⟩) hH (fun H locs hH => ?_)
        have hH : nm_H D Y (fun q => s0 ≤ q) s.heap X moN ad (I, nJ0, moZ) H locs := hH
        refine lv_if_ne (tgt := 45) hx hb dX12_rule_35 (by decide) (fun c28 => ?_) (fun c28 => ?_)
        · have hf := nm_ie c28 hf
          exact hJ45 x1 x2 x3 x4 I _ _ _ hH (lv_sub hl [0, 1, 2, 3, 4] rfl) hf
        · have hf := nm_it c28 hf
          refine lv_aload_n hx hb dX12_rule_38 rfl (lv_at hl 0 rfl) ?_
          refine lv_bipush (v := -3) hx hb dX12_rule_39 (by decide) ?_
          obtain ⟨r31, I29, hc30, hf⟩ := nm_sd2 hf
          refine nm_calli (nm_runV (X := X) (nl := moN) (k_X12_no (hf := hc30)) hx hb hml hown hts hs0 hK hZ hH tw_1214 tw_1211 tw_1213 (sw_X12_no) tw_9 hd_X12_no mo_n0 mo_k0 (by decide) rfl rfl rfl ⟨Nat.le_trans (Nat.le_of_ble_eq_true rfl) hRf, Nat.le_trans (Nat.le_of_ble_eq_true rfl) hRl⟩ rfl hl.1 rfl (Nat.le_of_ble_eq_true rfl) dX12_rule_41 ⟨Nat.zero_le _, Nat.zero_le _⟩) hH (fun H locs hH => ?_)
          have hH : nm_H D Y (fun q => s0 ≤ q) s.heap X moN ad (I29, nJ0, moZ) H locs := hH
          exact nm_iret hx hb hr hlocks hQ hH (congrArg Prod.fst (Option.some.inj hf)) (congrArg (fun q => (q.2, nJ0, moZ)) (Option.some.inj hf)) dX12_rule_44
  · have hf := nm_it c1 hf
    refine lv_aload_n hx hb dX12_rule_12 rfl (lv_at hl 0 rfl) ?_
    refine lv_bipush (v := -7) hx hb dX12_rule_13 (by decide) ?_
    obtain ⟨r34, I32, hc33, hf⟩ := nm_sd2 hf
    refine nm_calli (nm_runV (X := X) (nl := moN) (k_X12_no (hf := hc33)) hx hb hml hown hts hs0 hK hZ hH tw_1214 tw_1211 tw_1213 (sw_X12_no) tw_9 hd_X12_no mo_n0 mo_k0 (by decide) rfl rfl rfl ⟨Nat.le_trans (Nat.le_of_ble_eq_true rfl) hRf, Nat.le_trans (Nat.le_of_ble_eq_true rfl) hRl⟩ rfl hl.1 rfl (Nat.le_of_ble_eq_true rfl) dX12_rule_15 ⟨Nat.zero_le _, Nat.zero_le _⟩) hH (fun H locs hH => ?_)
    have hH : nm_H D Y (fun q => s0 ≤ q) s.heap X moN ad (I32, nJ0, moZ) H locs := hH
    exact nm_iret hx hb hr hlocks hQ hH (congrArg Prod.fst (Option.some.inj hf)) (congrArg (fun q => (q.2, nJ0, moZ)) (Option.some.inj hf)) dX12_rule_18
def f_X12_fault_J89 (x1 : Int32) (I4 : nm_I) : Option (nm_I) :=
nm_c x1 16 (
nm_c x1 16 (
nm_l (nm_up I4 45 x1.toNatClampNeg ((I4 45 x1.toNatClampNeg) + (1 : Int32))) fun I7 =>
some I7))
def f_X12_fault_J81 (x1 : Int32) (x4 : Int32) (I8 : nm_I) : Option (nm_I) :=
nm_c x1 16 (
nm_l (nm_up I8 46 x1.toNatClampNeg x4) fun I10 =>
f_X12_fault_J89 x1 I10)
def f_X12_fault_J51 (x1 : Int32) (x4 : Int32) (I1 : nm_I) : Option (nm_I) :=
nm_l (nm_up I1 0 46 ((I1 0 46) + (1 : Int32))) fun I2 =>
nm_c x1 16 (
(if (I2 45 x1.toNatClampNeg) = 0 then
f_X12_fault_J81 x1 x4 I2
else
nm_c x1 16 (
(if (I2 46 x1.toNatClampNeg) ≤ x4 then
f_X12_fault_J89 x1 I2
else
f_X12_fault_J81 x1 x4 I2))))
def f_X12_fault (x1 : Int32) (x2 : Int32) (x3 : Int32) (x4 : Int32) (I : nm_I) : Option (nm_I) :=
(if (600 : Int32) ≤ (I 0 46) then
f_X12_fault_J51 x1 x4 I
else
nm_c (I 0 46) 600 (
nm_l (nm_up I 41 ((I 0 46).toNatClampNeg) x1) fun I16 =>
nm_c (I16 0 46) 600 (
nm_l (nm_up I16 42 ((I16 0 46).toNatClampNeg) x2) fun I18 =>
nm_c (I18 0 46) 600 (
nm_l (nm_up I18 43 ((I18 0 46).toNatClampNeg) x3) fun I20 =>
nm_c (I20 0 46) 600 (
nm_l (nm_up I20 44 ((I20 0 46).toNatClampNeg) x4) fun I22 =>
f_X12_fault_J51 x1 x4 I22)))))
set_option maxHeartbeats 4000000 in
set_option maxRecDepth 100000 in
theorem k_X12_fault {l : Launch} {D : va_G} {Y : nm_Y} {s0 : Nat} {X : va_W} {ad : Nat → Nat}  {x1 : Int32} {x2 : Int32} {x3 : Int32} {x4 : Int32} {I : nm_I} {M0 : nm_I} (hf : f_X12_fault x1 x2 x3 x4 I = some M0) :
    nm_Met l yX12_fault cX12_fault 5 none { frames := 0, cells := 0, slots := 0, locals := 0 } [.ref (ad 0), .int x1, .int x2, .int x3, .int x4] D Y s0 (nm_W Y X moN ad (I, nJ0, moZ)) (nm_Qv D s0 (nm_W Y X moN ad (M0, nJ0, moZ))) 0 0 := by
  refine nm_of (by decide) (Nat.le_of_ble_eq_true rfl) ?_
  intro p e R s m args below meth c Q ls hx hb hr hlocks hml hown hts hs0 hK hZ hRf hRl hRc hRs hQ hP hD hl
  have hH : nm_H D Y (fun q => s0 ≤ q) s.heap X moN ad (I, nJ0, moZ) s.heap [] := ⟨hP, hD, va_S.rf⟩
  have hl : lv_has ls 5 [(0, .ref (ad 0)), (1, .int x1), (2, .int x2), (3, .int x3), (4, .int x4)] := hl
  unfold f_X12_fault at hf
  refine lv_aload_n hx hb dX12_fault_0 rfl (lv_at hl 0 rfl) ?_
  refine gf_12_46 hK hx hb hts hown hH mo_n0 mo_k0 (hts _ tw_1002) (fun _ h9 => h9) dX12_fault_1 ?_
  refine lv_sipush (v := 600) hx hb dX12_fault_4 (by decide) ?_
  have hJ51 : ∀ (x1 : Int32) (x4 : Int32) (I1 : nm_I) (H : Heap) (locs : List Loc) (ls : Array Slot), nm_H D Y (fun q => s0 ≤ q) s.heap X moN ad (I1, nJ0, moZ) H locs → lv_has ls 5 [(0, .ref (ad 0)), (1, .int x1), (4, .int x4)] → f_X12_fault_J51 x1 x4 I1 = some M0 → W p l e R s m args below meth c H locs 0 0 Q (F0 m 51 ls []) := by
    intro x1 x4 I1 H locs ls hH hl hf
    unfold f_X12_fault_J51 at hf
    refine lv_aload_n hx hb dX12_fault_51 rfl (lv_at hl 0 rfl) ?_
    refine lv_dup hx hb dX12_fault_52 rfl ?_
    refine gf_12_46 hK hx hb hts hown hH mo_n0 mo_k0 (hts _ tw_1002) (fun _ h9 => h9) dX12_fault_53 ?_
    refine lv_iconst (v := 1) hx hb dX12_fault_56 (by decide) ?_
    refine lv_iadd hx hb dX12_fault_57 ?_
    obtain ⟨I2, eI2, hf⟩ := nm_let hf
    refine pf_12_46 hK hx hb hts hown hH mo_n0 mo_k0 (hts _ tw_1002) (fun _ h9 => h9) dX12_fault_58 (fun H locs hH => ?_)
    have hH : nm_H D Y (fun q => s0 ≤ q) s.heap X moN ad (I2, nJ0, moZ) H locs := by rw [eI2]; exact hH
    refine lv_aload_n hx hb dX12_fault_61 rfl (lv_at hl 0 rfl) ?_
    refine gf_12_44 hK hx hb hts hown hH mo_n0 mo_k0 (hts _ tw_1000) (fun _ h9 => h9) dX12_fault_62 ?_
    refine lv_iload_n hx hb dX12_fault_65 rfl (lv_at hl 1 rfl) ?_
    obtain ⟨hi3, hf⟩ := nm_chk hf
    refine nm_iald hx hb hK hH mo_n45 mo_k45 mo_l45 hi3 dX12_fault_66 ?_
    have hJ89 : ∀ (x1 : Int32) (I4 : nm_I) (H : Heap) (locs : List Loc) (ls : Array Slot), nm_H D Y (fun q => s0 ≤ q) s.heap X moN ad (I4, nJ0, moZ) H locs → lv_has ls 5 [(0, .ref (ad 0)), (1, .int x1)] → f_X12_fault_J89 x1 I4 = some M0 → W p l e R s m args below meth c H locs 0 0 Q (F0 m 89 ls []) := by
      intro x1 I4 H locs ls hH hl hf
      unfold f_X12_fault_J89 at hf
      refine lv_aload_n hx hb dX12_fault_89 rfl (lv_at hl 0 rfl) ?_
      refine gf_12_44 hK hx hb hts hown hH mo_n0 mo_k0 (hts _ tw_1000) (fun _ h9 => h9) dX12_fault_90 ?_
      refine lv_iload_n hx hb dX12_fault_93 rfl (lv_at hl 1 rfl) ?_
      refine lv_dup2_11 hx hb dX12_fault_94 rfl rfl ?_
      obtain ⟨hi5, hf⟩ := nm_chk hf
      refine nm_iald hx hb hK hH mo_n45 mo_k45 mo_l45 hi5 dX12_fault_95 ?_
      refine lv_iconst (v := 1) hx hb dX12_fault_96 (by decide) ?_
      refine lv_iadd hx hb dX12_fault_97 ?_
      obtain ⟨hi6, hf⟩ := nm_chk hf
      obtain ⟨I7, eI7, hf⟩ := nm_let hf
      refine nm_iast hx hb hK hH mo_n45 mo_k45 mo_l45 hi6 dX12_fault_98 (fun H locs hH => ?_)
      have hH : nm_H D Y (fun q => s0 ≤ q) s.heap X moN ad (I7, nJ0, moZ) H locs := by rw [eI7]; exact hH
      exact nm_vret hx hb hr hlocks hQ hH (congrArg (fun q => (q, nJ0, moZ)) (Option.some.inj hf)) dX12_fault_99
    have hJ81 : ∀ (x1 : Int32) (x4 : Int32) (I8 : nm_I) (H : Heap) (locs : List Loc) (ls : Array Slot), nm_H D Y (fun q => s0 ≤ q) s.heap X moN ad (I8, nJ0, moZ) H locs → lv_has ls 5 [(0, .ref (ad 0)), (1, .int x1), (4, .int x4)] → f_X12_fault_J81 x1 x4 I8 = some M0 → W p l e R s m args below meth c H locs 0 0 Q (F0 m 81 ls []) := by
      intro x1 x4 I8 H locs ls hH hl hf
      unfold f_X12_fault_J81 at hf
      refine lv_aload_n hx hb dX12_fault_81 rfl (lv_at hl 0 rfl) ?_
      refine gf_12_45 hK hx hb hts hown hH mo_n0 mo_k0 (hts _ tw_1001) (fun _ h9 => h9) dX12_fault_82 ?_
      refine lv_iload_n hx hb dX12_fault_85 rfl (lv_at hl 1 rfl) ?_
      refine lv_iload hx hb dX12_fault_86 (lv_at hl 2 rfl) ?_
      obtain ⟨hi9, hf⟩ := nm_chk hf
      obtain ⟨I10, eI10, hf⟩ := nm_let hf
      refine nm_iast hx hb hK hH mo_n46 mo_k46 mo_l46 hi9 dX12_fault_88 (fun H locs hH => ?_)
      have hH : nm_H D Y (fun q => s0 ≤ q) s.heap X moN ad (I10, nJ0, moZ) H locs := by rw [eI10]; exact hH
      exact hJ89 x1 I10 _ _ _ hH (lv_sub hl [0, 1] rfl) hf
    refine lv_if_eq (tgt := 81) hx hb dX12_fault_67 (by decide) (fun c11 => ?_) (fun c11 => ?_)
    · have hf := nm_it c11 hf
      exact hJ81 x1 x4 I2 _ _ _ hH (lv_sub hl [0, 1, 2] rfl) hf
    · have hf := nm_ie c11 hf
      refine lv_iload hx hb dX12_fault_70 (lv_at hl 2 rfl) ?_
      refine lv_aload_n hx hb dX12_fault_72 rfl (lv_at hl 0 rfl) ?_
      refine gf_12_45 hK hx hb hts hown hH mo_n0 mo_k0 (hts _ tw_1001) (fun _ h9 => h9) dX12_fault_73 ?_
      refine lv_iload_n hx hb dX12_fault_76 rfl (lv_at hl 1 rfl) ?_
      obtain ⟨hi12, hf⟩ := nm_chk hf
      refine nm_iald hx hb hK hH mo_n46 mo_k46 mo_l46 hi12 dX12_fault_77 ?_
      refine lv_icmp_ge (tgt := 89) hx hb dX12_fault_78 (by decide) (fun c13 => ?_) (fun c13 => ?_)
      · have hf := nm_it c13 hf
        exact hJ89 x1 I2 _ _ _ hH (lv_sub hl [0, 1] rfl) hf
      · have hf := nm_ie c13 hf
        exact hJ81 x1 x4 I2 _ _ _ hH (lv_sub hl [0, 1, 2] rfl) hf
  refine lv_icmp_ge (tgt := 51) hx hb dX12_fault_7 (by decide) (fun c14 => ?_) (fun c14 => ?_)
  · have hf := nm_it c14 hf
    exact hJ51 x1 x4 I _ _ _ hH (lv_sub hl [0, 1, 4] rfl) hf
  · have hf := nm_ie c14 hf
    refine lv_aload_n hx hb dX12_fault_10 rfl (lv_at hl 0 rfl) ?_
    refine gf_12_40 hK hx hb hts hown hH mo_n0 mo_k0 (hts _ tw_996) (fun _ h9 => h9) dX12_fault_11 ?_
    refine lv_aload_n hx hb dX12_fault_14 rfl (lv_at hl 0 rfl) ?_
    refine gf_12_46 hK hx hb hts hown hH mo_n0 mo_k0 (hts _ tw_1002) (fun _ h9 => h9) dX12_fault_15 ?_
    refine lv_iload_n hx hb dX12_fault_18 rfl (lv_at hl 1 rfl) ?_
    obtain ⟨hi15, hf⟩ := nm_chk hf
    obtain ⟨I16, eI16, hf⟩ := nm_let hf
    refine nm_iast hx hb hK hH mo_n41 mo_k41 mo_l41 hi15 dX12_fault_19 (fun H locs hH => ?_)
    have hH : nm_H D Y (fun q => s0 ≤ q) s.heap X moN ad (I16, nJ0, moZ) H locs := by rw [eI16]; exact hH
    refine lv_aload_n hx hb dX12_fault_20 rfl (lv_at hl 0 rfl) ?_
    refine gf_12_41 hK hx hb hts hown hH mo_n0 mo_k0 (hts _ tw_997) (fun _ h9 => h9) dX12_fault_21 ?_
    refine lv_aload_n hx hb dX12_fault_24 rfl (lv_at hl 0 rfl) ?_
    refine gf_12_46 hK hx hb hts hown hH mo_n0 mo_k0 (hts _ tw_1002) (fun _ h9 => h9) dX12_fault_25 ?_
    refine lv_iload_n hx hb dX12_fault_28 rfl (lv_at hl 2 rfl) ?_
    obtain ⟨hi17, hf⟩ := nm_chk hf
    obtain ⟨I18, eI18, hf⟩ := nm_let hf
    refine nm_iast hx hb hK hH mo_n42 mo_k42 mo_l42 hi17 dX12_fault_29 (fun H locs hH => ?_)
    have hH : nm_H D Y (fun q => s0 ≤ q) s.heap X moN ad (I18, nJ0, moZ) H locs := by rw [eI18]; exact hH
    refine lv_aload_n hx hb dX12_fault_30 rfl (lv_at hl 0 rfl) ?_
    refine gf_12_42 hK hx hb hts hown hH mo_n0 mo_k0 (hts _ tw_998) (fun _ h9 => h9) dX12_fault_31 ?_
    refine lv_aload_n hx hb dX12_fault_34 rfl (lv_at hl 0 rfl) ?_
    refine gf_12_46 hK hx hb hts hown hH mo_n0 mo_k0 (hts _ tw_1002) (fun _ h9 => h9) dX12_fault_35 ?_
    refine lv_iload_n hx hb dX12_fault_38 rfl (lv_at hl 3 rfl) ?_
    obtain ⟨hi19, hf⟩ := nm_chk hf
    obtain ⟨I20, eI20, hf⟩ := nm_let hf
    refine nm_iast hx hb hK hH mo_n43 mo_k43 mo_l43 hi19 dX12_fault_39 (fun H locs hH => ?_)
    have hH : nm_H D Y (fun q => s0 ≤ q) s.heap X moN ad (I20, nJ0, moZ) H locs := by rw [eI20]; exact hH
    refine lv_aload_n hx hb dX12_fault_40 rfl (lv_at hl 0 rfl) ?_
    refine gf_12_43 hK hx hb hts hown hH mo_n0 mo_k0 (hts _ tw_999) (fun _ h9 => h9) dX12_fault_41 ?_
    refine lv_aload_n hx hb dX12_fault_44 rfl (lv_at hl 0 rfl) ?_
    refine gf_12_46 hK hx hb hts hown hH mo_n0 mo_k0 (hts _ tw_1002) (fun _ h9 => h9) dX12_fault_45 ?_
    refine lv_iload hx hb dX12_fault_48 (lv_at hl 4 rfl) ?_
    obtain ⟨hi21, hf⟩ := nm_chk hf
    obtain ⟨I22, eI22, hf⟩ := nm_let hf
    refine nm_iast hx hb hK hH mo_n44 mo_k44 mo_l44 hi21 dX12_fault_50 (fun H locs hH => ?_)
    have hH : nm_H D Y (fun q => s0 ≤ q) s.heap X moN ad (I22, nJ0, moZ) H locs := by rw [eI22]; exact hH
    exact hJ51 x1 x4 I22 _ _ _ hH (lv_sub hl [0, 1, 4] rfl) hf
def f_X12_along (x0 : Int32) (x1 : Int32) : Int32 :=
(if (64 : Int32) ≤ x0 then
(((64 : Int32) * x1) + x0) - (64 : Int32)
else
((64 : Int32) * x0) + x1)
set_option maxHeartbeats 4000000 in
set_option maxRecDepth 100000 in
theorem k_X12_along {l : Launch} {D : va_G} {Y : nm_Y} {s0 : Nat} {X : va_W} {ad : Nat → Nat}  {x0 : Int32} {x1 : Int32} {I : nm_I} {r0 : Int32} (hf : f_X12_along x0 x1 = r0) :
    nm_Met l yX12_along cX12_along 2 (some .int) { frames := 0, cells := 0, slots := 0, locals := 0 } [.int x0, .int x1] D Y s0 (nm_W Y X moN ad (I, nJ0, moZ)) (nm_Qi D s0 r0 (nm_W Y X moN ad (I, nJ0, moZ))) 0 0 := by
  refine nm_of (by decide) (Nat.le_of_ble_eq_true rfl) ?_
  intro p e R s m args below meth c Q ls hx hb hr hlocks hml hown hts hs0 hK hZ hRf hRl hRc hRs hQ hP hD hl
  have hH : nm_H D Y (fun q => s0 ≤ q) s.heap X moN ad (I, nJ0, moZ) s.heap [] := ⟨hP, hD, va_S.rf⟩
  have hl : lv_has ls 2 [(0, .int x0), (1, .int x1)] := hl
  unfold f_X12_along at hf
  refine lv_iload_n hx hb dX12_along_0 rfl (lv_at hl 0 rfl) ?_
  refine lv_bipush (v := 64) hx hb dX12_along_1 (by decide) ?_
  refine lv_icmp_ge (tgt := 15) hx hb dX12_along_3 (by decide) (fun c1 => ?_) (fun c1 => ?_)
  · have hf := nm_it c1 hf
    refine lv_bipush (v := 64) hx hb dX12_along_15 (by decide) ?_
    refine lv_iload_n hx hb dX12_along_17 rfl (lv_at hl 1 rfl) ?_
    refine lv_imul hx hb dX12_along_18 ?_
    refine lv_iload_n hx hb dX12_along_19 rfl (lv_at hl 0 rfl) ?_
    refine lv_iadd hx hb dX12_along_20 ?_
    refine lv_bipush (v := 64) hx hb dX12_along_21 (by decide) ?_
    refine lv_isub hx hb dX12_along_23 ?_
    exact nm_iret hx hb hr hlocks hQ hH hf rfl dX12_along_24
  · have hf := nm_ie c1 hf
    refine lv_bipush (v := 64) hx hb dX12_along_6 (by decide) ?_
    refine lv_iload_n hx hb dX12_along_8 rfl (lv_at hl 0 rfl) ?_
    refine lv_imul hx hb dX12_along_9 ?_
    refine lv_iload_n hx hb dX12_along_10 rfl (lv_at hl 1 rfl) ?_
    refine lv_iadd hx hb dX12_along_11 ?_
    refine lv_goto (tgt := 24) hx hb dX12_along_12 (by decide) ?_
    exact nm_iret hx hb hr hlocks hQ hH hf rfl dX12_along_24
def f_X12_lines_J194 (x1 : Int32) (x2 : Int32) (x3 : Int32) (x4 : Int32) (x5 : Int32) (x7 : Int32) (t0 : Int32) (I11 : nm_I) (k : Int32 → Int32 → Int32 → nm_I → Option (nm_I)) : Option (nm_I) :=
k x5 t0 (x7 + 1) I11
def f_X12_lines_J189 (x1 : Int32) (x2 : Int32) (x3 : Int32) (x4 : Int32) (x5 : Int32) (x7 : Int32) (I12 : nm_I) (k : Int32 → Int32 → Int32 → nm_I → Option (nm_I)) : Option (nm_I) :=
f_X12_lines_J194 x1 x2 x3 x4 x5 x7 (1 : Int32) I12 k
def f_X12_lines_J193 (x1 : Int32) (x2 : Int32) (x3 : Int32) (x4 : Int32) (x5 : Int32) (x7 : Int32) (I14 : nm_I) (k : Int32 → Int32 → Int32 → nm_I → Option (nm_I)) : Option (nm_I) :=
f_X12_lines_J194 x1 x2 x3 x4 x5 x7 (0 : Int32) I14 k
def f_X12_lines_J160 (x1 : Int32) (x2 : Int32) (x3 : Int32) (x4 : Int32) (x5 : Int32) (x6 : Int32) (x7 : Int32) (I10 : nm_I) (k : Int32 → Int32 → Int32 → nm_I → Option (nm_I)) : Option (nm_I) :=
(if x6 = 0 then
(if (64 : Int32) ≤ x7 then
f_X12_lines_J193 x1 x2 x3 x4 x5 x7 I10 k
else
nm_c (x3 + (f_X12_along x4 x7)) 65536 (
(if (I10 20 (x3 + (f_X12_along x4 x7)).toNatClampNeg) = 0 then
f_X12_lines_J193 x1 x2 x3 x4 x5 x7 I10 k
else
f_X12_lines_J189 x1 x2 x3 x4 x5 x7 I10 k)))
else
f_X12_lines_J189 x1 x2 x3 x4 x5 x7 I10 k)
def f_X12_lines_J157 (x1 : Int32) (x2 : Int32) (x3 : Int32) (x4 : Int32) (x6 : Int32) (x7 : Int32) (I21 : nm_I) (k : Int32 → Int32 → Int32 → nm_I → Option (nm_I)) : Option (nm_I) :=
f_X12_lines_J160 x1 x2 x3 x4 (-1 : Int32) x6 x7 I21 k
def f_X12_lines_J107 (x1 : Int32) (x2 : Int32) (x3 : Int32) (x4 : Int32) (x5 : Int32) (x6 : Int32) (x7 : Int32) (x8 : Int32) (I9 : nm_I) (k : Int32 → Int32 → Int32 → nm_I → Option (nm_I)) : Option (nm_I) :=
(if x8 = 0 then
(if x5 < 0 then
f_X12_lines_J160 x1 x2 x3 x4 x5 x6 x7 I9 k
else
nm_c x1 16 (
(if (I9 39 x1.toNatClampNeg) ≤ (x7 - x5) then
f_X12_lines_J157 x1 x2 x3 x4 x6 x7 I9 k
else
nm_s1 (f_X12_fault x1 (f_X12_along x4 x5) (f_X12_along x4 (x7 - (1 : Int32))) (x7 - x5) I9) fun I23 =>
f_X12_lines_J157 x1 x2 x3 x4 x6 x7 I23 k)))
else
f_X12_lines_J160 x1 x2 x3 x4 x5 x6 x7 I9 k)
def f_X12_lines_J103 (x1 : Int32) (x2 : Int32) (x3 : Int32) (x4 : Int32) (x6 : Int32) (x7 : Int32) (x8 : Int32) (I27 : nm_I) (k : Int32 → Int32 → Int32 → nm_I → Option (nm_I)) : Option (nm_I) :=
f_X12_lines_J107 x1 x2 x3 x4 x7 x6 x7 x8 I27 k
def f_X12_lines_J84 (x1 : Int32) (x2 : Int32) (x3 : Int32) (x4 : Int32) (x5 : Int32) (x6 : Int32) (x7 : Int32) (x8 : Int32) (I8 : nm_I) (k : Int32 → Int32 → Int32 → nm_I → Option (nm_I)) : Option (nm_I) :=
(if x8 = 0 then
f_X12_lines_J107 x1 x2 x3 x4 x5 x6 x7 x8 I8 k
else
(if 0 ≤ x5 then
f_X12_lines_J107 x1 x2 x3 x4 x5 x6 x7 x8 I8 k
else
(if x2 = 0 then
f_X12_lines_J103 x1 x2 x3 x4 x6 x7 x8 I8 k
else
(if x6 = 0 then
f_X12_lines_J107 x1 x2 x3 x4 x5 x6 x7 x8 I8 k
else
f_X12_lines_J103 x1 x2 x3 x4 x6 x7 x8 I8 k))))
def f_X12_lines_J68 (x1 : Int32) (x2 : Int32) (x3 : Int32) (x4 : Int32) (x5 : Int32) (x6 : Int32) (x7 : Int32) (t0 : Int32) (I7 : nm_I) (k : Int32 → Int32 → Int32 → nm_I → Option (nm_I)) : Option (nm_I) :=
(if x2 = 0 then
f_X12_lines_J84 x1 x2 x3 x4 x5 x6 x7 t0 I7 k
else
(if x7 = (64 : Int32) then
f_X12_lines_J84 x1 x2 x3 x4 (-1 : Int32) x6 x7 t0 I7 k
else
f_X12_lines_J84 x1 x2 x3 x4 x5 x6 x7 t0 I7 k))
def f_X12_lines_J67 (x1 : Int32) (x2 : Int32) (x3 : Int32) (x4 : Int32) (x5 : Int32) (x6 : Int32) (x7 : Int32) (I32 : nm_I) (k : Int32 → Int32 → Int32 → nm_I → Option (nm_I)) : Option (nm_I) :=
f_X12_lines_J68 x1 x2 x3 x4 x5 x6 x7 (0 : Int32) I32 k
def f_X12_lines_L31 (x1 : Int32) (x2 : Int32) (x3 : Int32) (x4 : Int32) : Nat → Int32 → Int32 → Int32 → nm_I → Option (nm_I)
  | 0, _, _, _, _ => none
  | n31 + 1, x5, x6, x7, I5 =>
(if (64 : Int32) < x7 then
some I5
else
(if (64 : Int32) ≤ x7 then
f_X12_lines_J67 x1 x2 x3 x4 x5 x6 x7 I5 (f_X12_lines_L31 x1 x2 x3 x4 n31)
else
nm_c (x3 + (f_X12_along x4 x7)) 65536 (
(if (I5 20 (x3 + (f_X12_along x4 x7)).toNatClampNeg) = x2 then
f_X12_lines_J67 x1 x2 x3 x4 x5 x6 x7 I5 (f_X12_lines_L31 x1 x2 x3 x4 n31)
else
f_X12_lines_J68 x1 x2 x3 x4 x5 x6 x7 (1 : Int32) I5 (f_X12_lines_L31 x1 x2 x3 x4 n31)))))
def f_X12_lines_L14 (x1 : Int32) (x2 : Int32) (x3 : Int32) : Nat → Int32 → nm_I → Option (nm_I)
  | 0, _, _ => none
  | n14 + 1, x4, I3 =>
(if (128 : Int32) ≤ x4 then
some I3
else
nm_s1 (f_X12_lines_L31 x1 x2 x3 x4 nm_F (-1 : Int32) (0 : Int32) (0 : Int32) I3) fun I36 =>
f_X12_lines_L14 x1 x2 x3 n14 (x4 + 1) I36)
def f_X12_lines (x1 : Int32) (x2 : Int32) (I : nm_I) : Option (nm_I) :=
nm_c x1 16 (
nm_l ((4096 : Int32) * (I 37 x1.toNatClampNeg)) fun v2 =>
nm_s1 (f_X12_lines_L14 x1 x2 v2 nm_F (0 : Int32) I) fun I38 =>
some I38)
set_option maxHeartbeats 4000000 in
set_option maxRecDepth 100000 in
theorem k_X12_lines {l : Launch} {D : va_G} {Y : nm_Y} {s0 : Nat} {X : va_W} {ad : Nat → Nat}  {x1 : Int32} {x2 : Int32} {I : nm_I} {M0 : nm_I} (hf : f_X12_lines x1 x2 I = some M0) :
    nm_Met l yX12_lines cX12_lines 9 none { frames := 1, cells := 0, slots := 0, locals := 24 } [.ref (ad 0), .int x1, .int x2] D Y s0 (nm_W Y X moN ad (I, nJ0, moZ)) (nm_Qv D s0 (nm_W Y X moN ad (M0, nJ0, moZ))) 0 0 := by
  refine nm_of (by decide) (Nat.le_of_ble_eq_true rfl) ?_
  intro p e R s m args below meth c Q ls hx hb hr hlocks hml hown hts hs0 hK hZ hRf hRl hRc hRs hQ hP hD hl
  have hH : nm_H D Y (fun q => s0 ≤ q) s.heap X moN ad (I, nJ0, moZ) s.heap [] := ⟨hP, hD, va_S.rf⟩
  have hl : lv_has ls 9 [(0, .ref (ad 0)), (1, .int x1), (2, .int x2)] := hl
  unfold f_X12_lines at hf
  refine lv_sipush (v := 4096) hx hb dX12_lines_0 (by decide) ?_
  refine lv_aload_n hx hb dX12_lines_3 rfl (lv_at hl 0 rfl) ?_
  refine gf_12_36 hK hx hb hts hown hH mo_n0 mo_k0 (hts _ tw_992) (fun _ h9 => h9) dX12_lines_4 ?_
  refine lv_iload_n hx hb dX12_lines_7 rfl (lv_at hl 1 rfl) ?_
  obtain ⟨hi1, hf⟩ := nm_chk hf
  refine nm_iald hx hb hK hH mo_n37 mo_k37 mo_l37 hi1 dX12_lines_8 ?_
  refine lv_imul hx hb dX12_lines_9 ?_
  obtain ⟨v2, ev2, hf⟩ := nm_let hf
  refine nm_topi ev2 ?_
  refine lv_istore_n (lv' := [(3, .int v2), (0, .ref (ad 0)), (1, .int x1), (2, .int x2)]) hx hb dX12_lines_10 rfl hl (by decide) rfl (fun ls hl => ?_)
  refine lv_iconst (v := 0) hx hb dX12_lines_11 (by decide) ?_
  refine lv_istore (lv' := [(4, .int (0 : Int32)), (3, .int v2), (0, .ref (ad 0)), (1, .int x1), (2, .int x2)]) hx hb dX12_lines_12 hl (by decide) rfl (fun ls hl => ?_)
  have hL14 : ∀ (n14 : Nat) (x1 : Int32) (x2 : Int32) (x3 : Int32) (x4 : Int32) (I3 : nm_I) (H : Heap) (locs : List Loc) (ls : Array Slot) (o14 : nm_I), nm_H D Y (fun q => s0 ≤ q) s.heap X moN ad (I3, nJ0, moZ) H locs → lv_has ls 9 [(0, .ref (ad 0)), (1, .int x1), (2, .int x2), (3, .int x3), (4, .int x4)] → f_X12_lines_L14 x1 x2 x3 n14 x4 I3 = some o14 → (∀ (H : Heap) (locs : List Loc) (ls : Array Slot), nm_H D Y (fun q => s0 ≤ q) s.heap X moN ad (o14, nJ0, moZ) H locs → lv_has ls 9 [] → W p l e R s m args below meth c H locs 0 0 Q (F0 m 208 ls [])) → W p l e R s m args below meth c H locs 0 0 Q (F0 m 14 ls []) := by
    intro n14
    induction n14 with
    | zero =>
      intro x1 x2 x3 x4 I3 H locs ls o14 hH hl hf hX14
      cases hf
    | succ n14 ih14 =>
      intro x1 x2 x3 x4 I3 H locs ls o14 hH hl hf hX14
      rw [f_X12_lines_L14] at hf
      refine lv_iload hx hb dX12_lines_14 (lv_at hl 4 rfl) ?_
      refine lv_sipush (v := 128) hx hb dX12_lines_16 (by decide) ?_
      refine lv_icmp_ge (tgt := 208) hx hb dX12_lines_19 (by decide) (fun c4 => ?_) (fun c4 => ?_)
      · have hf := nm_it c4 hf
        cases hf
        exact hX14 _ _ _ hH (lv_sub hl [] rfl)
      · have hf := nm_ie c4 hf
        refine lv_iconst (v := -1) hx hb dX12_lines_22 (by decide) ?_
        refine lv_istore (lv' := [(5, .int (-1 : Int32)), (0, .ref (ad 0)), (1, .int x1), (2, .int x2), (3, .int x3), (4, .int x4)]) hx hb dX12_lines_23 hl (by decide) rfl (fun ls hl => ?_)
        refine lv_iconst (v := 0) hx hb dX12_lines_25 (by decide) ?_
        refine lv_istore (lv' := [(6, .int (0 : Int32)), (5, .int (-1 : Int32)), (0, .ref (ad 0)), (1, .int x1), (2, .int x2), (3, .int x3), (4, .int x4)]) hx hb dX12_lines_26 hl (by decide) rfl (fun ls hl => ?_)
        refine lv_iconst (v := 0) hx hb dX12_lines_28 (by decide) ?_
        refine lv_istore (lv' := [(7, .int (0 : Int32)), (6, .int (0 : Int32)), (5, .int (-1 : Int32)), (0, .ref (ad 0)), (1, .int x1), (2, .int x2), (3, .int x3), (4, .int x4)]) hx hb dX12_lines_29 hl (by decide) rfl (fun ls hl => ?_)
        have hL31 : ∀ (n31 : Nat) (x1 : Int32) (x2 : Int32) (x3 : Int32) (x4 : Int32) (x5 : Int32) (x6 : Int32) (x7 : Int32) (I5 : nm_I) (H : Heap) (locs : List Loc) (ls : Array Slot) (o31 : nm_I), nm_H D Y (fun q => s0 ≤ q) s.heap X moN ad (I5, nJ0, moZ) H locs → lv_has ls 9 [(0, .ref (ad 0)), (1, .int x1), (2, .int x2), (3, .int x3), (4, .int x4), (5, .int x5), (6, .int x6), (7, .int x7)] → f_X12_lines_L31 x1 x2 x3 x4 n31 x5 x6 x7 I5 = some o31 → (∀ (H : Heap) (locs : List Loc) (ls : Array Slot), nm_H D Y (fun q => s0 ≤ q) s.heap X moN ad (o31, nJ0, moZ) H locs → lv_has ls 9 [(0, .ref (ad 0)), (1, .int x1), (2, .int x2), (3, .int x3), (4, .int x4)] → W p l e R s m args below meth c H locs 0 0 Q (F0 m 202 ls [])) → W p l e R s m args below meth c H locs 0 0 Q (F0 m 31 ls []) := by
          intro n31
          induction n31 with
          | zero =>
            intro x1 x2 x3 x4 x5 x6 x7 I5 H locs ls o31 hH hl hf hX31
            cases hf
          | succ n31 ih31 =>
            intro x1 x2 x3 x4 x5 x6 x7 I5 H locs ls o31 hH hl hf hX31
            rw [f_X12_lines_L31] at hf
            refine lv_iload hx hb dX12_lines_31 (lv_at hl 7 rfl) ?_
            refine lv_bipush (v := 64) hx hb dX12_lines_33 (by decide) ?_
            refine lv_icmp_gt (tgt := 202) hx hb dX12_lines_35 (by decide) (fun c6 => ?_) (fun c6 => ?_)
            · have hf := nm_it c6 hf
              cases hf
              exact hX31 _ _ _ hH (lv_sub hl [0, 1, 2, 3, 4] rfl)
            · have hf := nm_ie c6 hf
              refine lv_iload hx hb dX12_lines_38 (lv_at hl 7 rfl) ?_
              refine lv_bipush (v := 64) hx hb dX12_lines_40 (by decide) ?_
              have hJ68 : ∀ (x1 : Int32) (x2 : Int32) (x3 : Int32) (x4 : Int32) (x5 : Int32) (x6 : Int32) (x7 : Int32) (t0 : Int32) (I7 : nm_I) (H : Heap) (locs : List Loc) (ls : Array Slot), nm_H D Y (fun q => s0 ≤ q) s.heap X moN ad (I7, nJ0, moZ) H locs → lv_has ls 9 [(0, .ref (ad 0)), (1, .int x1), (2, .int x2), (3, .int x3), (4, .int x4), (5, .int x5), (6, .int x6), (7, .int x7)] → f_X12_lines_J68 x1 x2 x3 x4 x5 x6 x7 t0 I7 (f_X12_lines_L31 x1 x2 x3 x4 n31) = some o31 → W p l e R s m args below meth c H locs 0 0 Q (F0 m 68 ls [.int t0]) := by
                intro x1 x2 x3 x4 x5 x6 x7 t0 I7 H locs ls hH hl hf
                unfold f_X12_lines_J68 at hf
                refine lv_istore (lv' := [(8, .int t0), (0, .ref (ad 0)), (1, .int x1), (2, .int x2), (3, .int x3), (4, .int x4), (5, .int x5), (6, .int x6), (7, .int x7)]) hx hb dX12_lines_68 hl (by decide) rfl (fun ls hl => ?_)
                refine lv_iload_n hx hb dX12_lines_70 rfl (lv_at hl 3 rfl) ?_
                have hJ84 : ∀ (x1 : Int32) (x2 : Int32) (x3 : Int32) (x4 : Int32) (x5 : Int32) (x6 : Int32) (x7 : Int32) (x8 : Int32) (I8 : nm_I) (H : Heap) (locs : List Loc) (ls : Array Slot), nm_H D Y (fun q => s0 ≤ q) s.heap X moN ad (I8, nJ0, moZ) H locs → lv_has ls 9 [(0, .ref (ad 0)), (1, .int x1), (2, .int x2), (3, .int x3), (4, .int x4), (5, .int x5), (6, .int x6), (7, .int x7), (8, .int x8)] → f_X12_lines_J84 x1 x2 x3 x4 x5 x6 x7 x8 I8 (f_X12_lines_L31 x1 x2 x3 x4 n31) = some o31 → W p l e R s m args below meth c H locs 0 0 Q (F0 m 84 ls []) := by
                  intro x1 x2 x3 x4 x5 x6 x7 x8 I8 H locs ls hH hl hf
                  unfold f_X12_lines_J84 at hf
                  refine lv_iload hx hb dX12_lines_84 (lv_at hl 8 rfl) ?_
                  have hJ107 : ∀ (x1 : Int32) (x2 : Int32) (x3 : Int32) (x4 : Int32) (x5 : Int32) (x6 : Int32) (x7 : Int32) (x8 : Int32) (I9 : nm_I) (H : Heap) (locs : List Loc) (ls : Array Slot), nm_H D Y (fun q => s0 ≤ q) s.heap X moN ad (I9, nJ0, moZ) H locs → lv_has ls 9 [(0, .ref (ad 0)), (1, .int x1), (2, .int x2), (3, .int x3), (4, .int x4), (5, .int x5), (6, .int x6), (7, .int x7), (8, .int x8)] → f_X12_lines_J107 x1 x2 x3 x4 x5 x6 x7 x8 I9 (f_X12_lines_L31 x1 x2 x3 x4 n31) = some o31 → W p l e R s m args below meth c H locs 0 0 Q (F0 m 107 ls []) := by
                    intro x1 x2 x3 x4 x5 x6 x7 x8 I9 H locs ls hH hl hf
                    unfold f_X12_lines_J107 at hf
                    refine lv_iload hx hb dX12_lines_107 (lv_at hl 8 rfl) ?_
                    have hJ160 : ∀ (x1 : Int32) (x2 : Int32) (x3 : Int32) (x4 : Int32) (x5 : Int32) (x6 : Int32) (x7 : Int32) (I10 : nm_I) (H : Heap) (locs : List Loc) (ls : Array Slot), nm_H D Y (fun q => s0 ≤ q) s.heap X moN ad (I10, nJ0, moZ) H locs → lv_has ls 9 [(0, .ref (ad 0)), (1, .int x1), (2, .int x2), (3, .int x3), (4, .int x4), (5, .int x5), (6, .int x6), (7, .int x7)] → f_X12_lines_J160 x1 x2 x3 x4 x5 x6 x7 I10 (f_X12_lines_L31 x1 x2 x3 x4 n31) = some o31 → W p l e R s m args below meth c H locs 0 0 Q (F0 m 160 ls []) := by
                      intro x1 x2 x3 x4 x5 x6 x7 I10 H locs ls hH hl hf
                      unfold f_X12_lines_J160 at hf
                      refine lv_iload hx hb dX12_lines_160 (lv_at hl 6 rfl) ?_
                      have hJ194 : ∀ (x1 : Int32) (x2 : Int32) (x3 : Int32) (x4 : Int32) (x5 : Int32) (x7 : Int32) (t0 : Int32) (I11 : nm_I) (H : Heap) (locs : List Loc) (ls : Array Slot), nm_H D Y (fun q => s0 ≤ q) s.heap X moN ad (I11, nJ0, moZ) H locs → lv_has ls 9 [(0, .ref (ad 0)), (1, .int x1), (2, .int x2), (3, .int x3), (4, .int x4), (5, .int x5), (7, .int x7)] → f_X12_lines_J194 x1 x2 x3 x4 x5 x7 t0 I11 (f_X12_lines_L31 x1 x2 x3 x4 n31) = some o31 → W p l e R s m args below meth c H locs 0 0 Q (F0 m 194 ls [.int t0]) := by
                        intro x1 x2 x3 x4 x5 x7 t0 I11 H locs ls hH hl hf
                        unfold f_X12_lines_J194 at hf
                        refine lv_istore (lv' := [(6, .int t0), (0, .ref (ad 0)), (1, .int x1), (2, .int x2), (3, .int x3), (4, .int x4), (5, .int x5), (7, .int x7)]) hx hb dX12_lines_194 hl (by decide) rfl (fun ls hl => ?_)
                        refine lv_iinc (v := x7 + 1) (lv' := [(7, .int (x7 + 1)), (6, .int t0), (0, .ref (ad 0)), (1, .int x1), (2, .int x2), (3, .int x3), (4, .int x4), (5, .int x5)]) hx hb dX12_lines_196 hl (k := 7) rfl rfl (by decide) rfl (fun ls hl => ?_)
                        refine lv_goto (tgt := 31) hx hb dX12_lines_199 (by decide) ?_
                        exact ih31 x1 x2 x3 x4 x5 t0 (x7 + 1) I11 _ _ _ _ hH (lv_sub hl [2, 3, 4, 5, 6, 7, 1, 0] rfl) hf hX31
                      have hJ189 : ∀ (x1 : Int32) (x2 : Int32) (x3 : Int32) (x4 : Int32) (x5 : Int32) (x7 : Int32) (I12 : nm_I) (H : Heap) (locs : List Loc) (ls : Array Slot), nm_H D Y (fun q => s0 ≤ q) s.heap X moN ad (I12, nJ0, moZ) H locs → lv_has ls 9 [(0, .ref (ad 0)), (1, .int x1), (2, .int x2), (3, .int x3), (4, .int x4), (5, .int x5), (7, .int x7)] → f_X12_lines_J189 x1 x2 x3 x4 x5 x7 I12 (f_X12_lines_L31 x1 x2 x3 x4 n31) = some o31 → W p l e R s m args below meth c H locs 0 0 Q (F0 m 189 ls []) := by
                        intro x1 x2 x3 x4 x5 x7 I12 H locs ls hH hl hf
                        unfold f_X12_lines_J189 at hf
                        refine lv_iconst (v := 1) hx hb dX12_lines_189 (by decide) ?_
                        refine lv_goto (tgt := 194) hx hb dX12_lines_190 (by decide) ?_
                        exact hJ194 x1 x2 x3 x4 x5 x7 (1 : Int32) I12 _ _ _ hH (lv_sub hl [0, 1, 2, 3, 4, 5, 6] rfl) hf
                      refine lv_if_ne (tgt := 189) hx hb dX12_lines_162 (by decide) (fun c13 => ?_) (fun c13 => ?_)
                      · have hf := nm_ie c13 hf
                        exact hJ189 x1 x2 x3 x4 x5 x7 I10 _ _ _ hH (lv_sub hl [0, 1, 2, 3, 4, 5, 7] rfl) hf
                      · have hf := nm_it c13 hf
                        refine lv_iload hx hb dX12_lines_165 (lv_at hl 7 rfl) ?_
                        refine lv_bipush (v := 64) hx hb dX12_lines_167 (by decide) ?_
                        have hJ193 : ∀ (x1 : Int32) (x2 : Int32) (x3 : Int32) (x4 : Int32) (x5 : Int32) (x7 : Int32) (I14 : nm_I) (H : Heap) (locs : List Loc) (ls : Array Slot), nm_H D Y (fun q => s0 ≤ q) s.heap X moN ad (I14, nJ0, moZ) H locs → lv_has ls 9 [(0, .ref (ad 0)), (1, .int x1), (2, .int x2), (3, .int x3), (4, .int x4), (5, .int x5), (7, .int x7)] → f_X12_lines_J193 x1 x2 x3 x4 x5 x7 I14 (f_X12_lines_L31 x1 x2 x3 x4 n31) = some o31 → W p l e R s m args below meth c H locs 0 0 Q (F0 m 193 ls []) := by
                          intro x1 x2 x3 x4 x5 x7 I14 H locs ls hH hl hf
                          unfold f_X12_lines_J193 at hf
                          refine lv_iconst (v := 0) hx hb dX12_lines_193 (by decide) ?_
                          exact hJ194 x1 x2 x3 x4 x5 x7 (0 : Int32) I14 _ _ _ hH (lv_sub hl [0, 1, 2, 3, 4, 5, 6] rfl) hf
                        refine lv_icmp_ge (tgt := 193) hx hb dX12_lines_169 (by decide) (fun c15 => ?_) (fun c15 => ?_)
                        · have hf := nm_it c15 hf
                          exact hJ193 x1 x2 x3 x4 x5 x7 I10 _ _ _ hH (lv_sub hl [0, 1, 2, 3, 4, 5, 7] rfl) hf
                        · have hf := nm_ie c15 hf
                          refine lv_aload_n hx hb dX12_lines_172 rfl (lv_at hl 0 rfl) ?_
                          refine gf_12_19 hK hx hb hts hown hH mo_n0 mo_k0 (hts _ tw_975) (fun _ h9 => h9) dX12_lines_173 ?_
                          refine lv_iload_n hx hb dX12_lines_176 rfl (lv_at hl 3 rfl) ?_
                          refine lv_iload hx hb dX12_lines_177 (lv_at hl 4 rfl) ?_
                          refine lv_iload hx hb dX12_lines_179 (lv_at hl 7 rfl) ?_
                          refine nm_calli (nm_runS (X := X) (nl := moN) (k_X12_along (hf := (rfl : f_X12_along x4 x7 = _))) hx hb hml hown hts hs0 hK hZ hH tw_1362 tw_1360 tw_1361 tw_9 hd_X12_along rfl rfl ⟨Nat.le_trans (Nat.le_of_ble_eq_true rfl) hRf, Nat.le_trans (Nat.le_of_ble_eq_true rfl) hRl⟩ rfl hl.1 rfl (Nat.le_of_ble_eq_true rfl) dX12_lines_181 ⟨Nat.zero_le _, Nat.zero_le _⟩) hH (fun H locs hH => ?_)
                          have hH : nm_H D Y (fun q => s0 ≤ q) s.heap X moN ad (I10, nJ0, moZ) H locs := hH
                          refine lv_iadd hx hb dX12_lines_184 ?_
                          obtain ⟨hi16, hf⟩ := nm_chk hf
                          refine nm_zald hx hb hK hH mo_n20 mo_k20 mo_l20 hi16 dX12_lines_185 ?_
                          refine lv_if_eq (tgt := 193) hx hb dX12_lines_186 (by decide) (fun c17 => ?_) (fun c17 => ?_)
                          · have hf := nm_it c17 hf
                            exact hJ193 x1 x2 x3 x4 x5 x7 I10 _ _ _ hH (lv_sub hl [0, 1, 2, 3, 4, 5, 7] rfl) hf
                          · have hf := nm_ie c17 hf
                            exact hJ189 x1 x2 x3 x4 x5 x7 I10 _ _ _ hH (lv_sub hl [0, 1, 2, 3, 4, 5, 7] rfl) hf
                    refine lv_if_ne (tgt := 160) hx hb dX12_lines_109 (by decide) (fun c18 => ?_) (fun c18 => ?_)
                    · have hf := nm_ie c18 hf
                      exact hJ160 x1 x2 x3 x4 x5 x6 x7 I9 _ _ _ hH (lv_sub hl [0, 1, 2, 3, 4, 5, 6, 7] rfl) hf
                    · have hf := nm_it c18 hf
                      refine lv_iload hx hb dX12_lines_112 (lv_at hl 5 rfl) ?_
                      refine lv_if_lt (tgt := 160) hx hb dX12_lines_114 (by decide) (fun c19 => ?_) (fun c19 => ?_)
                      · have hf := nm_it c19 hf
                        exact hJ160 x1 x2 x3 x4 x5 x6 x7 I9 _ _ _ hH (lv_sub hl [0, 1, 2, 3, 4, 5, 6, 7] rfl) hf
                      · have hf := nm_ie c19 hf
                        refine lv_iload hx hb dX12_lines_117 (lv_at hl 7 rfl) ?_
                        refine lv_iload hx hb dX12_lines_119 (lv_at hl 5 rfl) ?_
                        refine lv_isub hx hb dX12_lines_121 ?_
                        refine lv_aload_n hx hb dX12_lines_122 rfl (lv_at hl 0 rfl) ?_
                        refine gf_12_38 hK hx hb hts hown hH mo_n0 mo_k0 (hts _ tw_994) (fun _ h9 => h9) dX12_lines_123 ?_
                        refine lv_iload_n hx hb dX12_lines_126 rfl (lv_at hl 1 rfl) ?_
                        obtain ⟨hi20, hf⟩ := nm_chk hf
                        refine nm_iald hx hb hK hH mo_n39 mo_k39 mo_l39 hi20 dX12_lines_127 ?_
                        have hJ157 : ∀ (x1 : Int32) (x2 : Int32) (x3 : Int32) (x4 : Int32) (x6 : Int32) (x7 : Int32) (I21 : nm_I) (H : Heap) (locs : List Loc) (ls : Array Slot), nm_H D Y (fun q => s0 ≤ q) s.heap X moN ad (I21, nJ0, moZ) H locs → lv_has ls 9 [(0, .ref (ad 0)), (1, .int x1), (2, .int x2), (3, .int x3), (4, .int x4), (6, .int x6), (7, .int x7)] → f_X12_lines_J157 x1 x2 x3 x4 x6 x7 I21 (f_X12_lines_L31 x1 x2 x3 x4 n31) = some o31 → W p l e R s m args below meth c H locs 0 0 Q (F0 m 157 ls []) := by
                          intro x1 x2 x3 x4 x6 x7 I21 H locs ls hH hl hf
                          unfold f_X12_lines_J157 at hf
                          refine lv_iconst (v := -1) hx hb dX12_lines_157 (by decide) ?_
                          refine lv_istore (lv' := [(5, .int (-1 : Int32)), (0, .ref (ad 0)), (1, .int x1), (2, .int x2), (3, .int x3), (4, .int x4), (6, .int x6), (7, .int x7)]) hx hb dX12_lines_158 hl (by decide) rfl (fun ls hl => ?_)
                          exact hJ160 x1 x2 x3 x4 (-1 : Int32) x6 x7 I21 _ _ _ hH (lv_sub hl [1, 2, 3, 4, 5, 0, 6, 7] rfl) hf
                        refine lv_icmp_ge (tgt := 157) hx hb dX12_lines_128 (by decide) (fun c22 => ?_) (fun c22 => ?_)
                        · have hf := nm_it c22 hf
                          exact hJ157 x1 x2 x3 x4 x6 x7 I9 _ _ _ hH (lv_sub hl [0, 1, 2, 3, 4, 6, 7] rfl) hf
                        · have hf := nm_ie c22 hf
                          refine lv_aload_n hx hb dX12_lines_131 rfl (lv_at hl 0 rfl) ?_
                          refine lv_iload_n hx hb dX12_lines_132 rfl (lv_at hl 1 rfl) ?_
                          refine lv_iload hx hb dX12_lines_133 (lv_at hl 4 rfl) ?_
                          refine lv_iload hx hb dX12_lines_135 (lv_at hl 5 rfl) ?_
                          refine nm_calli (nm_runS (X := X) (nl := moN) (k_X12_along (hf := (rfl : f_X12_along x4 x5 = _))) hx hb hml hown hts hs0 hK hZ hH tw_1362 tw_1360 tw_1361 tw_9 hd_X12_along rfl rfl ⟨Nat.le_trans (Nat.le_of_ble_eq_true rfl) hRf, Nat.le_trans (Nat.le_of_ble_eq_true rfl) hRl⟩ rfl hl.1 rfl (Nat.le_of_ble_eq_true rfl) dX12_lines_137 ⟨Nat.zero_le _, Nat.zero_le _⟩) hH (fun H locs hH => ?_)
                          have hH : nm_H D Y (fun q => s0 ≤ q) s.heap X moN ad (I9, nJ0, moZ) H locs := hH
                          refine lv_iload hx hb dX12_lines_140 (lv_at hl 4 rfl) ?_
                          refine lv_iload hx hb dX12_lines_142 (lv_at hl 7 rfl) ?_
                          refine lv_iconst (v := 1) hx hb dX12_lines_144 (by decide) ?_
                          refine lv_isub hx hb dX12_lines_145 ?_
                          refine nm_calli (nm_runS (X := X) (nl := moN) (k_X12_along (hf := (rfl : f_X12_along x4 (x7 - (1 : Int32)) = _))) hx hb hml hown hts hs0 hK hZ hH tw_1362 tw_1360 tw_1361 tw_9 hd_X12_along rfl rfl ⟨Nat.le_trans (Nat.le_of_ble_eq_true rfl) hRf, Nat.le_trans (Nat.le_of_ble_eq_true rfl) hRl⟩ rfl hl.1 rfl (Nat.le_of_ble_eq_true rfl) dX12_lines_146 ⟨Nat.zero_le _, Nat.zero_le _⟩) hH (fun H locs hH => ?_)
                          have hH : nm_H D Y (fun q => s0 ≤ q) s.heap X moN ad (I9, nJ0, moZ) H locs := hH
                          refine lv_iload hx hb dX12_lines_149 (lv_at hl 7 rfl) ?_
                          refine lv_iload hx hb dX12_lines_151 (lv_at hl 5 rfl) ?_
                          refine lv_isub hx hb dX12_lines_153 ?_
                          obtain ⟨I23, hc24, hf⟩ := nm_sd1 hf
                          refine nm_callv (nm_runV (X := X) (nl := moN) (k_X12_fault (hf := hc24)) hx hb hml hown hts hs0 hK hZ hH tw_1366 tw_1363 tw_1365 (sw_X12_fault) tw_9 hd_X12_fault mo_n0 mo_k0 (by decide) rfl rfl rfl ⟨Nat.le_trans (Nat.le_of_ble_eq_true rfl) hRf, Nat.le_trans (Nat.le_of_ble_eq_true rfl) hRl⟩ rfl hl.1 rfl (Nat.le_of_ble_eq_true rfl) dX12_lines_154 ⟨Nat.zero_le _, Nat.zero_le _⟩) hH (fun H locs hH => ?_)
                          have hH : nm_H D Y (fun q => s0 ≤ q) s.heap X moN ad (I23, nJ0, moZ) H locs := hH
                          exact hJ157 x1 x2 x3 x4 x6 x7 I23 _ _ _ hH (lv_sub hl [0, 1, 2, 3, 4, 6, 7] rfl) hf
                  refine lv_if_eq (tgt := 107) hx hb dX12_lines_86 (by decide) (fun c25 => ?_) (fun c25 => ?_)
                  · have hf := nm_it c25 hf
                    exact hJ107 x1 x2 x3 x4 x5 x6 x7 x8 I8 _ _ _ hH (lv_sub hl [0, 1, 2, 3, 4, 5, 6, 7, 8] rfl) hf
                  · have hf := nm_ie c25 hf
                    refine lv_iload hx hb dX12_lines_89 (lv_at hl 5 rfl) ?_
                    refine lv_if_ge (tgt := 107) hx hb dX12_lines_91 (by decide) (fun c26 => ?_) (fun c26 => ?_)
                    · have hf := nm_it c26 hf
                      exact hJ107 x1 x2 x3 x4 x5 x6 x7 x8 I8 _ _ _ hH (lv_sub hl [0, 1, 2, 3, 4, 5, 6, 7, 8] rfl) hf
                    · have hf := nm_ie c26 hf
                      refine lv_iload_n hx hb dX12_lines_94 rfl (lv_at hl 2 rfl) ?_
                      have hJ103 : ∀ (x1 : Int32) (x2 : Int32) (x3 : Int32) (x4 : Int32) (x6 : Int32) (x7 : Int32) (x8 : Int32) (I27 : nm_I) (H : Heap) (locs : List Loc) (ls : Array Slot), nm_H D Y (fun q => s0 ≤ q) s.heap X moN ad (I27, nJ0, moZ) H locs → lv_has ls 9 [(0, .ref (ad 0)), (1, .int x1), (2, .int x2), (3, .int x3), (4, .int x4), (6, .int x6), (7, .int x7), (8, .int x8)] → f_X12_lines_J103 x1 x2 x3 x4 x6 x7 x8 I27 (f_X12_lines_L31 x1 x2 x3 x4 n31) = some o31 → W p l e R s m args below meth c H locs 0 0 Q (F0 m 103 ls []) := by
                        intro x1 x2 x3 x4 x6 x7 x8 I27 H locs ls hH hl hf
                        unfold f_X12_lines_J103 at hf
                        refine lv_iload hx hb dX12_lines_103 (lv_at hl 6 rfl) ?_
                        refine lv_istore (lv' := [(5, .int x7), (0, .ref (ad 0)), (1, .int x1), (2, .int x2), (3, .int x3), (4, .int x4), (6, .int x6), (7, .int x7), (8, .int x8)]) hx hb dX12_lines_105 hl (by decide) rfl (fun ls hl => ?_)
                        exact hJ107 x1 x2 x3 x4 x7 x6 x7 x8 I27 _ _ _ hH (lv_sub hl [1, 2, 3, 4, 5, 0, 6, 7, 8] rfl) hf
                      refine lv_if_eq (tgt := 103) hx hb dX12_lines_95 (by decide) (fun c28 => ?_) (fun c28 => ?_)
                      · have hf := nm_it c28 hf
                        exact hJ103 x1 x2 x3 x4 x6 x7 x8 I8 _ _ _ hH (lv_sub hl [0, 1, 2, 3, 4, 6, 7, 8] rfl) hf
                      · have hf := nm_ie c28 hf
                        refine lv_iload hx hb dX12_lines_98 (lv_at hl 6 rfl) ?_
                        refine lv_if_eq (tgt := 107) hx hb dX12_lines_100 (by decide) (fun c29 => ?_) (fun c29 => ?_)
                        · have hf := nm_it c29 hf
                          exact hJ107 x1 x2 x3 x4 x5 x6 x7 x8 I8 _ _ _ hH (lv_sub hl [0, 1, 2, 3, 4, 5, 6, 7, 8] rfl) hf
                        · have hf := nm_ie c29 hf
                          exact hJ103 x1 x2 x3 x4 x6 x7 x8 I8 _ _ _ hH (lv_sub hl [0, 1, 2, 3, 4, 6, 7, 8] rfl) hf
                refine lv_if_eq (tgt := 84) hx hb dX12_lines_71 (by decide) (fun c30 => ?_) (fun c30 => ?_)
                · have hf := nm_it c30 hf
                  exact hJ84 x1 x2 x3 x4 x5 x6 x7 t0 I7 _ _ _ hH (lv_sub hl [1, 2, 3, 4, 5, 6, 7, 8, 0] rfl) hf
                · have hf := nm_ie c30 hf
                  refine lv_iload hx hb dX12_lines_74 (lv_at hl 8 rfl) ?_
                  refine lv_bipush (v := 64) hx hb dX12_lines_76 (by decide) ?_
                  refine lv_icmp_ne (tgt := 84) hx hb dX12_lines_78 (by decide) (fun c31 => ?_) (fun c31 => ?_)
                  · have hf := nm_ie c31 hf
                    exact hJ84 x1 x2 x3 x4 x5 x6 x7 t0 I7 _ _ _ hH (lv_sub hl [1, 2, 3, 4, 5, 6, 7, 8, 0] rfl) hf
                  · have hf := nm_it c31 hf
                    refine lv_iconst (v := -1) hx hb dX12_lines_81 (by decide) ?_
                    refine lv_istore (lv' := [(5, .int (-1 : Int32)), (8, .int t0), (0, .ref (ad 0)), (1, .int x1), (2, .int x2), (3, .int x3), (4, .int x4), (6, .int x6), (7, .int x7)]) hx hb dX12_lines_82 hl (by decide) rfl (fun ls hl => ?_)
                    exact hJ84 x1 x2 x3 x4 (-1 : Int32) x6 x7 t0 I7 _ _ _ hH (lv_sub hl [2, 3, 4, 5, 6, 0, 7, 8, 1] rfl) hf
              have hJ67 : ∀ (x1 : Int32) (x2 : Int32) (x3 : Int32) (x4 : Int32) (x5 : Int32) (x6 : Int32) (x7 : Int32) (I32 : nm_I) (H : Heap) (locs : List Loc) (ls : Array Slot), nm_H D Y (fun q => s0 ≤ q) s.heap X moN ad (I32, nJ0, moZ) H locs → lv_has ls 9 [(0, .ref (ad 0)), (1, .int x1), (2, .int x2), (3, .int x3), (4, .int x4), (5, .int x5), (6, .int x6), (7, .int x7)] → f_X12_lines_J67 x1 x2 x3 x4 x5 x6 x7 I32 (f_X12_lines_L31 x1 x2 x3 x4 n31) = some o31 → W p l e R s m args below meth c H locs 0 0 Q (F0 m 67 ls []) := by
                intro x1 x2 x3 x4 x5 x6 x7 I32 H locs ls hH hl hf
                unfold f_X12_lines_J67 at hf
                refine lv_iconst (v := 0) hx hb dX12_lines_67 (by decide) ?_
                exact hJ68 x1 x2 x3 x4 x5 x6 x7 (0 : Int32) I32 _ _ _ hH (lv_sub hl [0, 1, 2, 3, 4, 5, 6, 7] rfl) hf
              refine lv_icmp_ge (tgt := 67) hx hb dX12_lines_42 (by decide) (fun c33 => ?_) (fun c33 => ?_)
              · have hf := nm_it c33 hf
                exact hJ67 x1 x2 x3 x4 x5 x6 x7 I5 _ _ _ hH (lv_sub hl [0, 1, 2, 3, 4, 5, 6, 7] rfl) hf
              · have hf := nm_ie c33 hf
                refine lv_aload_n hx hb dX12_lines_45 rfl (lv_at hl 0 rfl) ?_
                refine gf_12_19 hK hx hb hts hown hH mo_n0 mo_k0 (hts _ tw_975) (fun _ h9 => h9) dX12_lines_46 ?_
                refine lv_iload_n hx hb dX12_lines_49 rfl (lv_at hl 3 rfl) ?_
                refine lv_iload hx hb dX12_lines_50 (lv_at hl 4 rfl) ?_
                refine lv_iload hx hb dX12_lines_52 (lv_at hl 7 rfl) ?_
                refine nm_calli (nm_runS (X := X) (nl := moN) (k_X12_along (hf := (rfl : f_X12_along x4 x7 = _))) hx hb hml hown hts hs0 hK hZ hH tw_1362 tw_1360 tw_1361 tw_9 hd_X12_along rfl rfl ⟨Nat.le_trans (Nat.le_of_ble_eq_true rfl) hRf, Nat.le_trans (Nat.le_of_ble_eq_true rfl) hRl⟩ rfl hl.1 rfl (Nat.le_of_ble_eq_true rfl) dX12_lines_54 ⟨Nat.zero_le _, Nat.zero_le _⟩) hH (fun H locs hH => ?_)
                have hH : nm_H D Y (fun q => s0 ≤ q) s.heap X moN ad (I5, nJ0, moZ) H locs := hH
                refine lv_iadd hx hb dX12_lines_57 ?_
                obtain ⟨hi34, hf⟩ := nm_chk hf
                refine nm_zald hx hb hK hH mo_n20 mo_k20 mo_l20 hi34 dX12_lines_58 ?_
                refine lv_iload_n hx hb dX12_lines_59 rfl (lv_at hl 2 rfl) ?_
                refine lv_icmp_eq (tgt := 67) hx hb dX12_lines_60 (by decide) (fun c35 => ?_) (fun c35 => ?_)
                · have hf := nm_it c35 hf
                  exact hJ67 x1 x2 x3 x4 x5 x6 x7 I5 _ _ _ hH (lv_sub hl [0, 1, 2, 3, 4, 5, 6, 7] rfl) hf
                · have hf := nm_ie c35 hf
                  refine lv_iconst (v := 1) hx hb dX12_lines_63 (by decide) ?_
                  refine lv_goto (tgt := 68) hx hb dX12_lines_64 (by decide) ?_
                  exact hJ68 x1 x2 x3 x4 x5 x6 x7 (1 : Int32) I5 _ _ _ hH (lv_sub hl [0, 1, 2, 3, 4, 5, 6, 7] rfl) hf
        obtain ⟨I36, hl37, hf⟩ := nm_sd1 hf
        refine hL31 nm_F x1 x2 x3 x4 (-1 : Int32) (0 : Int32) (0 : Int32) I3 _ _ _ _ hH (lv_sub hl [3, 4, 5, 6, 7, 2, 1, 0] rfl) hl37 (fun H locs ls hH hl => ?_)
        have hl : lv_has ls 9 [(0, .ref (ad 0)), (1, .int x1), (2, .int x2), (3, .int x3), (4, .int x4)] := hl
        have hH : nm_H D Y (fun q => s0 ≤ q) s.heap X moN ad (I36, nJ0, moZ) H locs := hH
        refine lv_iinc (v := x4 + 1) (lv' := [(4, .int (x4 + 1)), (0, .ref (ad 0)), (1, .int x1), (2, .int x2), (3, .int x3)]) hx hb dX12_lines_202 hl (k := 4) rfl rfl (by decide) rfl (fun ls hl => ?_)
        refine lv_goto (tgt := 14) hx hb dX12_lines_205 (by decide) ?_
        exact ih14 x1 x2 x3 (x4 + 1) I36 _ _ _ _ hH (lv_sub hl [1, 2, 3, 4, 0] rfl) hf hX14
  obtain ⟨I38, hl39, hf⟩ := nm_sd1 hf
  refine hL14 nm_F x1 x2 v2 (0 : Int32) I _ _ _ _ hH (lv_sub hl [2, 3, 4, 1, 0] rfl) hl39 (fun H locs ls hH hl => ?_)
  have hl : lv_has ls 9 [] := hl
  have hH : nm_H D Y (fun q => s0 ≤ q) s.heap X moN ad (I38, nJ0, moZ) H locs := hH
  exact nm_vret hx hb hr hlocks hQ hH (congrArg (fun q => (q, nJ0, moZ)) (Option.some.inj hf)) dX12_lines_208
