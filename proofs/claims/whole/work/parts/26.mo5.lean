def f_X12_nextChoice_J60 (x3 : Int32) (I5 : nm_I) (k : Int32 → nm_I → Option (Int32 × nm_I)) (kx2 : nm_I → Option (Int32 × nm_I)) : Option (Int32 × nm_I) :=
k (x3 + 1) I5
def f_X12_nextChoice_L2 (x1 : Int32) (kx2 : nm_I → Option (Int32 × nm_I)) : Nat → Int32 → nm_I → Option (Int32 × nm_I)
  | 0, _, _ => none
  | n2 + 1, x3, I1 =>
    (if ((2 : Int32) * (I1 0 70)) ≤ x3 then
    kx2 I1
    else
    nm_s1 (f_X12_isTaken (x3 / (2 : Int32)) x1 I1) fun r3 =>
    (if r3 = 0 then
    (if (I1 0 71) = (5000 : Int32) then
    some ((-9 : Int32), I1)
    else
    nm_l (nm_up I1 0 71 ((I1 0 71) + (1 : Int32))) fun I8 =>
    nm_s2 (f_X12_goes x1 x3 I8) fun r11 I9 =>
    (if r11 = 0 then
    f_X12_nextChoice_J60 x3 I9 (f_X12_nextChoice_L2 x1 kx2 n2) kx2
    else
    some (x3, I9)))
    else
    f_X12_nextChoice_J60 x3 I1 (f_X12_nextChoice_L2 x1 kx2 n2) kx2))
def f_X12_nextChoice (x1 : Int32) (x2 : Int32) (I : nm_I) : Option (Int32 × nm_I) :=
nm_l (fun (I13 : nm_I) =>
some ((-1 : Int32), I13)) fun kx2 =>
f_X12_nextChoice_L2 x1 kx2 nm_F x2 I
set_option maxHeartbeats 4000000 in
set_option maxRecDepth 100000 in
theorem k_X12_nextChoice {l : Launch} {D : va_G} {Y : nm_Y} {s0 : Nat} {X : va_W} {ad : Nat → Nat}  {x1 : Int32} {x2 : Int32} {I : nm_I} {r0 : Int32} {M0 : nm_I} (hf : f_X12_nextChoice x1 x2 I = some (r0, M0)) :
    nm_Met l yX12_nextChoice cX12_nextChoice 4 (some .int) { frames := 3, cells := 0, slots := 0, locals := 70 } [.ref (ad 0), .int x1, .int x2] D Y s0 (nm_W Y X moN ad (I, nJ0, moZ)) (nm_Qi D s0 r0 (nm_W Y X moN ad (M0, nJ0, moZ))) 0 0 := by
  refine nm_of (by decide) (Nat.le_of_ble_eq_true rfl) ?_
  intro p e R s m args below meth c Q ls hx hb hr hlocks hml hown hts hs0 hK hZ hRf hRl hRc hRs hQ hP hD hl
  have hH : nm_H D Y (fun q => s0 ≤ q) s.heap X moN ad (I, nJ0, moZ) s.heap [] := ⟨hP, hD, va_S.rf⟩
  have hl : lv_has ls 4 [(0, .ref (ad 0)), (1, .int x1), (2, .int x2)] := hl
  unfold f_X12_nextChoice at hf
  refine lv_iload_n hx hb dX12_nextChoice_0 rfl (lv_at hl 2 rfl) ?_
  refine lv_istore_n (lv' := [(3, .int x2), (0, .ref (ad 0)), (1, .int x1), (2, .int x2)]) hx hb dX12_nextChoice_1 rfl hl (by decide) rfl (fun ls hl => ?_)
  obtain ⟨kx2, hkx2, hf⟩ := nm_let hf
  have hX2 : ∀ (I13 : nm_I) (H : Heap) (locs : List Loc) (ls : Array Slot), nm_H D Y (fun q => s0 ≤ q) s.heap X moN ad (I13, nJ0, moZ) H locs → lv_has ls 4 [] → kx2 I13 = some (r0, M0) → W p l e R s m args below meth c H locs 0 0 Q (F0 m 66 ls []) := by
    intro I13 H locs ls hH hl hf
    rw [hkx2] at hf
    refine lv_iconst (v := -1) hx hb dX12_nextChoice_66 (by decide) ?_
    exact nm_iret hx hb hr hlocks hQ hH (congrArg Prod.fst (Option.some.inj hf)) (congrArg (fun q => (q.2, nJ0, moZ)) (Option.some.inj hf)) dX12_nextChoice_67
  have hL2 : ∀ (n2 : Nat) (x3 : Int32) (I1 : nm_I) (H : Heap) (locs : List Loc) (ls : Array Slot), nm_H D Y (fun q => s0 ≤ q) s.heap X moN ad (I1, nJ0, moZ) H locs → lv_has ls 4 [(0, .ref (ad 0)), (1, .int x1), (3, .int x3)] → f_X12_nextChoice_L2 x1 kx2 n2 x3 I1 = some (r0, M0) → W p l e R s m args below meth c H locs 0 0 Q (F0 m 2 ls []) := by
    intro n2
    induction n2 with
    | zero =>
      intro x3 I1 H locs ls hH hl hf
      cases hf
    | succ n2 ih2 =>
      intro x3 I1 H locs ls hH hl hf
      rw [f_X12_nextChoice_L2] at hf
      refine lv_iload_n hx hb dX12_nextChoice_2 rfl (lv_at hl 2 rfl) ?_
      refine lv_iconst (v := 2) hx hb dX12_nextChoice_3 (by decide) ?_
      refine lv_aload_n hx hb dX12_nextChoice_4 rfl (lv_at hl 0 rfl) ?_
      refine gf_12_70 hK hx hb hts hown hH mo_n0 mo_k0 (hts _ tw_1025) (fun _ h9 => h9) dX12_nextChoice_5 ?_
      refine lv_imul hx hb dX12_nextChoice_8 ?_
      refine lv_icmp_ge (tgt := 66) hx hb dX12_nextChoice_9 (by decide) (fun c2 => ?_) (fun c2 => ?_)
      · have hf := nm_it c2 hf
        exact hX2 I1 _ _ _ hH (lv_sub hl [] rfl) hf
      · have hf := nm_ie c2 hf
        refine lv_aload_n hx hb dX12_nextChoice_12 rfl (lv_at hl 0 rfl) ?_
        refine lv_iload_n hx hb dX12_nextChoice_13 rfl (lv_at hl 2 rfl) ?_
        refine lv_iconst (v := 2) hx hb dX12_nextChoice_14 (by decide) ?_
        refine lv_idiv hx hb dX12_nextChoice_15 (by decide) ?_
        refine lv_iload_n hx hb dX12_nextChoice_16 rfl (lv_at hl 1 rfl) ?_
        obtain ⟨r3, hc4, hf⟩ := nm_sd1 hf
        refine nm_calli (nm_runV (X := X) (nl := moN) (k_X12_isTaken (hf := hc4)) hx hb hml hown hts hs0 hK hZ hH tw_1463 tw_1460 tw_1462 (sw_X12_isTaken) tw_9 hd_X12_isTaken mo_n0 mo_k0 (by decide) rfl rfl rfl ⟨Nat.le_trans (Nat.le_of_ble_eq_true rfl) hRf, Nat.le_trans (Nat.le_of_ble_eq_true rfl) hRl⟩ rfl hl.1 rfl (Nat.le_of_ble_eq_true rfl) dX12_nextChoice_17 ⟨Nat.zero_le _, Nat.zero_le _⟩) hH (fun H locs hH => ?_)
        have hH : nm_H D Y (fun q => s0 ≤ q) s.heap X moN ad (I1, nJ0, moZ) H locs := hH
        have hJ60 : ∀ (I5 : nm_I) (H : Heap) (locs : List Loc) (ls : Array Slot), nm_H D Y (fun q => s0 ≤ q) s.heap X moN ad (I5, nJ0, moZ) H locs → lv_has ls 4 [(0, .ref (ad 0)), (1, .int x1), (3, .int x3)] → f_X12_nextChoice_J60 x3 I5 (f_X12_nextChoice_L2 x1 kx2 n2) kx2 = some (r0, M0) → W p l e R s m args below meth c H locs 0 0 Q (F0 m 60 ls []) := by
          intro I5 H locs ls hH hl hf
          unfold f_X12_nextChoice_J60 at hf
          refine lv_iinc (v := x3 + 1) (lv' := [(3, .int (x3 + 1)), (0, .ref (ad 0)), (1, .int x1)]) hx hb dX12_nextChoice_60 hl (k := 2) rfl rfl (by decide) rfl (fun ls hl => ?_)
          refine lv_goto (tgt := 2) hx hb dX12_nextChoice_63 (by decide) ?_
          exact ih2 (x3 + 1) I5 _ _ _ hH (lv_sub hl [1, 2, 0] rfl) hf
        refine lv_if_eq (tgt := 26) hx hb dX12_nextChoice_20 (by decide) (fun c6 => ?_) (fun c6 => ?_)
        · have hf := nm_it c6 hf
          refine lv_aload_n hx hb dX12_nextChoice_26 rfl (lv_at hl 0 rfl) ?_
          refine gf_12_71 hK hx hb hts hown hH mo_n0 mo_k0 (hts _ tw_1026) (fun _ h9 => h9) dX12_nextChoice_27 ?_
          refine lv_sipush (v := 5000) hx hb dX12_nextChoice_30 (by decide) ?_
          refine lv_icmp_ne (tgt := 39) hx hb dX12_nextChoice_33 (by decide) (fun c7 => ?_) (fun c7 => ?_)
          · have hf := nm_ie c7 hf
            refine lv_aload_n hx hb dX12_nextChoice_39 rfl (lv_at hl 0 rfl) ?_
            refine lv_dup hx hb dX12_nextChoice_40 rfl ?_
            refine gf_12_71 hK hx hb hts hown hH mo_n0 mo_k0 (hts _ tw_1026) (fun _ h9 => h9) dX12_nextChoice_41 ?_
            refine lv_iconst (v := 1) hx hb dX12_nextChoice_44 (by decide) ?_
            refine lv_iadd hx hb dX12_nextChoice_45 ?_
            obtain ⟨I8, eI8, hf⟩ := nm_let hf
            refine pf_12_71 hK hx hb hts hown hH mo_n0 mo_k0 (hts _ tw_1026) (fun _ h9 => h9) dX12_nextChoice_46 (fun H locs hH => ?_)
            have hH : nm_H D Y (fun q => s0 ≤ q) s.heap X moN ad (I8, nJ0, moZ) H locs := by rw [eI8]; exact hH
            refine lv_aload_n hx hb dX12_nextChoice_49 rfl (lv_at hl 0 rfl) ?_
            refine lv_iload_n hx hb dX12_nextChoice_50 rfl (lv_at hl 1 rfl) ?_
            refine lv_iload_n hx hb dX12_nextChoice_51 rfl (lv_at hl 2 rfl) ?_
            obtain ⟨r11, I9, hc10, hf⟩ := nm_sd2 hf
            refine nm_calli (nm_runV (X := X) (nl := moN) (k_X12_goes (hf := hc10)) hx hb hml hown hts hs0 hK hZ hH tw_1467 tw_1464 tw_1466 (sw_X12_goes) tw_9 hd_X12_goes mo_n0 mo_k0 (by decide) rfl rfl rfl ⟨Nat.le_trans (Nat.le_of_ble_eq_true rfl) hRf, Nat.le_trans (Nat.le_of_ble_eq_true rfl) hRl⟩ rfl hl.1 rfl (Nat.le_of_ble_eq_true rfl) dX12_nextChoice_52 ⟨Nat.zero_le _, Nat.zero_le _⟩) hH (fun H locs hH => ?_)
            have hH : nm_H D Y (fun q => s0 ≤ q) s.heap X moN ad (I9, nJ0, moZ) H locs := hH
            refine lv_if_eq (tgt := 60) hx hb dX12_nextChoice_55 (by decide) (fun c12 => ?_) (fun c12 => ?_)
            · have hf := nm_it c12 hf
              exact hJ60  I9 _ _ _ hH (lv_sub hl [0, 1, 2] rfl) hf
            · have hf := nm_ie c12 hf
              refine lv_iload_n hx hb dX12_nextChoice_58 rfl (lv_at hl 2 rfl) ?_
              exact nm_iret hx hb hr hlocks hQ hH (congrArg Prod.fst (Option.some.inj hf)) (congrArg (fun q => (q.2, nJ0, moZ)) (Option.some.inj hf)) dX12_nextChoice_59
          · have hf := nm_it c7 hf
            refine lv_bipush (v := -9) hx hb dX12_nextChoice_36 (by decide) ?_
            exact nm_iret hx hb hr hlocks hQ hH (congrArg Prod.fst (Option.some.inj hf)) (congrArg (fun q => (q.2, nJ0, moZ)) (Option.some.inj hf)) dX12_nextChoice_38
        · have hf := nm_ie c6 hf
          refine lv_goto (tgt := 60) hx hb dX12_nextChoice_23 (by decide) ?_
          exact hJ60  I1 _ _ _ hH (lv_sub hl [0, 1, 2] rfl) hf
  exact hL2 nm_F x2 I _ _ _ hH (lv_sub hl [1, 2, 0] rfl) hf
def f_X12_isComplete_J54 (x2 : Int32) (t54_0 : Int32) (I : nm_I) (k : Int32 → Int32 → Option (Int32)) : Option (Int32) :=
k t54_0 (x2 + 1)
def f_X12_isComplete_J53 (x2 : Int32) (I : nm_I) (k : Int32 → Int32 → Option (Int32)) : Option (Int32) :=
f_X12_isComplete_J54 x2 (0 : Int32) I k
def f_X12_isComplete_L19 (I : nm_I) : Nat → Int32 → Int32 → Option (Int32)
  | 0, _, _ => none
  | n19 + 1, x1, x2 =>
    (if (I 0 65) ≤ x2 then
    some x1
    else
    (if x1 = 0 then
    f_X12_isComplete_J53 x2 I (f_X12_isComplete_L19 I n19)
    else
    nm_c x2 4096 (
    (if (I 63 x2.toNatClampNeg) < 0 then
    f_X12_isComplete_J53 x2 I (f_X12_isComplete_L19 I n19)
    else
    nm_c x2 4096 (
    (if (I 65 x2.toNatClampNeg) < 0 then
    f_X12_isComplete_J53 x2 I (f_X12_isComplete_L19 I n19)
    else
    f_X12_isComplete_J54 x2 (1 : Int32) I (f_X12_isComplete_L19 I n19)))))))
def f_X12_isComplete_J16 (t16_0 : Int32) (I : nm_I) : Option Int32 :=
nm_s1 (f_X12_isComplete_L19 I nm_F t16_0 (0 : Int32)) fun y7 =>
nm_b y7 (some y7)
def f_X12_isComplete (I : nm_I) : Option Int32 :=
(if (I 0 65) = (I 0 70) then
f_X12_isComplete_J16 (1 : Int32) I
else
f_X12_isComplete_J16 (0 : Int32) I)
set_option maxHeartbeats 4000000 in
set_option maxRecDepth 100000 in
theorem k_X12_isComplete {l : Launch} {D : va_G} {Y : nm_Y} {s0 : Nat} {X : va_W} {ad : Nat → Nat}  {I : nm_I} {r0 : Int32} (hf : f_X12_isComplete I = some r0) :
    nm_Met l yX12_isComplete cX12_isComplete 3 (some .boolean) { frames := 0, cells := 0, slots := 0, locals := 0 } [.ref (ad 0)] D Y s0 (nm_W Y X moN ad (I, nJ0, moZ)) (nm_Qi D s0 r0 (nm_W Y X moN ad (I, nJ0, moZ))) 0 0 := by
  refine nm_of (by decide) (Nat.le_of_ble_eq_true rfl) ?_
  intro p e R s m args below meth c Q ls hx hb hr hlocks hml hown hts hs0 hK hZ hRf hRl hRc hRs hQ hP hD hl
  have hH : nm_H D Y (fun q => s0 ≤ q) s.heap X moN ad (I, nJ0, moZ) s.heap [] := ⟨hP, hD, va_S.rf⟩
  have hl : lv_has ls 3 [(0, .ref (ad 0))] := hl
  unfold f_X12_isComplete at hf
  refine lv_aload_n hx hb dX12_isComplete_0 rfl (lv_at hl 0 rfl) ?_
  refine gf_12_65 hK hx hb hts hown hH mo_n0 mo_k0 (hts _ tw_1020) (fun _ h9 => h9) dX12_isComplete_1 ?_
  refine lv_aload_n hx hb dX12_isComplete_4 rfl (lv_at hl 0 rfl) ?_
  refine gf_12_70 hK hx hb hts hown hH mo_n0 mo_k0 (hts _ tw_1025) (fun _ h9 => h9) dX12_isComplete_5 ?_
  have hJ16 : ∀ (t16_0 : Int32) (H : Heap) (locs : List Loc) (ls : Array Slot), nm_H D Y (fun q => s0 ≤ q) s.heap X moN ad (I, nJ0, moZ) H locs → lv_has ls 3 [(0, .ref (ad 0))] → f_X12_isComplete_J16 t16_0 I = some r0 → W p l e R s m args below meth c H locs 0 0 Q (F0 m 16 ls [.int t16_0]) := by
    intro t16_0 H locs ls hH hl hf
    unfold f_X12_isComplete_J16 at hf
    refine lv_istore_n (lv' := [(1, .int t16_0), (0, .ref (ad 0))]) hx hb dX12_isComplete_16 rfl hl (by decide) rfl (fun ls hl => ?_)
    refine lv_iconst (v := 0) hx hb dX12_isComplete_17 (by decide) ?_
    refine lv_istore_n (lv' := [(2, .int (0 : Int32)), (1, .int t16_0), (0, .ref (ad 0))]) hx hb dX12_isComplete_18 rfl hl (by decide) rfl (fun ls hl => ?_)
    have hL19 : ∀ (n19 : Nat) (x1 : Int32) (x2 : Int32) (H : Heap) (locs : List Loc) (ls : Array Slot) (o19 : Int32), nm_H D Y (fun q => s0 ≤ q) s.heap X moN ad (I, nJ0, moZ) H locs → lv_has ls 3 [(0, .ref (ad 0)), (1, .int x1), (2, .int x2)] → f_X12_isComplete_L19 I n19 x1 x2 = some o19 → (∀ (H : Heap) (locs : List Loc) (ls : Array Slot), nm_H D Y (fun q => s0 ≤ q) s.heap X moN ad (I, nJ0, moZ) H locs → lv_has ls 3 [(1, .int o19)] → W p l e R s m args below meth c H locs 0 0 Q (F0 m 61 ls [])) → W p l e R s m args below meth c H locs 0 0 Q (F0 m 19 ls []) := by
      intro n19
      induction n19 with
      | zero =>
        intro x1 x2 H locs ls o19 hH hl hf hX19
        cases hf
      | succ n19 ih19 =>
        intro x1 x2 H locs ls o19 hH hl hf hX19
        rw [f_X12_isComplete_L19] at hf
        refine lv_iload_n hx hb dX12_isComplete_19 rfl (lv_at hl 2 rfl) ?_
        refine lv_aload_n hx hb dX12_isComplete_20 rfl (lv_at hl 0 rfl) ?_
        refine gf_12_65 hK hx hb hts hown hH mo_n0 mo_k0 (hts _ tw_1020) (fun _ h9 => h9) dX12_isComplete_21 ?_
        refine lv_icmp_ge (tgt := 61) hx hb dX12_isComplete_24 (by decide) (fun c1 => ?_) (fun c1 => ?_)
        · have hf := nm_it c1 hf
          cases hf
          exact hX19 _ _ _ hH (lv_sub hl [1] rfl)
        · have hf := nm_ie c1 hf
          refine lv_iload_n hx hb dX12_isComplete_27 rfl (lv_at hl 1 rfl) ?_
          have hJ54 : ∀ (t54_0 : Int32) (H : Heap) (locs : List Loc) (ls : Array Slot), nm_H D Y (fun q => s0 ≤ q) s.heap X moN ad (I, nJ0, moZ) H locs → lv_has ls 3 [(0, .ref (ad 0)), (2, .int x2)] → f_X12_isComplete_J54 x2 t54_0 I (f_X12_isComplete_L19 I n19) = some o19 → W p l e R s m args below meth c H locs 0 0 Q (F0 m 54 ls [.int t54_0]) := by
            intro t54_0 H locs ls hH hl hf
            unfold f_X12_isComplete_J54 at hf
            refine lv_istore_n (lv' := [(1, .int t54_0), (0, .ref (ad 0)), (2, .int x2)]) hx hb dX12_isComplete_54 rfl hl (by decide) rfl (fun ls hl => ?_)
            refine lv_iinc (v := x2 + 1) (lv' := [(2, .int (x2 + 1)), (1, .int t54_0), (0, .ref (ad 0))]) hx hb dX12_isComplete_55 hl (k := 2) rfl rfl (by decide) rfl (fun ls hl => ?_)
            refine lv_goto (tgt := 19) hx hb dX12_isComplete_58 (by decide) ?_
            exact ih19 t54_0 (x2 + 1) _ _ _ _ hH (lv_sub hl [2, 1, 0] rfl) hf hX19
          have hJ53 : ∀  (H : Heap) (locs : List Loc) (ls : Array Slot), nm_H D Y (fun q => s0 ≤ q) s.heap X moN ad (I, nJ0, moZ) H locs → lv_has ls 3 [(0, .ref (ad 0)), (2, .int x2)] → f_X12_isComplete_J53 x2 I (f_X12_isComplete_L19 I n19) = some o19 → W p l e R s m args below meth c H locs 0 0 Q (F0 m 53 ls []) := by
            intro  H locs ls hH hl hf
            unfold f_X12_isComplete_J53 at hf
            refine lv_iconst (v := 0) hx hb dX12_isComplete_53 (by decide) ?_
            exact hJ54 (0 : Int32) _ _ _ hH (lv_sub hl [0, 1] rfl) hf
          refine lv_if_eq (tgt := 53) hx hb dX12_isComplete_28 (by decide) (fun c2 => ?_) (fun c2 => ?_)
          · have hf := nm_it c2 hf
            exact hJ53  _ _ _ hH (lv_sub hl [0, 2] rfl) hf
          · have hf := nm_ie c2 hf
            refine lv_aload_n hx hb dX12_isComplete_31 rfl (lv_at hl 0 rfl) ?_
            refine gf_12_62 hK hx hb hts hown hH mo_n0 mo_k0 (hts _ tw_1017) (fun _ h9 => h9) dX12_isComplete_32 ?_
            refine lv_iload_n hx hb dX12_isComplete_35 rfl (lv_at hl 2 rfl) ?_
            obtain ⟨hi3, hf⟩ := nm_chk hf
            refine nm_iald hx hb hK hH mo_n63 mo_k63 mo_l63 hi3 dX12_isComplete_36 ?_
            refine lv_if_lt (tgt := 53) hx hb dX12_isComplete_37 (by decide) (fun c4 => ?_) (fun c4 => ?_)
            · have hf := nm_it c4 hf
              exact hJ53  _ _ _ hH (lv_sub hl [0, 2] rfl) hf
            · have hf := nm_ie c4 hf
              refine lv_aload_n hx hb dX12_isComplete_40 rfl (lv_at hl 0 rfl) ?_
              refine gf_12_64 hK hx hb hts hown hH mo_n0 mo_k0 (hts _ tw_1019) (fun _ h9 => h9) dX12_isComplete_41 ?_
              refine lv_iload_n hx hb dX12_isComplete_44 rfl (lv_at hl 2 rfl) ?_
              obtain ⟨hi5, hf⟩ := nm_chk hf
              refine nm_iald hx hb hK hH mo_n65 mo_k65 mo_l65 hi5 dX12_isComplete_45 ?_
              refine lv_if_lt (tgt := 53) hx hb dX12_isComplete_46 (by decide) (fun c6 => ?_) (fun c6 => ?_)
              · have hf := nm_it c6 hf
                exact hJ53  _ _ _ hH (lv_sub hl [0, 2] rfl) hf
              · have hf := nm_ie c6 hf
                refine lv_iconst (v := 1) hx hb dX12_isComplete_49 (by decide) ?_
                refine lv_goto (tgt := 54) hx hb dX12_isComplete_50 (by decide) ?_
                exact hJ54 (1 : Int32) _ _ _ hH (lv_sub hl [0, 2] rfl) hf
    obtain ⟨y7, hl9, hf⟩ := nm_sd1 hf
    refine hL19 nm_F t16_0 (0 : Int32) _ _ _ _ hH (lv_sub hl [2, 1, 0] rfl) hl9 (fun H locs ls hH hl => ?_)
    have hl : lv_has ls 3 [(1, .int y7)] := hl
    have hH : nm_H D Y (fun q => s0 ≤ q) s.heap X moN ad (I, nJ0, moZ) H locs := hH
    refine lv_iload_n hx hb dX12_isComplete_61 rfl (lv_at hl 0 rfl) ?_
    obtain ⟨hz8, hf⟩ := nm_bool hf
    exact nm_zret hx hb hr hlocks hQ hH hz8.1 (Option.some.inj hf) rfl dX12_isComplete_62
  refine lv_icmp_ne (tgt := 15) hx hb dX12_isComplete_8 (by decide) (fun c10 => ?_) (fun c10 => ?_)
  · have hf := nm_ie c10 hf
    refine lv_iconst (v := 0) hx hb dX12_isComplete_15 (by decide) ?_
    exact hJ16 (0 : Int32) _ _ _ hH (lv_sub hl [0] rfl) hf
  · have hf := nm_it c10 hf
    refine lv_iconst (v := 1) hx hb dX12_isComplete_11 (by decide) ?_
    refine lv_goto (tgt := 16) hx hb dX12_isComplete_12 (by decide) ?_
    exact hJ16 (1 : Int32) _ _ _ hH (lv_sub hl [0] rfl) hf
def f_X12_same_J102 (x1 : Int32) (x2 : Int32) (I12 : nm_I) (k : Int32 → Int32 → nm_I → Option (Int32 × nm_I)) (kx32 : nm_I → Option (Int32 × nm_I)) : Option (Int32 × nm_I) :=
k x1 x2 I12
def f_X12_same_L32 (kx32 : nm_I → Option (Int32 × nm_I)) : Nat → Int32 → Int32 → nm_I → Option (Int32 × nm_I)
  | 0, _, _, _ => none
  | n32 + 1, x1, x2, I6 =>
    (if (I6 0 65) ≤ x1 then
    kx32 I6
    else
    nm_s2 (f_X12_nextChoice x1 x2 I6) fun r10 I8 =>
    (if r10 = (-9 : Int32) then
    nm_l (nm_up I8 0 72 (0 : Int32)) fun I19 =>
    nm_s2 (f_X12_no (-9 : Int32) I19) fun r22 I20 =>
    some (r22, I20)
    else
    (if r10 < 0 then
    (if 0 ≤ (x1 + (-1)) then
    nm_c (x1 + (-1)) 12 (
    nm_l ((I8 74 (x1 + (-1)).toNatClampNeg) + (1 : Int32)) fun v16 =>
    f_X12_same_J102 (x1 + (-1)) v16 I8 (f_X12_same_L32 kx32 n32) kx32)
    else
    some ((0 : Int32), I8))
    else
    nm_c x1 12 (
    nm_l (nm_up I8 74 x1.toNatClampNeg r10) fun I18 =>
    f_X12_same_J102 (x1 + 1) (0 : Int32) I18 (f_X12_same_L32 kx32 n32) kx32))))
def f_X12_same_L120  : Nat → Int32 → nm_I → Option (nm_I)
  | 0, _, _ => none
  | n120 + 1, x3, I27 =>
    (if (I27 0 65) ≤ x3 then
    some I27
    else
    nm_c x3 12 (
    nm_c x3 12 (
    nm_l (nm_up I27 77 x3.toNatClampNeg ((I27 74 x3.toNatClampNeg) / (2 : Int32))) fun I31 =>
    f_X12_same_L120 n120 (x3 + 1) I31)))
def f_X12_same (I : nm_I) : Option (Int32 × nm_I) :=
(if (I 0 22) = 0 then
nm_s2 (f_X12_no (-2 : Int32) I) fun r36 I34 =>
some (r36, I34)
else
nm_l (nm_up I 0 71 (0 : Int32)) fun I2 =>
nm_s1 (f_X12_isComplete I2) fun r3 =>
(if r3 = 0 then
some ((0 : Int32), I2)
else
nm_l (fun (I23 : nm_I) =>
nm_s1 (f_X12_pairsUpTo (I23 0 65) I23) fun I24 =>
nm_l (nm_up I24 0 72 (1 : Int32)) fun I26 =>
nm_s1 (f_X12_same_L120 nm_F (0 : Int32) I26) fun I32 =>
some ((1 : Int32), I32)) fun kx32 =>
f_X12_same_L32 kx32 nm_F (0 : Int32) (0 : Int32) I2))
set_option maxHeartbeats 4000000 in
set_option maxRecDepth 100000 in
theorem k_X12_same {l : Launch} {D : va_G} {Y : nm_Y} {s0 : Nat} {X : va_W} {ad : Nat → Nat}  {I : nm_I} {r0 : Int32} {M0 : nm_I} (hf : f_X12_same I = some (r0, M0)) :
    nm_Met l yX12_same cX12_same 4 (some .int) { frames := 4, cells := 0, slots := 0, locals := 93 } [.ref (ad 0)] D Y s0 (nm_W Y X moN ad (I, nJ0, moZ)) (nm_Qi D s0 r0 (nm_W Y X moN ad (M0, nJ0, moZ))) 0 0 := by
  refine nm_of (by decide) (Nat.le_of_ble_eq_true rfl) ?_
  intro p e R s m args below meth c Q ls hx hb hr hlocks hml hown hts hs0 hK hZ hRf hRl hRc hRs hQ hP hD hl
  have hH : nm_H D Y (fun q => s0 ≤ q) s.heap X moN ad (I, nJ0, moZ) s.heap [] := ⟨hP, hD, va_S.rf⟩
  have hl : lv_has ls 4 [(0, .ref (ad 0))] := hl
  unfold f_X12_same at hf
  refine lv_aload_n hx hb dX12_same_0 rfl (lv_at hl 0 rfl) ?_
  refine gf_12_22 hK hx hb hts hown hH mo_n0 mo_k0 (hts _ tw_978) (fun _ h9 => h9) dX12_same_1 ?_
  refine lv_if_ne (tgt := 14) hx hb dX12_same_4 (by decide) (fun c1 => ?_) (fun c1 => ?_)
  · have hf := nm_ie c1 hf
    refine lv_aload_n hx hb dX12_same_14 rfl (lv_at hl 0 rfl) ?_
    refine lv_iconst (v := 0) hx hb dX12_same_15 (by decide) ?_
    obtain ⟨I2, eI2, hf⟩ := nm_let hf
    refine pf_12_71 hK hx hb hts hown hH mo_n0 mo_k0 (hts _ tw_1026) (fun _ h9 => h9) dX12_same_16 (fun H locs hH => ?_)
    have hH : nm_H D Y (fun q => s0 ≤ q) s.heap X moN ad (I2, nJ0, moZ) H locs := by rw [eI2]; exact hH
    refine lv_aload_n hx hb dX12_same_19 rfl (lv_at hl 0 rfl) ?_
    obtain ⟨r3, hc4, hf⟩ := nm_sd1 hf
    refine nm_calli (nm_runV (X := X) (nl := moN) (k_X12_isComplete (hf := hc4)) hx hb hml hown hts hs0 hK hZ hH tw_1455 tw_1452 tw_1454 (sw_X12_isComplete) tw_9 hd_X12_isComplete mo_n0 mo_k0 (by decide) rfl rfl rfl ⟨Nat.le_trans (Nat.le_of_ble_eq_true rfl) hRf, Nat.le_trans (Nat.le_of_ble_eq_true rfl) hRl⟩ rfl hl.1 rfl (Nat.le_of_ble_eq_true rfl) dX12_same_20 ⟨Nat.zero_le _, Nat.zero_le _⟩) hH (fun H locs hH => ?_)
    have hH : nm_H D Y (fun q => s0 ≤ q) s.heap X moN ad (I2, nJ0, moZ) H locs := hH
    refine lv_if_ne (tgt := 28) hx hb dX12_same_23 (by decide) (fun c5 => ?_) (fun c5 => ?_)
    · have hf := nm_ie c5 hf
      refine lv_iconst (v := 0) hx hb dX12_same_28 (by decide) ?_
      refine lv_istore_n (lv' := [(1, .int (0 : Int32)), (0, .ref (ad 0))]) hx hb dX12_same_29 rfl hl (by decide) rfl (fun ls hl => ?_)
      refine lv_iconst (v := 0) hx hb dX12_same_30 (by decide) ?_
      refine lv_istore_n (lv' := [(2, .int (0 : Int32)), (1, .int (0 : Int32)), (0, .ref (ad 0))]) hx hb dX12_same_31 rfl hl (by decide) rfl (fun ls hl => ?_)
      obtain ⟨kx32, hkx32, hf⟩ := nm_let hf
      have hX32 : ∀ (I23 : nm_I) (H : Heap) (locs : List Loc) (ls : Array Slot), nm_H D Y (fun q => s0 ≤ q) s.heap X moN ad (I23, nJ0, moZ) H locs → lv_has ls 4 [(0, .ref (ad 0))] → kx32 I23 = some (r0, M0) → W p l e R s m args below meth c H locs 0 0 Q (F0 m 105 ls []) := by
        intro I23 H locs ls hH hl hf
        rw [hkx32] at hf
        refine lv_aload_n hx hb dX12_same_105 rfl (lv_at hl 0 rfl) ?_
        refine lv_aload_n hx hb dX12_same_106 rfl (lv_at hl 0 rfl) ?_
        refine gf_12_65 hK hx hb hts hown hH mo_n0 mo_k0 (hts _ tw_1020) (fun _ h9 => h9) dX12_same_107 ?_
        obtain ⟨I24, hc25, hf⟩ := nm_sd1 hf
        refine nm_callv (nm_runV (X := X) (nl := moN) (k_X12_pairsUpTo (hf := hc25)) hx hb hml hown hts hs0 hK hZ hH tw_1471 tw_1468 tw_1470 (sw_X12_pairsUpTo) tw_9 hd_X12_pairsUpTo mo_n0 mo_k0 (by decide) rfl rfl rfl ⟨Nat.le_trans (Nat.le_of_ble_eq_true rfl) hRf, Nat.le_trans (Nat.le_of_ble_eq_true rfl) hRl⟩ rfl hl.1 rfl (Nat.le_of_ble_eq_true rfl) dX12_same_110 ⟨Nat.zero_le _, Nat.zero_le _⟩) hH (fun H locs hH => ?_)
        have hH : nm_H D Y (fun q => s0 ≤ q) s.heap X moN ad (I24, nJ0, moZ) H locs := hH
        refine lv_aload_n hx hb dX12_same_113 rfl (lv_at hl 0 rfl) ?_
        refine lv_iconst (v := 1) hx hb dX12_same_114 (by decide) ?_
        obtain ⟨I26, eI26, hf⟩ := nm_let hf
        refine pf_12_72 hK hx hb hts hown hH mo_n0 mo_k0 (hts _ tw_1027) (fun _ h9 => h9) rfl rfl dX12_same_115 (fun H locs hH => ?_)
        have hH : nm_H D Y (fun q => s0 ≤ q) s.heap X moN ad (I26, nJ0, moZ) H locs := by rw [eI26]; exact hH
        refine lv_iconst (v := 0) hx hb dX12_same_118 (by decide) ?_
        refine lv_istore_n (lv' := [(3, .int (0 : Int32)), (0, .ref (ad 0))]) hx hb dX12_same_119 rfl hl (by decide) rfl (fun ls hl => ?_)
        have hL120 : ∀ (n120 : Nat) (x3 : Int32) (I27 : nm_I) (H : Heap) (locs : List Loc) (ls : Array Slot) (o120 : nm_I), nm_H D Y (fun q => s0 ≤ q) s.heap X moN ad (I27, nJ0, moZ) H locs → lv_has ls 4 [(0, .ref (ad 0)), (3, .int x3)] → f_X12_same_L120 n120 x3 I27 = some o120 → (∀ (H : Heap) (locs : List Loc) (ls : Array Slot), nm_H D Y (fun q => s0 ≤ q) s.heap X moN ad (o120, nJ0, moZ) H locs → lv_has ls 4 [] → W p l e R s m args below meth c H locs 0 0 Q (F0 m 148 ls [])) → W p l e R s m args below meth c H locs 0 0 Q (F0 m 120 ls []) := by
          intro n120
          induction n120 with
          | zero =>
            intro x3 I27 H locs ls o120 hH hl hf hX120
            cases hf
          | succ n120 ih120 =>
            intro x3 I27 H locs ls o120 hH hl hf hX120
            rw [f_X12_same_L120] at hf
            refine lv_iload_n hx hb dX12_same_120 rfl (lv_at hl 1 rfl) ?_
            refine lv_aload_n hx hb dX12_same_121 rfl (lv_at hl 0 rfl) ?_
            refine gf_12_65 hK hx hb hts hown hH mo_n0 mo_k0 (hts _ tw_1020) (fun _ h9 => h9) dX12_same_122 ?_
            refine lv_icmp_ge (tgt := 148) hx hb dX12_same_125 (by decide) (fun c28 => ?_) (fun c28 => ?_)
            · have hf := nm_it c28 hf
              cases hf
              exact hX120 _ _ _ hH (lv_sub hl [] rfl)
            · have hf := nm_ie c28 hf
              refine lv_aload_n hx hb dX12_same_128 rfl (lv_at hl 0 rfl) ?_
              refine gf_12_76 hK hx hb hts hown hH mo_n0 mo_k0 (hts _ tw_1031) (fun _ h9 => h9) dX12_same_129 ?_
              refine lv_iload_n hx hb dX12_same_132 rfl (lv_at hl 1 rfl) ?_
              refine lv_aload_n hx hb dX12_same_133 rfl (lv_at hl 0 rfl) ?_
              refine gf_12_73 hK hx hb hts hown hH mo_n0 mo_k0 (hts _ tw_1028) (fun _ h9 => h9) dX12_same_134 ?_
              refine lv_iload_n hx hb dX12_same_137 rfl (lv_at hl 1 rfl) ?_
              obtain ⟨hi29, hf⟩ := nm_chk hf
              refine nm_iald hx hb hK hH mo_n74 mo_k74 mo_l74 hi29 dX12_same_138 ?_
              refine lv_iconst (v := 2) hx hb dX12_same_139 (by decide) ?_
              refine lv_idiv hx hb dX12_same_140 (by decide) ?_
              obtain ⟨hi30, hf⟩ := nm_chk hf
              obtain ⟨I31, eI31, hf⟩ := nm_let hf
              refine nm_iast hx hb hK hH mo_n77 mo_k77 mo_l77 hi30 dX12_same_141 (fun H locs hH => ?_)
              have hH : nm_H D Y (fun q => s0 ≤ q) s.heap X moN ad (I31, nJ0, moZ) H locs := by rw [eI31]; exact hH
              refine lv_iinc (v := x3 + 1) (lv' := [(3, .int (x3 + 1)), (0, .ref (ad 0))]) hx hb dX12_same_142 hl (k := 1) rfl rfl (by decide) rfl (fun ls hl => ?_)
              refine lv_goto (tgt := 120) hx hb dX12_same_145 (by decide) ?_
              exact ih120 (x3 + 1) I31 _ _ _ _ hH (lv_sub hl [1, 0] rfl) hf hX120
        obtain ⟨I32, hl33, hf⟩ := nm_sd1 hf
        refine hL120 nm_F (0 : Int32) I26 _ _ _ _ hH (lv_sub hl [1, 0] rfl) hl33 (fun H locs ls hH hl => ?_)
        have hl : lv_has ls 4 [] := hl
        have hH : nm_H D Y (fun q => s0 ≤ q) s.heap X moN ad (I32, nJ0, moZ) H locs := hH
        refine lv_iconst (v := 1) hx hb dX12_same_148 (by decide) ?_
        exact nm_iret hx hb hr hlocks hQ hH (congrArg Prod.fst (Option.some.inj hf)) (congrArg (fun q => (q.2, nJ0, moZ)) (Option.some.inj hf)) dX12_same_149
      have hL32 : ∀ (n32 : Nat) (x1 : Int32) (x2 : Int32) (I6 : nm_I) (H : Heap) (locs : List Loc) (ls : Array Slot), nm_H D Y (fun q => s0 ≤ q) s.heap X moN ad (I6, nJ0, moZ) H locs → lv_has ls 4 [(0, .ref (ad 0)), (1, .int x1), (2, .int x2)] → f_X12_same_L32 kx32 n32 x1 x2 I6 = some (r0, M0) → W p l e R s m args below meth c H locs 0 0 Q (F0 m 32 ls []) := by
        intro n32
        induction n32 with
        | zero =>
          intro x1 x2 I6 H locs ls hH hl hf
          cases hf
        | succ n32 ih32 =>
          intro x1 x2 I6 H locs ls hH hl hf
          rw [f_X12_same_L32] at hf
          refine lv_iload_n hx hb dX12_same_32 rfl (lv_at hl 1 rfl) ?_
          refine lv_aload_n hx hb dX12_same_33 rfl (lv_at hl 0 rfl) ?_
          refine gf_12_65 hK hx hb hts hown hH mo_n0 mo_k0 (hts _ tw_1020) (fun _ h9 => h9) dX12_same_34 ?_
          refine lv_icmp_ge (tgt := 105) hx hb dX12_same_37 (by decide) (fun c7 => ?_) (fun c7 => ?_)
          · have hf := nm_it c7 hf
            exact hX32 I6 _ _ _ hH (lv_sub hl [0] rfl) hf
          · have hf := nm_ie c7 hf
            refine lv_aload_n hx hb dX12_same_40 rfl (lv_at hl 0 rfl) ?_
            refine lv_iload_n hx hb dX12_same_41 rfl (lv_at hl 1 rfl) ?_
            refine lv_iload_n hx hb dX12_same_42 rfl (lv_at hl 2 rfl) ?_
            obtain ⟨r10, I8, hc9, hf⟩ := nm_sd2 hf
            refine nm_calli (nm_runV (X := X) (nl := moN) (k_X12_nextChoice (hf := hc9)) hx hb hml hown hts hs0 hK hZ hH tw_1459 tw_1456 tw_1458 (sw_X12_nextChoice) tw_9 hd_X12_nextChoice mo_n0 mo_k0 (by decide) rfl rfl rfl ⟨Nat.le_trans (Nat.le_of_ble_eq_true rfl) hRf, Nat.le_trans (Nat.le_of_ble_eq_true rfl) hRl⟩ rfl hl.1 rfl (Nat.le_of_ble_eq_true rfl) dX12_same_43 ⟨Nat.zero_le _, Nat.zero_le _⟩) hH (fun H locs hH => ?_)
            have hH : nm_H D Y (fun q => s0 ≤ q) s.heap X moN ad (I8, nJ0, moZ) H locs := hH
            refine lv_istore_n (lv' := [(3, .int r10), (0, .ref (ad 0)), (1, .int x1), (2, .int x2)]) hx hb dX12_same_46 rfl hl (by decide) rfl (fun ls hl => ?_)
            refine lv_iload_n hx hb dX12_same_47 rfl (lv_at hl 0 rfl) ?_
            refine lv_bipush (v := -9) hx hb dX12_same_48 (by decide) ?_
            refine lv_icmp_ne (tgt := 65) hx hb dX12_same_50 (by decide) (fun c11 => ?_) (fun c11 => ?_)
            · have hf := nm_ie c11 hf
              refine lv_iload_n hx hb dX12_same_65 rfl (lv_at hl 0 rfl) ?_
              have hJ102 : ∀ (x1 : Int32) (x2 : Int32) (I12 : nm_I) (H : Heap) (locs : List Loc) (ls : Array Slot), nm_H D Y (fun q => s0 ≤ q) s.heap X moN ad (I12, nJ0, moZ) H locs → lv_has ls 4 [(0, .ref (ad 0)), (1, .int x1), (2, .int x2)] → f_X12_same_J102 x1 x2 I12 (f_X12_same_L32 kx32 n32) kx32 = some (r0, M0) → W p l e R s m args below meth c H locs 0 0 Q (F0 m 102 ls []) := by
                intro x1 x2 I12 H locs ls hH hl hf
                unfold f_X12_same_J102 at hf
                refine lv_goto (tgt := 32) hx hb dX12_same_102 (by decide) ?_
                exact ih32 x1 x2 I12 _ _ _ hH (lv_sub hl [0, 1, 2] rfl) hf
              refine lv_if_lt (tgt := 84) hx hb dX12_same_66 (by decide) (fun c13 => ?_) (fun c13 => ?_)
              · have hf := nm_it c13 hf
                refine lv_iinc (v := x1 + (-1)) (lv' := [(1, .int (x1 + (-1))), (3, .int r10), (0, .ref (ad 0)), (2, .int x2)]) hx hb dX12_same_84 hl (k := 2) rfl rfl (by decide) rfl (fun ls hl => ?_)
                refine lv_iload_n hx hb dX12_same_87 rfl (lv_at hl 0 rfl) ?_
                refine lv_if_ge (tgt := 93) hx hb dX12_same_88 (by decide) (fun c14 => ?_) (fun c14 => ?_)
                · have hf := nm_it c14 hf
                  refine lv_aload_n hx hb dX12_same_93 rfl (lv_at hl 2 rfl) ?_
                  refine gf_12_73 hK hx hb hts hown hH mo_n0 mo_k0 (hts _ tw_1028) (fun _ h9 => h9) dX12_same_94 ?_
                  refine lv_iload_n hx hb dX12_same_97 rfl (lv_at hl 0 rfl) ?_
                  obtain ⟨hi15, hf⟩ := nm_chk hf
                  refine nm_iald hx hb hK hH mo_n74 mo_k74 mo_l74 hi15 dX12_same_98 ?_
                  refine lv_iconst (v := 1) hx hb dX12_same_99 (by decide) ?_
                  refine lv_iadd hx hb dX12_same_100 ?_
                  obtain ⟨v16, ev16, hf⟩ := nm_let hf
                  refine nm_topi ev16 ?_
                  refine lv_istore_n (lv' := [(2, .int v16), (1, .int (x1 + (-1))), (3, .int r10), (0, .ref (ad 0))]) hx hb dX12_same_101 rfl hl (by decide) rfl (fun ls hl => ?_)
                  exact hJ102 (x1 + (-1)) v16 I8 _ _ _ hH (lv_sub hl [3, 1, 0] rfl) hf
                · have hf := nm_ie c14 hf
                  refine lv_iconst (v := 0) hx hb dX12_same_91 (by decide) ?_
                  exact nm_iret hx hb hr hlocks hQ hH (congrArg Prod.fst (Option.some.inj hf)) (congrArg (fun q => (q.2, nJ0, moZ)) (Option.some.inj hf)) dX12_same_92
              · have hf := nm_ie c13 hf
                refine lv_aload_n hx hb dX12_same_69 rfl (lv_at hl 1 rfl) ?_
                refine gf_12_73 hK hx hb hts hown hH mo_n0 mo_k0 (hts _ tw_1028) (fun _ h9 => h9) dX12_same_70 ?_
                refine lv_iload_n hx hb dX12_same_73 rfl (lv_at hl 2 rfl) ?_
                refine lv_iload_n hx hb dX12_same_74 rfl (lv_at hl 0 rfl) ?_
                obtain ⟨hi17, hf⟩ := nm_chk hf
                obtain ⟨I18, eI18, hf⟩ := nm_let hf
                refine nm_iast hx hb hK hH mo_n74 mo_k74 mo_l74 hi17 dX12_same_75 (fun H locs hH => ?_)
                have hH : nm_H D Y (fun q => s0 ≤ q) s.heap X moN ad (I18, nJ0, moZ) H locs := by rw [eI18]; exact hH
                refine lv_iinc (v := x1 + 1) (lv' := [(1, .int (x1 + 1)), (3, .int r10), (0, .ref (ad 0)), (2, .int x2)]) hx hb dX12_same_76 hl (k := 2) rfl rfl (by decide) rfl (fun ls hl => ?_)
                refine lv_iconst (v := 0) hx hb dX12_same_79 (by decide) ?_
                refine lv_istore_n (lv' := [(2, .int (0 : Int32)), (1, .int (x1 + 1)), (3, .int r10), (0, .ref (ad 0))]) hx hb dX12_same_80 rfl hl (by decide) rfl (fun ls hl => ?_)
                refine lv_goto (tgt := 102) hx hb dX12_same_81 (by decide) ?_
                exact hJ102 (x1 + 1) (0 : Int32) I18 _ _ _ hH (lv_sub hl [3, 1, 0] rfl) hf
            · have hf := nm_it c11 hf
              refine lv_aload_n hx hb dX12_same_53 rfl (lv_at hl 1 rfl) ?_
              refine lv_iconst (v := 0) hx hb dX12_same_54 (by decide) ?_
              obtain ⟨I19, eI19, hf⟩ := nm_let hf
              refine pf_12_72 hK hx hb hts hown hH mo_n0 mo_k0 (hts _ tw_1027) (fun _ h9 => h9) rfl rfl dX12_same_55 (fun H locs hH => ?_)
              have hH : nm_H D Y (fun q => s0 ≤ q) s.heap X moN ad (I19, nJ0, moZ) H locs := by rw [eI19]; exact hH
              refine lv_aload_n hx hb dX12_same_58 rfl (lv_at hl 1 rfl) ?_
              refine lv_bipush (v := -9) hx hb dX12_same_59 (by decide) ?_
              obtain ⟨r22, I20, hc21, hf⟩ := nm_sd2 hf
              refine nm_calli (nm_runV (X := X) (nl := moN) (k_X12_no (hf := hc21)) hx hb hml hown hts hs0 hK hZ hH tw_1214 tw_1211 tw_1213 (sw_X12_no) tw_9 hd_X12_no mo_n0 mo_k0 (by decide) rfl rfl rfl ⟨Nat.le_trans (Nat.le_of_ble_eq_true rfl) hRf, Nat.le_trans (Nat.le_of_ble_eq_true rfl) hRl⟩ rfl hl.1 rfl (Nat.le_of_ble_eq_true rfl) dX12_same_61 ⟨Nat.zero_le _, Nat.zero_le _⟩) hH (fun H locs hH => ?_)
              have hH : nm_H D Y (fun q => s0 ≤ q) s.heap X moN ad (I20, nJ0, moZ) H locs := hH
              exact nm_iret hx hb hr hlocks hQ hH (congrArg Prod.fst (Option.some.inj hf)) (congrArg (fun q => (q.2, nJ0, moZ)) (Option.some.inj hf)) dX12_same_64
      exact hL32 nm_F (0 : Int32) (0 : Int32) I2 _ _ _ hH (lv_sub hl [2, 1, 0] rfl) hf
    · have hf := nm_it c5 hf
      refine lv_iconst (v := 0) hx hb dX12_same_26 (by decide) ?_
      exact nm_iret hx hb hr hlocks hQ hH (congrArg Prod.fst (Option.some.inj hf)) (congrArg (fun q => (q.2, nJ0, moZ)) (Option.some.inj hf)) dX12_same_27
  · have hf := nm_it c1 hf
    refine lv_aload_n hx hb dX12_same_7 rfl (lv_at hl 0 rfl) ?_
    refine lv_bipush (v := -2) hx hb dX12_same_8 (by decide) ?_
    obtain ⟨r36, I34, hc35, hf⟩ := nm_sd2 hf
    refine nm_calli (nm_runV (X := X) (nl := moN) (k_X12_no (hf := hc35)) hx hb hml hown hts hs0 hK hZ hH tw_1214 tw_1211 tw_1213 (sw_X12_no) tw_9 hd_X12_no mo_n0 mo_k0 (by decide) rfl rfl rfl ⟨Nat.le_trans (Nat.le_of_ble_eq_true rfl) hRf, Nat.le_trans (Nat.le_of_ble_eq_true rfl) hRl⟩ rfl hl.1 rfl (Nat.le_of_ble_eq_true rfl) dX12_same_10 ⟨Nat.zero_le _, Nat.zero_le _⟩) hH (fun H locs hH => ?_)
    have hH : nm_H D Y (fun q => s0 ≤ q) s.heap X moN ad (I34, nJ0, moZ) H locs := hH
    exact nm_iret hx hb hr hlocks hQ hH (congrArg Prod.fst (Option.some.inj hf)) (congrArg (fun q => (q.2, nJ0, moZ)) (Option.some.inj hf)) dX12_same_13
def f_X12_tries (I : nm_I) : Int32 :=
I 0 71
set_option maxHeartbeats 4000000 in
set_option maxRecDepth 100000 in
theorem k_X12_tries {l : Launch} {D : va_G} {Y : nm_Y} {s0 : Nat} {X : va_W} {ad : Nat → Nat}  {I : nm_I} {r0 : Int32} (hf : f_X12_tries I = r0) :
    nm_Met l yX12_tries cX12_tries 1 (some .int) { frames := 0, cells := 0, slots := 0, locals := 0 } [.ref (ad 0)] D Y s0 (nm_W Y X moN ad (I, nJ0, moZ)) (nm_Qi D s0 r0 (nm_W Y X moN ad (I, nJ0, moZ))) 0 0 := by
  refine nm_of (by decide) (Nat.le_of_ble_eq_true rfl) ?_
  intro p e R s m args below meth c Q ls hx hb hr hlocks hml hown hts hs0 hK hZ hRf hRl hRc hRs hQ hP hD hl
  have hH : nm_H D Y (fun q => s0 ≤ q) s.heap X moN ad (I, nJ0, moZ) s.heap [] := ⟨hP, hD, va_S.rf⟩
  have hl : lv_has ls 1 [(0, .ref (ad 0))] := hl
  unfold f_X12_tries at hf
  refine lv_aload_n hx hb dX12_tries_0 rfl (lv_at hl 0 rfl) ?_
  refine gf_12_71 hK hx hb hts hown hH mo_n0 mo_k0 (hts _ tw_1026) (fun _ h9 => h9) dX12_tries_1 ?_
  exact nm_iret hx hb hr hlocks hQ hH hf rfl dX12_tries_4
def f_X12_pair__J32 (x1 : Int32) (x2 : Int32) (t32_2 : Int32) (t32_1 : Int64) (t32_0 : Int64) (I : nm_I) : Option (Int32 × nm_I) :=
(if (f_X12_isIn t32_0 t32_1 ((t32_2 - (1 : Int32)).toInt64)) = 0 then
nm_s2 (f_X12_no (-3 : Int32) I) fun r8 I6 =>
some (r8, I6)
else
(if x2 = 0 then
nm_c x1 12 (
some (I 77 x1.toNatClampNeg, I))
else
nm_c x1 65536 (
some (I 75 x1.toNatClampNeg, I))))
def f_X12_pair_ (x1 : Int32) (x2 : Int32) (I : nm_I) : Option (Int32 × nm_I) :=
(if (I 0 72) = 0 then
nm_s2 (f_X12_no (-2 : Int32) I) fun r12 I10 =>
some (r12, I10)
else
(if x2 = 0 then
f_X12_pair__J32 x1 x2 (I 0 65) (0 : Int64) x1.toInt64 I
else
f_X12_pair__J32 x1 x2 (I 0 57) (0 : Int64) x1.toInt64 I))
set_option maxHeartbeats 4000000 in
set_option maxRecDepth 100000 in
theorem k_X12_pair_ {l : Launch} {D : va_G} {Y : nm_Y} {s0 : Nat} {X : va_W} {ad : Nat → Nat}  {x1 : Int32} {x2 : Int32} {I : nm_I} {r0 : Int32} {M0 : nm_I} (hf : f_X12_pair_ x1 x2 I = some (r0, M0)) :
    nm_Met l yX12_pair_ cX12_pair_ 3 (some .int) { frames := 1, cells := 0, slots := 0, locals := 25 } [.ref (ad 0), .int x1, .int x2] D Y s0 (nm_W Y X moN ad (I, nJ0, moZ)) (nm_Qi D s0 r0 (nm_W Y X moN ad (M0, nJ0, moZ))) 0 0 := by
  refine nm_of (by decide) (Nat.le_of_ble_eq_true rfl) ?_
  intro p e R s m args below meth c Q ls hx hb hr hlocks hml hown hts hs0 hK hZ hRf hRl hRc hRs hQ hP hD hl
  have hH : nm_H D Y (fun q => s0 ≤ q) s.heap X moN ad (I, nJ0, moZ) s.heap [] := ⟨hP, hD, va_S.rf⟩
  have hl : lv_has ls 3 [(0, .ref (ad 0)), (1, .int x1), (2, .int x2)] := hl
  unfold f_X12_pair_ at hf
  refine lv_aload_n hx hb dX12_pair__0 rfl (lv_at hl 0 rfl) ?_
  refine gf_12_72 hK hx hb hts hown hH mo_n0 mo_k0 (hts _ tw_1027) (fun _ h9 => h9) dX12_pair__1 ?_
  refine lv_if_ne (tgt := 14) hx hb dX12_pair__4 (by decide) (fun c1 => ?_) (fun c1 => ?_)
  · have hf := nm_ie c1 hf
    refine lv_iload_n hx hb dX12_pair__14 rfl (lv_at hl 1 rfl) ?_
    refine lv_i2l hx hb dX12_pair__15 rfl ?_
    refine lv_lconst (v := 0) hx hb dX12_pair__16 (by decide) ?_
    refine lv_iload_n hx hb dX12_pair__17 rfl (lv_at hl 2 rfl) ?_
    have hJ32 : ∀ (t32_2 : Int32) (t32_1 : Int64) (t32_0 : Int64) (H : Heap) (locs : List Loc) (ls : Array Slot), nm_H D Y (fun q => s0 ≤ q) s.heap X moN ad (I, nJ0, moZ) H locs → lv_has ls 3 [(0, .ref (ad 0)), (1, .int x1), (2, .int x2)] → f_X12_pair__J32 x1 x2 t32_2 t32_1 t32_0 I = some (r0, M0) → W p l e R s m args below meth c H locs 0 0 Q (F0 m 32 ls [.int t32_2, .long t32_1, .long t32_0]) := by
      intro t32_2 t32_1 t32_0 H locs ls hH hl hf
      unfold f_X12_pair__J32 at hf
      refine lv_iconst (v := 1) hx hb dX12_pair__32 (by decide) ?_
      refine lv_isub hx hb dX12_pair__33 ?_
      refine lv_i2l hx hb dX12_pair__34 rfl ?_
      refine nm_calli (nm_runS (X := X) (nl := moN) (k_X12_isIn (hf := (rfl : f_X12_isIn t32_0 t32_1 ((t32_2 - (1 : Int32)).toInt64) = _))) hx hb hml hown hts hs0 hK hZ hH tw_1207 tw_1205 tw_1206 tw_9 hd_X12_isIn rfl rfl ⟨Nat.le_trans (Nat.le_of_ble_eq_true rfl) hRf, Nat.le_trans (Nat.le_of_ble_eq_true rfl) hRl⟩ rfl hl.1 rfl (Nat.le_of_ble_eq_true rfl) dX12_pair__35 ⟨Nat.zero_le _, Nat.zero_le _⟩) hH (fun H locs hH => ?_)
      have hH : nm_H D Y (fun q => s0 ≤ q) s.heap X moN ad (I, nJ0, moZ) H locs := hH
      refine lv_if_ne (tgt := 48) hx hb dX12_pair__38 (by decide) (fun c2 => ?_) (fun c2 => ?_)
      · have hf := nm_ie c2 hf
        refine lv_iload_n hx hb dX12_pair__48 rfl (lv_at hl 2 rfl) ?_
        refine lv_if_eq (tgt := 61) hx hb dX12_pair__49 (by decide) (fun c3 => ?_) (fun c3 => ?_)
        · have hf := nm_it c3 hf
          refine lv_aload_n hx hb dX12_pair__61 rfl (lv_at hl 0 rfl) ?_
          refine gf_12_76 hK hx hb hts hown hH mo_n0 mo_k0 (hts _ tw_1031) (fun _ h9 => h9) dX12_pair__62 ?_
          refine lv_iload_n hx hb dX12_pair__65 rfl (lv_at hl 1 rfl) ?_
          obtain ⟨hi4, hf⟩ := nm_chk hf
          refine nm_iald hx hb hK hH mo_n77 mo_k77 mo_l77 hi4 dX12_pair__66 ?_
          exact nm_iret hx hb hr hlocks hQ hH (congrArg Prod.fst (Option.some.inj hf)) (congrArg (fun q => (q.2, nJ0, moZ)) (Option.some.inj hf)) dX12_pair__67
        · have hf := nm_ie c3 hf
          refine lv_aload_n hx hb dX12_pair__52 rfl (lv_at hl 0 rfl) ?_
          refine gf_12_74 hK hx hb hts hown hH mo_n0 mo_k0 (hts _ tw_1029) (fun _ h9 => h9) dX12_pair__53 ?_
          refine lv_iload_n hx hb dX12_pair__56 rfl (lv_at hl 1 rfl) ?_
          obtain ⟨hi5, hf⟩ := nm_chk hf
          refine nm_iald hx hb hK hH mo_n75 mo_k75 mo_l75 hi5 dX12_pair__57 ?_
          refine lv_goto (tgt := 67) hx hb dX12_pair__58 (by decide) ?_
          exact nm_iret hx hb hr hlocks hQ hH (congrArg Prod.fst (Option.some.inj hf)) (congrArg (fun q => (q.2, nJ0, moZ)) (Option.some.inj hf)) dX12_pair__67
      · have hf := nm_it c2 hf
        refine lv_aload_n hx hb dX12_pair__41 rfl (lv_at hl 0 rfl) ?_
        refine lv_bipush (v := -3) hx hb dX12_pair__42 (by decide) ?_
        obtain ⟨r8, I6, hc7, hf⟩ := nm_sd2 hf
        refine nm_calli (nm_runV (X := X) (nl := moN) (k_X12_no (hf := hc7)) hx hb hml hown hts hs0 hK hZ hH tw_1214 tw_1211 tw_1213 (sw_X12_no) tw_9 hd_X12_no mo_n0 mo_k0 (by decide) rfl rfl rfl ⟨Nat.le_trans (Nat.le_of_ble_eq_true rfl) hRf, Nat.le_trans (Nat.le_of_ble_eq_true rfl) hRl⟩ rfl hl.1 rfl (Nat.le_of_ble_eq_true rfl) dX12_pair__44 ⟨Nat.zero_le _, Nat.zero_le _⟩) hH (fun H locs hH => ?_)
        have hH : nm_H D Y (fun q => s0 ≤ q) s.heap X moN ad (I6, nJ0, moZ) H locs := hH
        exact nm_iret hx hb hr hlocks hQ hH (congrArg Prod.fst (Option.some.inj hf)) (congrArg (fun q => (q.2, nJ0, moZ)) (Option.some.inj hf)) dX12_pair__47
    refine lv_if_eq (tgt := 28) hx hb dX12_pair__18 (by decide) (fun c9 => ?_) (fun c9 => ?_)
    · have hf := nm_it c9 hf
      refine lv_aload_n hx hb dX12_pair__28 rfl (lv_at hl 0 rfl) ?_
      refine gf_12_65 hK hx hb hts hown hH mo_n0 mo_k0 (hts _ tw_1020) (fun _ h9 => h9) dX12_pair__29 ?_
      exact hJ32 (I 0 65) (0 : Int64) x1.toInt64 _ _ _ hH (lv_sub hl [0, 1, 2] rfl) hf
    · have hf := nm_ie c9 hf
      refine lv_aload_n hx hb dX12_pair__21 rfl (lv_at hl 0 rfl) ?_
      refine gf_12_57 hK hx hb hts hown hH mo_n0 mo_k0 (hts _ tw_1012) (fun _ h9 => h9) dX12_pair__22 ?_
      refine lv_goto (tgt := 32) hx hb dX12_pair__25 (by decide) ?_
      exact hJ32 (I 0 57) (0 : Int64) x1.toInt64 _ _ _ hH (lv_sub hl [0, 1, 2] rfl) hf
  · have hf := nm_it c1 hf
    refine lv_aload_n hx hb dX12_pair__7 rfl (lv_at hl 0 rfl) ?_
    refine lv_bipush (v := -2) hx hb dX12_pair__8 (by decide) ?_
    obtain ⟨r12, I10, hc11, hf⟩ := nm_sd2 hf
    refine nm_calli (nm_runV (X := X) (nl := moN) (k_X12_no (hf := hc11)) hx hb hml hown hts hs0 hK hZ hH tw_1214 tw_1211 tw_1213 (sw_X12_no) tw_9 hd_X12_no mo_n0 mo_k0 (by decide) rfl rfl rfl ⟨Nat.le_trans (Nat.le_of_ble_eq_true rfl) hRf, Nat.le_trans (Nat.le_of_ble_eq_true rfl) hRl⟩ rfl hl.1 rfl (Nat.le_of_ble_eq_true rfl) dX12_pair__10 ⟨Nat.zero_le _, Nat.zero_le _⟩) hH (fun H locs hH => ?_)
    have hH : nm_H D Y (fun q => s0 ≤ q) s.heap X moN ad (I10, nJ0, moZ) H locs := hH
    exact nm_iret hx hb hr hlocks hQ hH (congrArg Prod.fst (Option.some.inj hf)) (congrArg (fun q => (q.2, nJ0, moZ)) (Option.some.inj hf)) dX12_pair__13
def f_X12_lay_J89 (x3 : Int32) (x4 : Int32) (t89_2 : Int32) (t89_1 : Int32) (I8 : nm_I) (k : Int32 → Int32 → nm_I → Option (Int32 × nm_I)) : Option (Int32 × nm_I) :=
nm_c t89_1 64 (
nm_l (nm_up I8 78 t89_1.toNatClampNeg t89_2) fun I12 =>
nm_c x4 64 (
nm_l (x3 + (I12 78 x4.toNatClampNeg)) fun v14 =>
k v14 (x4 + 1) I12))
def f_X12_lay_L50 (x1 : Int32) (x2 : Int32) : Nat → Int32 → Int32 → nm_I → Option (Int32 × nm_I)
  | 0, _, _, _ => none
  | n50 + 1, x3, x4, I8 =>
    (if (64 : Int32) ≤ x4 then
    some (x3, I8)
    else
    nm_c ((((4096 : Int32) * x1) + ((64 : Int32) * x2)) + x4) 65536 (
    (if (I8 20 ((((4096 : Int32) * x1) + ((64 : Int32) * x2)) + x4).toNatClampNeg) = 0 then
    f_X12_lay_J89 x3 x4 (0 : Int32) x4 I8 (f_X12_lay_L50 x1 x2 n50)
    else
    f_X12_lay_J89 x3 x4 (1 : Int32) x4 I8 (f_X12_lay_L50 x1 x2 n50))))
def f_X12_lay (x1 : Int32) (x2 : Int32) (I : nm_I) : Option (Int32 × nm_I) :=
(if (f_X12_isLayer x1) = 0 then
nm_s2 (f_X12_no (-3 : Int32) I) fun r4 I2 =>
some (r4, I2)
else
(if (f_X12_isIn x2.toInt64 (0 : Int64) (63 : Int64)) = 0 then
nm_s2 (f_X12_no (-3 : Int32) I) fun r24 I22 =>
some (r24, I22)
else
(if (I 0 20) = 0 then
nm_s2 (f_X12_no (-2 : Int32) I) fun r21 I19 =>
some (r21, I19)
else
nm_l (nm_up I 0 79 (1 : Int32)) fun I7 =>
nm_s2 (f_X12_lay_L50 x1 x2 nm_F (0 : Int32) (0 : Int32) I7) fun y16 I17 =>
some (y16, I17))))
set_option maxHeartbeats 4000000 in
set_option maxRecDepth 100000 in
theorem k_X12_lay {l : Launch} {D : va_G} {Y : nm_Y} {s0 : Nat} {X : va_W} {ad : Nat → Nat}  {x1 : Int32} {x2 : Int32} {I : nm_I} {r0 : Int32} {M0 : nm_I} (hf : f_X12_lay x1 x2 I = some (r0, M0)) :
    nm_Met l yX12_lay cX12_lay 5 (some .int) { frames := 1, cells := 0, slots := 0, locals := 25 } [.ref (ad 0), .int x1, .int x2] D Y s0 (nm_W Y X moN ad (I, nJ0, moZ)) (nm_Qi D s0 r0 (nm_W Y X moN ad (M0, nJ0, moZ))) 0 0 := by
  refine nm_of (by decide) (Nat.le_of_ble_eq_true rfl) ?_
  intro p e R s m args below meth c Q ls hx hb hr hlocks hml hown hts hs0 hK hZ hRf hRl hRc hRs hQ hP hD hl
  have hH : nm_H D Y (fun q => s0 ≤ q) s.heap X moN ad (I, nJ0, moZ) s.heap [] := ⟨hP, hD, va_S.rf⟩
  have hl : lv_has ls 5 [(0, .ref (ad 0)), (1, .int x1), (2, .int x2)] := hl
  unfold f_X12_lay at hf
  refine lv_iload_n hx hb dX12_lay_0 rfl (lv_at hl 1 rfl) ?_
  refine nm_calli (nm_runS (X := X) (nl := moN) (k_X12_isLayer (hf := (rfl : f_X12_isLayer x1 = _))) hx hb hml hown hts hs0 hK hZ hH tw_1231 tw_1229 tw_1230 tw_9 hd_X12_isLayer rfl rfl ⟨Nat.le_trans (Nat.le_of_ble_eq_true rfl) hRf, Nat.le_trans (Nat.le_of_ble_eq_true rfl) hRl⟩ rfl hl.1 rfl (Nat.le_of_ble_eq_true rfl) dX12_lay_1 ⟨Nat.zero_le _, Nat.zero_le _⟩) hH (fun H locs hH => ?_)
  have hH : nm_H D Y (fun q => s0 ≤ q) s.heap X moN ad (I, nJ0, moZ) H locs := hH
  refine lv_if_eq (tgt := 19) hx hb dX12_lay_4 (by decide) (fun c1 => ?_) (fun c1 => ?_)
  · have hf := nm_it c1 hf
    refine lv_aload_n hx hb dX12_lay_19 rfl (lv_at hl 0 rfl) ?_
    refine lv_bipush (v := -3) hx hb dX12_lay_20 (by decide) ?_
    obtain ⟨r4, I2, hc3, hf⟩ := nm_sd2 hf
    refine nm_calli (nm_runV (X := X) (nl := moN) (k_X12_no (hf := hc3)) hx hb hml hown hts hs0 hK hZ hH tw_1214 tw_1211 tw_1213 (sw_X12_no) tw_9 hd_X12_no mo_n0 mo_k0 (by decide) rfl rfl rfl ⟨Nat.le_trans (Nat.le_of_ble_eq_true rfl) hRf, Nat.le_trans (Nat.le_of_ble_eq_true rfl) hRl⟩ rfl hl.1 rfl (Nat.le_of_ble_eq_true rfl) dX12_lay_22 ⟨Nat.zero_le _, Nat.zero_le _⟩) hH (fun H locs hH => ?_)
    have hH : nm_H D Y (fun q => s0 ≤ q) s.heap X moN ad (I2, nJ0, moZ) H locs := hH
    exact nm_iret hx hb hr hlocks hQ hH (congrArg Prod.fst (Option.some.inj hf)) (congrArg (fun q => (q.2, nJ0, moZ)) (Option.some.inj hf)) dX12_lay_25
  · have hf := nm_ie c1 hf
    refine lv_iload_n hx hb dX12_lay_7 rfl (lv_at hl 2 rfl) ?_
    refine lv_i2l hx hb dX12_lay_8 rfl ?_
    refine lv_lconst (v := 0) hx hb dX12_lay_9 (by decide) ?_
    refine lv_ldc2 hx hb hown (hts _ tw_1251) dX12_lay_10 ?_
    refine nm_calli (nm_runS (X := X) (nl := moN) (k_X12_isIn (hf := (rfl : f_X12_isIn x2.toInt64 (0 : Int64) (63 : Int64) = _))) hx hb hml hown hts hs0 hK hZ hH tw_1207 tw_1205 tw_1206 tw_9 hd_X12_isIn rfl rfl ⟨Nat.le_trans (Nat.le_of_ble_eq_true rfl) hRf, Nat.le_trans (Nat.le_of_ble_eq_true rfl) hRl⟩ rfl hl.1 rfl (Nat.le_of_ble_eq_true rfl) dX12_lay_13 ⟨Nat.zero_le _, Nat.zero_le _⟩) hH (fun H locs hH => ?_)
    have hH : nm_H D Y (fun q => s0 ≤ q) s.heap X moN ad (I, nJ0, moZ) H locs := hH
    refine lv_if_ne (tgt := 26) hx hb dX12_lay_16 (by decide) (fun c5 => ?_) (fun c5 => ?_)
    · have hf := nm_ie c5 hf
      refine lv_aload_n hx hb dX12_lay_26 rfl (lv_at hl 0 rfl) ?_
      refine gf_12_20 hK hx hb hts hown hH mo_n0 mo_k0 (hts _ tw_976) (fun _ h9 => h9) dX12_lay_27 ?_
      refine lv_if_ne (tgt := 40) hx hb dX12_lay_30 (by decide) (fun c6 => ?_) (fun c6 => ?_)
      · have hf := nm_ie c6 hf
        refine lv_aload_n hx hb dX12_lay_40 rfl (lv_at hl 0 rfl) ?_
        refine lv_iconst (v := 1) hx hb dX12_lay_41 (by decide) ?_
        obtain ⟨I7, eI7, hf⟩ := nm_let hf
        refine pf_12_79 hK hx hb hts hown hH mo_n0 mo_k0 (hts _ tw_1034) (fun _ h9 => h9) rfl rfl dX12_lay_42 (fun H locs hH => ?_)
        have hH : nm_H D Y (fun q => s0 ≤ q) s.heap X moN ad (I7, nJ0, moZ) H locs := by rw [eI7]; exact hH
        refine lv_iconst (v := 0) hx hb dX12_lay_45 (by decide) ?_
        refine lv_istore_n (lv' := [(3, .int (0 : Int32)), (0, .ref (ad 0)), (1, .int x1), (2, .int x2)]) hx hb dX12_lay_46 rfl hl (by decide) rfl (fun ls hl => ?_)
        refine lv_iconst (v := 0) hx hb dX12_lay_47 (by decide) ?_
        refine lv_istore (lv' := [(4, .int (0 : Int32)), (3, .int (0 : Int32)), (0, .ref (ad 0)), (1, .int x1), (2, .int x2)]) hx hb dX12_lay_48 hl (by decide) rfl (fun ls hl => ?_)
        have hL50 : ∀ (n50 : Nat) (x3 : Int32) (x4 : Int32) (I8 : nm_I) (H : Heap) (locs : List Loc) (ls : Array Slot) (o50 : Int32 × nm_I), nm_H D Y (fun q => s0 ≤ q) s.heap X moN ad (I8, nJ0, moZ) H locs → lv_has ls 5 [(0, .ref (ad 0)), (1, .int x1), (2, .int x2), (3, .int x3), (4, .int x4)] → f_X12_lay_L50 x1 x2 n50 x3 x4 I8 = some o50 → (∀ (H : Heap) (locs : List Loc) (ls : Array Slot), nm_H D Y (fun q => s0 ≤ q) s.heap X moN ad (o50.2, nJ0, moZ) H locs → lv_has ls 5 [(3, .int o50.1)] → W p l e R s m args below meth c H locs 0 0 Q (F0 m 106 ls [])) → W p l e R s m args below meth c H locs 0 0 Q (F0 m 50 ls []) := by
          intro n50
          induction n50 with
          | zero =>
            intro x3 x4 I8 H locs ls o50 hH hl hf hX50
            cases hf
          | succ n50 ih50 =>
            intro x3 x4 I8 H locs ls o50 hH hl hf hX50
            rw [f_X12_lay_L50] at hf
            refine lv_iload hx hb dX12_lay_50 (lv_at hl 4 rfl) ?_
            refine lv_bipush (v := 64) hx hb dX12_lay_52 (by decide) ?_
            refine lv_icmp_ge (tgt := 106) hx hb dX12_lay_54 (by decide) (fun c9 => ?_) (fun c9 => ?_)
            · have hf := nm_it c9 hf
              cases hf
              exact hX50 _ _ _ hH (lv_sub hl [3] rfl)
            · have hf := nm_ie c9 hf
              refine lv_aload_n hx hb dX12_lay_57 rfl (lv_at hl 0 rfl) ?_
              refine gf_12_77 hK hx hb hts hown hH mo_n0 mo_k0 (hts _ tw_1032) (fun _ h9 => h9) dX12_lay_58 ?_
              refine lv_iload hx hb dX12_lay_61 (lv_at hl 4 rfl) ?_
              refine lv_aload_n hx hb dX12_lay_63 rfl (lv_at hl 0 rfl) ?_
              refine gf_12_19 hK hx hb hts hown hH mo_n0 mo_k0 (hts _ tw_975) (fun _ h9 => h9) dX12_lay_64 ?_
              refine lv_sipush (v := 4096) hx hb dX12_lay_67 (by decide) ?_
              refine lv_iload_n hx hb dX12_lay_70 rfl (lv_at hl 1 rfl) ?_
              refine lv_imul hx hb dX12_lay_71 ?_
              refine lv_bipush (v := 64) hx hb dX12_lay_72 (by decide) ?_
              refine lv_iload_n hx hb dX12_lay_74 rfl (lv_at hl 2 rfl) ?_
              refine lv_imul hx hb dX12_lay_75 ?_
              refine lv_iadd hx hb dX12_lay_76 ?_
              refine lv_iload hx hb dX12_lay_77 (lv_at hl 4 rfl) ?_
              refine lv_iadd hx hb dX12_lay_79 ?_
              obtain ⟨hi10, hf⟩ := nm_chk hf
              refine nm_zald hx hb hK hH mo_n20 mo_k20 mo_l20 hi10 dX12_lay_80 ?_
              have hJ89 : ∀ (t89_2 : Int32) (t89_1 : Int32) (H : Heap) (locs : List Loc) (ls : Array Slot), nm_H D Y (fun q => s0 ≤ q) s.heap X moN ad (I8, nJ0, moZ) H locs → lv_has ls 5 [(0, .ref (ad 0)), (1, .int x1), (2, .int x2), (3, .int x3), (4, .int x4)] → f_X12_lay_J89 x3 x4 t89_2 t89_1 I8 (f_X12_lay_L50 x1 x2 n50) = some o50 → W p l e R s m args below meth c H locs 0 0 Q (F0 m 89 ls [.int t89_2, .int t89_1, .ref (ad 78)]) := by
                intro t89_2 t89_1 H locs ls hH hl hf
                unfold f_X12_lay_J89 at hf
                obtain ⟨hi11, hf⟩ := nm_chk hf
                obtain ⟨I12, eI12, hf⟩ := nm_let hf
                refine nm_iast hx hb hK hH mo_n78 mo_k78 mo_l78 hi11 dX12_lay_89 (fun H locs hH => ?_)
                have hH : nm_H D Y (fun q => s0 ≤ q) s.heap X moN ad (I12, nJ0, moZ) H locs := by rw [eI12]; exact hH
                refine lv_iload_n hx hb dX12_lay_90 rfl (lv_at hl 3 rfl) ?_
                refine lv_aload_n hx hb dX12_lay_91 rfl (lv_at hl 0 rfl) ?_
                refine gf_12_77 hK hx hb hts hown hH mo_n0 mo_k0 (hts _ tw_1032) (fun _ h9 => h9) dX12_lay_92 ?_
                refine lv_iload hx hb dX12_lay_95 (lv_at hl 4 rfl) ?_
                obtain ⟨hi13, hf⟩ := nm_chk hf
                refine nm_iald hx hb hK hH mo_n78 mo_k78 mo_l78 hi13 dX12_lay_97 ?_
                refine lv_iadd hx hb dX12_lay_98 ?_
                obtain ⟨v14, ev14, hf⟩ := nm_let hf
                refine nm_topi ev14 ?_
                refine lv_istore_n (lv' := [(3, .int v14), (0, .ref (ad 0)), (1, .int x1), (2, .int x2), (4, .int x4)]) hx hb dX12_lay_99 rfl hl (by decide) rfl (fun ls hl => ?_)
                refine lv_iinc (v := x4 + 1) (lv' := [(4, .int (x4 + 1)), (3, .int v14), (0, .ref (ad 0)), (1, .int x1), (2, .int x2)]) hx hb dX12_lay_100 hl (k := 4) rfl rfl (by decide) rfl (fun ls hl => ?_)
                refine lv_goto (tgt := 50) hx hb dX12_lay_103 (by decide) ?_
                exact ih50 v14 (x4 + 1) I12 _ _ _ _ hH (lv_sub hl [2, 3, 4, 1, 0] rfl) hf hX50
              refine lv_if_eq (tgt := 88) hx hb dX12_lay_81 (by decide) (fun c15 => ?_) (fun c15 => ?_)
              · have hf := nm_it c15 hf
                refine lv_iconst (v := 0) hx hb dX12_lay_88 (by decide) ?_
                exact hJ89 (0 : Int32) x4 _ _ _ hH (lv_sub hl [0, 1, 2, 3, 4] rfl) hf
              · have hf := nm_ie c15 hf
                refine lv_iconst (v := 1) hx hb dX12_lay_84 (by decide) ?_
                refine lv_goto (tgt := 89) hx hb dX12_lay_85 (by decide) ?_
                exact hJ89 (1 : Int32) x4 _ _ _ hH (lv_sub hl [0, 1, 2, 3, 4] rfl) hf
        obtain ⟨y16, I17, hl18, hf⟩ := nm_sd2 hf
        refine hL50 nm_F (0 : Int32) (0 : Int32) I7 _ _ _ _ hH (lv_sub hl [2, 3, 4, 1, 0] rfl) hl18 (fun H locs ls hH hl => ?_)
        have hl : lv_has ls 5 [(3, .int y16)] := hl
        have hH : nm_H D Y (fun q => s0 ≤ q) s.heap X moN ad (I17, nJ0, moZ) H locs := hH
        refine lv_iload_n hx hb dX12_lay_106 rfl (lv_at hl 0 rfl) ?_
        exact nm_iret hx hb hr hlocks hQ hH (congrArg Prod.fst (Option.some.inj hf)) (congrArg (fun q => (q.2, nJ0, moZ)) (Option.some.inj hf)) dX12_lay_107
      · have hf := nm_it c6 hf
        refine lv_aload_n hx hb dX12_lay_33 rfl (lv_at hl 0 rfl) ?_
        refine lv_bipush (v := -2) hx hb dX12_lay_34 (by decide) ?_
        obtain ⟨r21, I19, hc20, hf⟩ := nm_sd2 hf
        refine nm_calli (nm_runV (X := X) (nl := moN) (k_X12_no (hf := hc20)) hx hb hml hown hts hs0 hK hZ hH tw_1214 tw_1211 tw_1213 (sw_X12_no) tw_9 hd_X12_no mo_n0 mo_k0 (by decide) rfl rfl rfl ⟨Nat.le_trans (Nat.le_of_ble_eq_true rfl) hRf, Nat.le_trans (Nat.le_of_ble_eq_true rfl) hRl⟩ rfl hl.1 rfl (Nat.le_of_ble_eq_true rfl) dX12_lay_36 ⟨Nat.zero_le _, Nat.zero_le _⟩) hH (fun H locs hH => ?_)
        have hH : nm_H D Y (fun q => s0 ≤ q) s.heap X moN ad (I19, nJ0, moZ) H locs := hH
        exact nm_iret hx hb hr hlocks hQ hH (congrArg Prod.fst (Option.some.inj hf)) (congrArg (fun q => (q.2, nJ0, moZ)) (Option.some.inj hf)) dX12_lay_39
    · have hf := nm_it c5 hf
      refine lv_aload_n hx hb dX12_lay_19 rfl (lv_at hl 0 rfl) ?_
      refine lv_bipush (v := -3) hx hb dX12_lay_20 (by decide) ?_
      obtain ⟨r24, I22, hc23, hf⟩ := nm_sd2 hf
      refine nm_calli (nm_runV (X := X) (nl := moN) (k_X12_no (hf := hc23)) hx hb hml hown hts hs0 hK hZ hH tw_1214 tw_1211 tw_1213 (sw_X12_no) tw_9 hd_X12_no mo_n0 mo_k0 (by decide) rfl rfl rfl ⟨Nat.le_trans (Nat.le_of_ble_eq_true rfl) hRf, Nat.le_trans (Nat.le_of_ble_eq_true rfl) hRl⟩ rfl hl.1 rfl (Nat.le_of_ble_eq_true rfl) dX12_lay_22 ⟨Nat.zero_le _, Nat.zero_le _⟩) hH (fun H locs hH => ?_)
      have hH : nm_H D Y (fun q => s0 ≤ q) s.heap X moN ad (I22, nJ0, moZ) H locs := hH
      exact nm_iret hx hb hr hlocks hQ hH (congrArg Prod.fst (Option.some.inj hf)) (congrArg (fun q => (q.2, nJ0, moZ)) (Option.some.inj hf)) dX12_lay_25
def f_X12_tear (I : nm_I) : Option (Int32 × nm_I) :=
(if (I 0 79) = 0 then
nm_l (nm_up I 0 79 (0 : Int32)) fun I2 =>
some ((0 : Int32), I2)
else
nm_l (nm_up I 0 79 (0 : Int32)) fun I3 =>
some ((1 : Int32), I3))
set_option maxHeartbeats 4000000 in
set_option maxRecDepth 100000 in
theorem k_X12_tear {l : Launch} {D : va_G} {Y : nm_Y} {s0 : Nat} {X : va_W} {ad : Nat → Nat}  {I : nm_I} {r0 : Int32} {M0 : nm_I} (hf : f_X12_tear I = some (r0, M0)) :
    nm_Met l yX12_tear cX12_tear 2 (some .int) { frames := 0, cells := 0, slots := 0, locals := 0 } [.ref (ad 0)] D Y s0 (nm_W Y X moN ad (I, nJ0, moZ)) (nm_Qi D s0 r0 (nm_W Y X moN ad (M0, nJ0, moZ))) 0 0 := by
  refine nm_of (by decide) (Nat.le_of_ble_eq_true rfl) ?_
  intro p e R s m args below meth c Q ls hx hb hr hlocks hml hown hts hs0 hK hZ hRf hRl hRc hRs hQ hP hD hl
  have hH : nm_H D Y (fun q => s0 ≤ q) s.heap X moN ad (I, nJ0, moZ) s.heap [] := ⟨hP, hD, va_S.rf⟩
  have hl : lv_has ls 2 [(0, .ref (ad 0))] := hl
  unfold f_X12_tear at hf
  refine lv_aload_n hx hb dX12_tear_0 rfl (lv_at hl 0 rfl) ?_
  refine gf_12_79 hK hx hb hts hown hH mo_n0 mo_k0 (hts _ tw_1034) (fun _ h9 => h9) dX12_tear_1 ?_
  refine lv_if_eq (tgt := 11) hx hb dX12_tear_4 (by decide) (fun c1 => ?_) (fun c1 => ?_)
  · have hf := nm_it c1 hf
    refine lv_iconst (v := 0) hx hb dX12_tear_11 (by decide) ?_
    refine lv_istore_n (lv' := [(1, .int (0 : Int32)), (0, .ref (ad 0))]) hx hb dX12_tear_12 rfl hl (by decide) rfl (fun ls hl => ?_)
    refine lv_aload_n hx hb dX12_tear_13 rfl (lv_at hl 1 rfl) ?_
    refine lv_iconst (v := 0) hx hb dX12_tear_14 (by decide) ?_
    obtain ⟨I2, eI2, hf⟩ := nm_let hf
    refine pf_12_79 hK hx hb hts hown hH mo_n0 mo_k0 (hts _ tw_1034) (fun _ h9 => h9) rfl rfl dX12_tear_15 (fun H locs hH => ?_)
    have hH : nm_H D Y (fun q => s0 ≤ q) s.heap X moN ad (I2, nJ0, moZ) H locs := by rw [eI2]; exact hH
    refine lv_iload_n hx hb dX12_tear_18 rfl (lv_at hl 0 rfl) ?_
    exact nm_iret hx hb hr hlocks hQ hH (congrArg Prod.fst (Option.some.inj hf)) (congrArg (fun q => (q.2, nJ0, moZ)) (Option.some.inj hf)) dX12_tear_19
  · have hf := nm_ie c1 hf
    refine lv_iconst (v := 1) hx hb dX12_tear_7 (by decide) ?_
    refine lv_goto (tgt := 12) hx hb dX12_tear_8 (by decide) ?_
    refine lv_istore_n (lv' := [(1, .int (1 : Int32)), (0, .ref (ad 0))]) hx hb dX12_tear_12 rfl hl (by decide) rfl (fun ls hl => ?_)
    refine lv_aload_n hx hb dX12_tear_13 rfl (lv_at hl 1 rfl) ?_
    refine lv_iconst (v := 0) hx hb dX12_tear_14 (by decide) ?_
    obtain ⟨I3, eI3, hf⟩ := nm_let hf
    refine pf_12_79 hK hx hb hts hown hH mo_n0 mo_k0 (hts _ tw_1034) (fun _ h9 => h9) rfl rfl dX12_tear_15 (fun H locs hH => ?_)
    have hH : nm_H D Y (fun q => s0 ≤ q) s.heap X moN ad (I3, nJ0, moZ) H locs := by rw [eI3]; exact hH
    refine lv_iload_n hx hb dX12_tear_18 rfl (lv_at hl 0 rfl) ?_
    exact nm_iret hx hb hr hlocks hQ hH (congrArg Prod.fst (Option.some.inj hf)) (congrArg (fun q => (q.2, nJ0, moZ)) (Option.some.inj hf)) dX12_tear_19
def f_X12_row (x1 : Int32) (I : nm_I) : Option (Int32 × nm_I) :=
(if (I 0 79) = 0 then
nm_s2 (f_X12_no (-2 : Int32) I) fun r9 I7 =>
some (r9, I7)
else
(if (f_X12_isIn x1.toInt64 (0 : Int64) (63 : Int64)) = 0 then
nm_s2 (f_X12_no (-3 : Int32) I) fun r5 I3 =>
some (r5, I3)
else
nm_c x1 64 (
some (I 78 x1.toNatClampNeg, I))))
set_option maxHeartbeats 4000000 in
set_option maxRecDepth 100000 in
theorem k_X12_row {l : Launch} {D : va_G} {Y : nm_Y} {s0 : Nat} {X : va_W} {ad : Nat → Nat}  {x1 : Int32} {I : nm_I} {r0 : Int32} {M0 : nm_I} (hf : f_X12_row x1 I = some (r0, M0)) :
    nm_Met l yX12_row cX12_row 2 (some .int) { frames := 1, cells := 0, slots := 0, locals := 25 } [.ref (ad 0), .int x1] D Y s0 (nm_W Y X moN ad (I, nJ0, moZ)) (nm_Qi D s0 r0 (nm_W Y X moN ad (M0, nJ0, moZ))) 0 0 := by
  refine nm_of (by decide) (Nat.le_of_ble_eq_true rfl) ?_
  intro p e R s m args below meth c Q ls hx hb hr hlocks hml hown hts hs0 hK hZ hRf hRl hRc hRs hQ hP hD hl
  have hH : nm_H D Y (fun q => s0 ≤ q) s.heap X moN ad (I, nJ0, moZ) s.heap [] := ⟨hP, hD, va_S.rf⟩
  have hl : lv_has ls 2 [(0, .ref (ad 0)), (1, .int x1)] := hl
  unfold f_X12_row at hf
  refine lv_aload_n hx hb dX12_row_0 rfl (lv_at hl 0 rfl) ?_
  refine gf_12_79 hK hx hb hts hown hH mo_n0 mo_k0 (hts _ tw_1034) (fun _ h9 => h9) dX12_row_1 ?_
  refine lv_if_ne (tgt := 14) hx hb dX12_row_4 (by decide) (fun c1 => ?_) (fun c1 => ?_)
  · have hf := nm_ie c1 hf
    refine lv_iload_n hx hb dX12_row_14 rfl (lv_at hl 1 rfl) ?_
    refine lv_i2l hx hb dX12_row_15 rfl ?_
    refine lv_lconst (v := 0) hx hb dX12_row_16 (by decide) ?_
    refine lv_ldc2 hx hb hown (hts _ tw_1251) dX12_row_17 ?_
    refine nm_calli (nm_runS (X := X) (nl := moN) (k_X12_isIn (hf := (rfl : f_X12_isIn x1.toInt64 (0 : Int64) (63 : Int64) = _))) hx hb hml hown hts hs0 hK hZ hH tw_1207 tw_1205 tw_1206 tw_9 hd_X12_isIn rfl rfl ⟨Nat.le_trans (Nat.le_of_ble_eq_true rfl) hRf, Nat.le_trans (Nat.le_of_ble_eq_true rfl) hRl⟩ rfl hl.1 rfl (Nat.le_of_ble_eq_true rfl) dX12_row_20 ⟨Nat.zero_le _, Nat.zero_le _⟩) hH (fun H locs hH => ?_)
    have hH : nm_H D Y (fun q => s0 ≤ q) s.heap X moN ad (I, nJ0, moZ) H locs := hH
    refine lv_if_eq (tgt := 35) hx hb dX12_row_23 (by decide) (fun c2 => ?_) (fun c2 => ?_)
    · have hf := nm_it c2 hf
      refine lv_aload_n hx hb dX12_row_35 rfl (lv_at hl 0 rfl) ?_
      refine lv_bipush (v := -3) hx hb dX12_row_36 (by decide) ?_
      obtain ⟨r5, I3, hc4, hf⟩ := nm_sd2 hf
      refine nm_calli (nm_runV (X := X) (nl := moN) (k_X12_no (hf := hc4)) hx hb hml hown hts hs0 hK hZ hH tw_1214 tw_1211 tw_1213 (sw_X12_no) tw_9 hd_X12_no mo_n0 mo_k0 (by decide) rfl rfl rfl ⟨Nat.le_trans (Nat.le_of_ble_eq_true rfl) hRf, Nat.le_trans (Nat.le_of_ble_eq_true rfl) hRl⟩ rfl hl.1 rfl (Nat.le_of_ble_eq_true rfl) dX12_row_38 ⟨Nat.zero_le _, Nat.zero_le _⟩) hH (fun H locs hH => ?_)
      have hH : nm_H D Y (fun q => s0 ≤ q) s.heap X moN ad (I3, nJ0, moZ) H locs := hH
      exact nm_iret hx hb hr hlocks hQ hH (congrArg Prod.fst (Option.some.inj hf)) (congrArg (fun q => (q.2, nJ0, moZ)) (Option.some.inj hf)) dX12_row_41
    · have hf := nm_ie c2 hf
      refine lv_aload_n hx hb dX12_row_26 rfl (lv_at hl 0 rfl) ?_
      refine gf_12_77 hK hx hb hts hown hH mo_n0 mo_k0 (hts _ tw_1032) (fun _ h9 => h9) dX12_row_27 ?_
      refine lv_iload_n hx hb dX12_row_30 rfl (lv_at hl 1 rfl) ?_
      obtain ⟨hi6, hf⟩ := nm_chk hf
      refine nm_iald hx hb hK hH mo_n78 mo_k78 mo_l78 hi6 dX12_row_31 ?_
      refine lv_goto (tgt := 41) hx hb dX12_row_32 (by decide) ?_
      exact nm_iret hx hb hr hlocks hQ hH (congrArg Prod.fst (Option.some.inj hf)) (congrArg (fun q => (q.2, nJ0, moZ)) (Option.some.inj hf)) dX12_row_41
  · have hf := nm_it c1 hf
    refine lv_aload_n hx hb dX12_row_7 rfl (lv_at hl 0 rfl) ?_
    refine lv_bipush (v := -2) hx hb dX12_row_8 (by decide) ?_
    obtain ⟨r9, I7, hc8, hf⟩ := nm_sd2 hf
    refine nm_calli (nm_runV (X := X) (nl := moN) (k_X12_no (hf := hc8)) hx hb hml hown hts hs0 hK hZ hH tw_1214 tw_1211 tw_1213 (sw_X12_no) tw_9 hd_X12_no mo_n0 mo_k0 (by decide) rfl rfl rfl ⟨Nat.le_trans (Nat.le_of_ble_eq_true rfl) hRf, Nat.le_trans (Nat.le_of_ble_eq_true rfl) hRl⟩ rfl hl.1 rfl (Nat.le_of_ble_eq_true rfl) dX12_row_10 ⟨Nat.zero_le _, Nat.zero_le _⟩) hH (fun H locs hH => ?_)
    have hH : nm_H D Y (fun q => s0 ≤ q) s.heap X moN ad (I7, nJ0, moZ) H locs := hH
    exact nm_iret hx hb hr hlocks hQ hH (congrArg Prod.fst (Option.some.inj hf)) (congrArg (fun q => (q.2, nJ0, moZ)) (Option.some.inj hf)) dX12_row_13
def f_X12_copy_L67 (x1 : Int32) (x3 : Int32) : Nat → Int32 → nm_I → Option (nm_I)
  | 0, _, _ => none
  | n67 + 1, x4, I16 =>
    (if x3 ≤ x4 then
    some I16
    else
    nm_c (x1 + x4) 64 (
    nm_c x4 64 (
    nm_l (nm_up I16 79 x4.toNatClampNeg (I16 78 (x1 + x4).toNatClampNeg)) fun I20 =>
    f_X12_copy_L67 x1 x3 n67 (x4 + 1) I20)))
def f_X12_copy_L98 (x2 : Int32) (x3 : Int32) : Nat → Int32 → nm_I → Option (nm_I)
  | 0, _, _ => none
  | n98 + 1, x4, I22 =>
    (if x3 ≤ x4 then
    some I22
    else
    nm_c x4 64 (
    nm_c (x2 + x4) 64 (
    nm_l (nm_up I22 78 ((x2 + x4).toNatClampNeg) (I22 79 x4.toNatClampNeg)) fun I26 =>
    f_X12_copy_L98 x2 x3 n98 (x4 + 1) I26)))
def f_X12_copy (x1 : Int32) (x2 : Int32) (x3 : Int32) (I : nm_I) : Option (Int32 × nm_I) :=
(if (I 0 79) = 0 then
nm_s2 (f_X12_no (-2 : Int32) I) fun r38 I36 =>
some (r38, I36)
else
(if 0 ≤ x3 then
(if x1 < 0 then
nm_s2 (f_X12_no (-6 : Int32) I) fun r6 I4 =>
some (r6, I4)
else
(if x2 < 0 then
nm_s2 (f_X12_no (-6 : Int32) I) fun r10 I8 =>
some (r10, I8)
else
(if 0 < (lg_cmp (x1.toInt64 + x3.toInt64) (64 : Int64)) then
nm_s2 (f_X12_no (-6 : Int32) I) fun r14 I12 =>
some (r14, I12)
else
(if (lg_cmp (x2.toInt64 + x3.toInt64) (64 : Int64)) ≤ 0 then
nm_s1 (f_X12_copy_L67 x1 x3 nm_F (0 : Int32) I) fun I21 =>
nm_s1 (f_X12_copy_L98 x2 x3 nm_F (0 : Int32) I21) fun I27 =>
some (x3, I27)
else
nm_s2 (f_X12_no (-6 : Int32) I) fun r32 I30 =>
some (r32, I30)))))
else
nm_s2 (f_X12_no (-4 : Int32) I) fun r35 I33 =>
some (r35, I33)))
set_option maxHeartbeats 4000000 in
set_option maxRecDepth 100000 in
theorem k_X12_copy {l : Launch} {D : va_G} {Y : nm_Y} {s0 : Nat} {X : va_W} {ad : Nat → Nat}  {x1 : Int32} {x2 : Int32} {x3 : Int32} {I : nm_I} {r0 : Int32} {M0 : nm_I} (hf : f_X12_copy x1 x2 x3 I = some (r0, M0)) :
    nm_Met l yX12_copy cX12_copy 5 (some .int) { frames := 1, cells := 0, slots := 0, locals := 21 } [.ref (ad 0), .int x1, .int x2, .int x3] D Y s0 (nm_W Y X moN ad (I, nJ0, moZ)) (nm_Qi D s0 r0 (nm_W Y X moN ad (M0, nJ0, moZ))) 0 0 := by
  refine nm_of (by decide) (Nat.le_of_ble_eq_true rfl) ?_
  intro p e R s m args below meth c Q ls hx hb hr hlocks hml hown hts hs0 hK hZ hRf hRl hRc hRs hQ hP hD hl
  have hH : nm_H D Y (fun q => s0 ≤ q) s.heap X moN ad (I, nJ0, moZ) s.heap [] := ⟨hP, hD, va_S.rf⟩
  have hl : lv_has ls 5 [(0, .ref (ad 0)), (1, .int x1), (2, .int x2), (3, .int x3)] := hl
  unfold f_X12_copy at hf
  refine lv_aload_n hx hb dX12_copy_0 rfl (lv_at hl 0 rfl) ?_
  refine gf_12_79 hK hx hb hts hown hH mo_n0 mo_k0 (hts _ tw_1034) (fun _ h9 => h9) dX12_copy_1 ?_
  refine lv_if_ne (tgt := 14) hx hb dX12_copy_4 (by decide) (fun c1 => ?_) (fun c1 => ?_)
  · have hf := nm_ie c1 hf
    refine lv_iload_n hx hb dX12_copy_14 rfl (lv_at hl 3 rfl) ?_
    refine lv_if_ge (tgt := 25) hx hb dX12_copy_15 (by decide) (fun c2 => ?_) (fun c2 => ?_)
    · have hf := nm_it c2 hf
      refine lv_iload_n hx hb dX12_copy_25 rfl (lv_at hl 1 rfl) ?_
      refine lv_if_lt (tgt := 57) hx hb dX12_copy_26 (by decide) (fun c3 => ?_) (fun c3 => ?_)
      · have hf := nm_it c3 hf
        refine lv_aload_n hx hb dX12_copy_57 rfl (lv_at hl 0 rfl) ?_
        refine lv_bipush (v := -6) hx hb dX12_copy_58 (by decide) ?_
        obtain ⟨r6, I4, hc5, hf⟩ := nm_sd2 hf
        refine nm_calli (nm_runV (X := X) (nl := moN) (k_X12_no (hf := hc5)) hx hb hml hown hts hs0 hK hZ hH tw_1214 tw_1211 tw_1213 (sw_X12_no) tw_9 hd_X12_no mo_n0 mo_k0 (by decide) rfl rfl rfl ⟨Nat.le_trans (Nat.le_of_ble_eq_true rfl) hRf, Nat.le_trans (Nat.le_of_ble_eq_true rfl) hRl⟩ rfl hl.1 rfl (Nat.le_of_ble_eq_true rfl) dX12_copy_60 ⟨Nat.zero_le _, Nat.zero_le _⟩) hH (fun H locs hH => ?_)
        have hH : nm_H D Y (fun q => s0 ≤ q) s.heap X moN ad (I4, nJ0, moZ) H locs := hH
        exact nm_iret hx hb hr hlocks hQ hH (congrArg Prod.fst (Option.some.inj hf)) (congrArg (fun q => (q.2, nJ0, moZ)) (Option.some.inj hf)) dX12_copy_63
      · have hf := nm_ie c3 hf
        refine lv_iload_n hx hb dX12_copy_29 rfl (lv_at hl 2 rfl) ?_
        refine lv_if_lt (tgt := 57) hx hb dX12_copy_30 (by decide) (fun c7 => ?_) (fun c7 => ?_)
        · have hf := nm_it c7 hf
          refine lv_aload_n hx hb dX12_copy_57 rfl (lv_at hl 0 rfl) ?_
          refine lv_bipush (v := -6) hx hb dX12_copy_58 (by decide) ?_
          obtain ⟨r10, I8, hc9, hf⟩ := nm_sd2 hf
          refine nm_calli (nm_runV (X := X) (nl := moN) (k_X12_no (hf := hc9)) hx hb hml hown hts hs0 hK hZ hH tw_1214 tw_1211 tw_1213 (sw_X12_no) tw_9 hd_X12_no mo_n0 mo_k0 (by decide) rfl rfl rfl ⟨Nat.le_trans (Nat.le_of_ble_eq_true rfl) hRf, Nat.le_trans (Nat.le_of_ble_eq_true rfl) hRl⟩ rfl hl.1 rfl (Nat.le_of_ble_eq_true rfl) dX12_copy_60 ⟨Nat.zero_le _, Nat.zero_le _⟩) hH (fun H locs hH => ?_)
          have hH : nm_H D Y (fun q => s0 ≤ q) s.heap X moN ad (I8, nJ0, moZ) H locs := hH
          exact nm_iret hx hb hr hlocks hQ hH (congrArg Prod.fst (Option.some.inj hf)) (congrArg (fun q => (q.2, nJ0, moZ)) (Option.some.inj hf)) dX12_copy_63
        · have hf := nm_ie c7 hf
          refine lv_iload_n hx hb dX12_copy_33 rfl (lv_at hl 1 rfl) ?_
          refine lv_i2l hx hb dX12_copy_34 rfl ?_
          refine lv_iload_n hx hb dX12_copy_35 rfl (lv_at hl 3 rfl) ?_
          refine lv_i2l hx hb dX12_copy_36 rfl ?_
          refine lv_ladd hx hb dX12_copy_37 ?_
          refine lv_ldc2 hx hb hown (hts _ tw_1215) dX12_copy_38 ?_
          refine W.lcmp hx hb dX12_copy_41 ?_
          refine lv_if_gt (tgt := 57) hx hb dX12_copy_42 (by decide) (fun c11 => ?_) (fun c11 => ?_)
          · have hf := nm_it c11 hf
            refine lv_aload_n hx hb dX12_copy_57 rfl (lv_at hl 0 rfl) ?_
            refine lv_bipush (v := -6) hx hb dX12_copy_58 (by decide) ?_
            obtain ⟨r14, I12, hc13, hf⟩ := nm_sd2 hf
            refine nm_calli (nm_runV (X := X) (nl := moN) (k_X12_no (hf := hc13)) hx hb hml hown hts hs0 hK hZ hH tw_1214 tw_1211 tw_1213 (sw_X12_no) tw_9 hd_X12_no mo_n0 mo_k0 (by decide) rfl rfl rfl ⟨Nat.le_trans (Nat.le_of_ble_eq_true rfl) hRf, Nat.le_trans (Nat.le_of_ble_eq_true rfl) hRl⟩ rfl hl.1 rfl (Nat.le_of_ble_eq_true rfl) dX12_copy_60 ⟨Nat.zero_le _, Nat.zero_le _⟩) hH (fun H locs hH => ?_)
            have hH : nm_H D Y (fun q => s0 ≤ q) s.heap X moN ad (I12, nJ0, moZ) H locs := hH
            exact nm_iret hx hb hr hlocks hQ hH (congrArg Prod.fst (Option.some.inj hf)) (congrArg (fun q => (q.2, nJ0, moZ)) (Option.some.inj hf)) dX12_copy_63
          · have hf := nm_ie c11 hf
            refine lv_iload_n hx hb dX12_copy_45 rfl (lv_at hl 2 rfl) ?_
            refine lv_i2l hx hb dX12_copy_46 rfl ?_
            refine lv_iload_n hx hb dX12_copy_47 rfl (lv_at hl 3 rfl) ?_
            refine lv_i2l hx hb dX12_copy_48 rfl ?_
            refine lv_ladd hx hb dX12_copy_49 ?_
            refine lv_ldc2 hx hb hown (hts _ tw_1215) dX12_copy_50 ?_
            refine W.lcmp hx hb dX12_copy_53 ?_
            refine lv_if_le (tgt := 64) hx hb dX12_copy_54 (by decide) (fun c15 => ?_) (fun c15 => ?_)
            · have hf := nm_it c15 hf
              refine lv_iconst (v := 0) hx hb dX12_copy_64 (by decide) ?_
              refine lv_istore (lv' := [(4, .int (0 : Int32)), (0, .ref (ad 0)), (1, .int x1), (2, .int x2), (3, .int x3)]) hx hb dX12_copy_65 hl (by decide) rfl (fun ls hl => ?_)
              have hL67 : ∀ (n67 : Nat) (x4 : Int32) (I16 : nm_I) (H : Heap) (locs : List Loc) (ls : Array Slot) (o67 : nm_I), nm_H D Y (fun q => s0 ≤ q) s.heap X moN ad (I16, nJ0, moZ) H locs → lv_has ls 5 [(0, .ref (ad 0)), (1, .int x1), (2, .int x2), (3, .int x3), (4, .int x4)] → f_X12_copy_L67 x1 x3 n67 x4 I16 = some o67 → (∀ (H : Heap) (locs : List Loc) (ls : Array Slot), nm_H D Y (fun q => s0 ≤ q) s.heap X moN ad (o67, nJ0, moZ) H locs → lv_has ls 5 [(0, .ref (ad 0)), (2, .int x2), (3, .int x3)] → W p l e R s m args below meth c H locs 0 0 Q (F0 m 95 ls [])) → W p l e R s m args below meth c H locs 0 0 Q (F0 m 67 ls []) := by
                intro n67
                induction n67 with
                | zero =>
                  intro x4 I16 H locs ls o67 hH hl hf hX67
                  cases hf
                | succ n67 ih67 =>
                  intro x4 I16 H locs ls o67 hH hl hf hX67
                  rw [f_X12_copy_L67] at hf
                  refine lv_iload hx hb dX12_copy_67 (lv_at hl 4 rfl) ?_
                  refine lv_iload_n hx hb dX12_copy_69 rfl (lv_at hl 3 rfl) ?_
                  refine lv_icmp_ge (tgt := 95) hx hb dX12_copy_70 (by decide) (fun c17 => ?_) (fun c17 => ?_)
                  · have hf := nm_it c17 hf
                    cases hf
                    exact hX67 _ _ _ hH (lv_sub hl [0, 2, 3] rfl)
                  · have hf := nm_ie c17 hf
                    refine lv_aload_n hx hb dX12_copy_73 rfl (lv_at hl 0 rfl) ?_
                    refine gf_12_78 hK hx hb hts hown hH mo_n0 mo_k0 (hts _ tw_1033) (fun _ h9 => h9) dX12_copy_74 ?_
                    refine lv_iload hx hb dX12_copy_77 (lv_at hl 4 rfl) ?_
                    refine lv_aload_n hx hb dX12_copy_79 rfl (lv_at hl 0 rfl) ?_
                    refine gf_12_77 hK hx hb hts hown hH mo_n0 mo_k0 (hts _ tw_1032) (fun _ h9 => h9) dX12_copy_80 ?_
                    refine lv_iload_n hx hb dX12_copy_83 rfl (lv_at hl 1 rfl) ?_
                    refine lv_iload hx hb dX12_copy_84 (lv_at hl 4 rfl) ?_
                    refine lv_iadd hx hb dX12_copy_86 ?_
                    obtain ⟨hi18, hf⟩ := nm_chk hf
                    refine nm_iald hx hb hK hH mo_n78 mo_k78 mo_l78 hi18 dX12_copy_87 ?_
                    obtain ⟨hi19, hf⟩ := nm_chk hf
                    obtain ⟨I20, eI20, hf⟩ := nm_let hf
                    refine nm_iast hx hb hK hH mo_n79 mo_k79 mo_l79 hi19 dX12_copy_88 (fun H locs hH => ?_)
                    have hH : nm_H D Y (fun q => s0 ≤ q) s.heap X moN ad (I20, nJ0, moZ) H locs := by rw [eI20]; exact hH
                    refine lv_iinc (v := x4 + 1) (lv' := [(4, .int (x4 + 1)), (0, .ref (ad 0)), (1, .int x1), (2, .int x2), (3, .int x3)]) hx hb dX12_copy_89 hl (k := 4) rfl rfl (by decide) rfl (fun ls hl => ?_)
                    refine lv_goto (tgt := 67) hx hb dX12_copy_92 (by decide) ?_
                    exact ih67 (x4 + 1) I20 _ _ _ _ hH (lv_sub hl [1, 2, 3, 4, 0] rfl) hf hX67
              obtain ⟨I21, hl29, hf⟩ := nm_sd1 hf
              refine hL67 nm_F (0 : Int32) I _ _ _ _ hH (lv_sub hl [1, 2, 3, 4, 0] rfl) hl29 (fun H locs ls hH hl => ?_)
              have hl : lv_has ls 5 [(0, .ref (ad 0)), (2, .int x2), (3, .int x3)] := hl
              have hH : nm_H D Y (fun q => s0 ≤ q) s.heap X moN ad (I21, nJ0, moZ) H locs := hH
              refine lv_iconst (v := 0) hx hb dX12_copy_95 (by decide) ?_
              refine lv_istore (lv' := [(4, .int (0 : Int32)), (0, .ref (ad 0)), (2, .int x2), (3, .int x3)]) hx hb dX12_copy_96 hl (by decide) rfl (fun ls hl => ?_)
              have hL98 : ∀ (n98 : Nat) (x4 : Int32) (I22 : nm_I) (H : Heap) (locs : List Loc) (ls : Array Slot) (o98 : nm_I), nm_H D Y (fun q => s0 ≤ q) s.heap X moN ad (I22, nJ0, moZ) H locs → lv_has ls 5 [(0, .ref (ad 0)), (2, .int x2), (3, .int x3), (4, .int x4)] → f_X12_copy_L98 x2 x3 n98 x4 I22 = some o98 → (∀ (H : Heap) (locs : List Loc) (ls : Array Slot), nm_H D Y (fun q => s0 ≤ q) s.heap X moN ad (o98, nJ0, moZ) H locs → lv_has ls 5 [(3, .int x3)] → W p l e R s m args below meth c H locs 0 0 Q (F0 m 126 ls [])) → W p l e R s m args below meth c H locs 0 0 Q (F0 m 98 ls []) := by
                intro n98
                induction n98 with
                | zero =>
                  intro x4 I22 H locs ls o98 hH hl hf hX98
                  cases hf
                | succ n98 ih98 =>
                  intro x4 I22 H locs ls o98 hH hl hf hX98
                  rw [f_X12_copy_L98] at hf
                  refine lv_iload hx hb dX12_copy_98 (lv_at hl 3 rfl) ?_
                  refine lv_iload_n hx hb dX12_copy_100 rfl (lv_at hl 2 rfl) ?_
                  refine lv_icmp_ge (tgt := 126) hx hb dX12_copy_101 (by decide) (fun c23 => ?_) (fun c23 => ?_)
                  · have hf := nm_it c23 hf
                    cases hf
                    exact hX98 _ _ _ hH (lv_sub hl [2] rfl)
                  · have hf := nm_ie c23 hf
                    refine lv_aload_n hx hb dX12_copy_104 rfl (lv_at hl 0 rfl) ?_
                    refine gf_12_77 hK hx hb hts hown hH mo_n0 mo_k0 (hts _ tw_1032) (fun _ h9 => h9) dX12_copy_105 ?_
                    refine lv_iload_n hx hb dX12_copy_108 rfl (lv_at hl 1 rfl) ?_
                    refine lv_iload hx hb dX12_copy_109 (lv_at hl 3 rfl) ?_
                    refine lv_iadd hx hb dX12_copy_111 ?_
                    refine lv_aload_n hx hb dX12_copy_112 rfl (lv_at hl 0 rfl) ?_
                    refine gf_12_78 hK hx hb hts hown hH mo_n0 mo_k0 (hts _ tw_1033) (fun _ h9 => h9) dX12_copy_113 ?_
                    refine lv_iload hx hb dX12_copy_116 (lv_at hl 3 rfl) ?_
                    obtain ⟨hi24, hf⟩ := nm_chk hf
                    refine nm_iald hx hb hK hH mo_n79 mo_k79 mo_l79 hi24 dX12_copy_118 ?_
                    obtain ⟨hi25, hf⟩ := nm_chk hf
                    obtain ⟨I26, eI26, hf⟩ := nm_let hf
                    refine nm_iast hx hb hK hH mo_n78 mo_k78 mo_l78 hi25 dX12_copy_119 (fun H locs hH => ?_)
                    have hH : nm_H D Y (fun q => s0 ≤ q) s.heap X moN ad (I26, nJ0, moZ) H locs := by rw [eI26]; exact hH
                    refine lv_iinc (v := x4 + 1) (lv' := [(4, .int (x4 + 1)), (0, .ref (ad 0)), (2, .int x2), (3, .int x3)]) hx hb dX12_copy_120 hl (k := 3) rfl rfl (by decide) rfl (fun ls hl => ?_)
                    refine lv_goto (tgt := 98) hx hb dX12_copy_123 (by decide) ?_
                    exact ih98 (x4 + 1) I26 _ _ _ _ hH (lv_sub hl [1, 2, 3, 0] rfl) hf hX98
              obtain ⟨I27, hl28, hf⟩ := nm_sd1 hf
              refine hL98 nm_F (0 : Int32) I21 _ _ _ _ hH (lv_sub hl [1, 2, 3, 0] rfl) hl28 (fun H locs ls hH hl => ?_)
              have hl : lv_has ls 5 [(3, .int x3)] := hl
              have hH : nm_H D Y (fun q => s0 ≤ q) s.heap X moN ad (I27, nJ0, moZ) H locs := hH
              refine lv_iload_n hx hb dX12_copy_126 rfl (lv_at hl 0 rfl) ?_
              exact nm_iret hx hb hr hlocks hQ hH (congrArg Prod.fst (Option.some.inj hf)) (congrArg (fun q => (q.2, nJ0, moZ)) (Option.some.inj hf)) dX12_copy_127
            · have hf := nm_ie c15 hf
              refine lv_aload_n hx hb dX12_copy_57 rfl (lv_at hl 0 rfl) ?_
              refine lv_bipush (v := -6) hx hb dX12_copy_58 (by decide) ?_
              obtain ⟨r32, I30, hc31, hf⟩ := nm_sd2 hf
              refine nm_calli (nm_runV (X := X) (nl := moN) (k_X12_no (hf := hc31)) hx hb hml hown hts hs0 hK hZ hH tw_1214 tw_1211 tw_1213 (sw_X12_no) tw_9 hd_X12_no mo_n0 mo_k0 (by decide) rfl rfl rfl ⟨Nat.le_trans (Nat.le_of_ble_eq_true rfl) hRf, Nat.le_trans (Nat.le_of_ble_eq_true rfl) hRl⟩ rfl hl.1 rfl (Nat.le_of_ble_eq_true rfl) dX12_copy_60 ⟨Nat.zero_le _, Nat.zero_le _⟩) hH (fun H locs hH => ?_)
              have hH : nm_H D Y (fun q => s0 ≤ q) s.heap X moN ad (I30, nJ0, moZ) H locs := hH
              exact nm_iret hx hb hr hlocks hQ hH (congrArg Prod.fst (Option.some.inj hf)) (congrArg (fun q => (q.2, nJ0, moZ)) (Option.some.inj hf)) dX12_copy_63
    · have hf := nm_ie c2 hf
      refine lv_aload_n hx hb dX12_copy_18 rfl (lv_at hl 0 rfl) ?_
      refine lv_bipush (v := -4) hx hb dX12_copy_19 (by decide) ?_
      obtain ⟨r35, I33, hc34, hf⟩ := nm_sd2 hf
      refine nm_calli (nm_runV (X := X) (nl := moN) (k_X12_no (hf := hc34)) hx hb hml hown hts hs0 hK hZ hH tw_1214 tw_1211 tw_1213 (sw_X12_no) tw_9 hd_X12_no mo_n0 mo_k0 (by decide) rfl rfl rfl ⟨Nat.le_trans (Nat.le_of_ble_eq_true rfl) hRf, Nat.le_trans (Nat.le_of_ble_eq_true rfl) hRl⟩ rfl hl.1 rfl (Nat.le_of_ble_eq_true rfl) dX12_copy_21 ⟨Nat.zero_le _, Nat.zero_le _⟩) hH (fun H locs hH => ?_)
      have hH : nm_H D Y (fun q => s0 ≤ q) s.heap X moN ad (I33, nJ0, moZ) H locs := hH
      exact nm_iret hx hb hr hlocks hQ hH (congrArg Prod.fst (Option.some.inj hf)) (congrArg (fun q => (q.2, nJ0, moZ)) (Option.some.inj hf)) dX12_copy_24
  · have hf := nm_it c1 hf
    refine lv_aload_n hx hb dX12_copy_7 rfl (lv_at hl 0 rfl) ?_
    refine lv_bipush (v := -2) hx hb dX12_copy_8 (by decide) ?_
    obtain ⟨r38, I36, hc37, hf⟩ := nm_sd2 hf
    refine nm_calli (nm_runV (X := X) (nl := moN) (k_X12_no (hf := hc37)) hx hb hml hown hts hs0 hK hZ hH tw_1214 tw_1211 tw_1213 (sw_X12_no) tw_9 hd_X12_no mo_n0 mo_k0 (by decide) rfl rfl rfl ⟨Nat.le_trans (Nat.le_of_ble_eq_true rfl) hRf, Nat.le_trans (Nat.le_of_ble_eq_true rfl) hRl⟩ rfl hl.1 rfl (Nat.le_of_ble_eq_true rfl) dX12_copy_10 ⟨Nat.zero_le _, Nat.zero_le _⟩) hH (fun H locs hH => ?_)
    have hH : nm_H D Y (fun q => s0 ≤ q) s.heap X moN ad (I36, nJ0, moZ) H locs := hH
    exact nm_iret hx hb hr hlocks hQ hH (congrArg Prod.fst (Option.some.inj hf)) (congrArg (fun q => (q.2, nJ0, moZ)) (Option.some.inj hf)) dX12_copy_13
def f_X12_status (x1 : Int32) (I : nm_I) : Option (Int32 × nm_I) :=
(if (f_X12_isIn x1.toInt64 (-9 : Int64) (-2 : Int64)) = 0 then
nm_s2 (f_X12_no (-7 : Int32) I) fun r4 I2 =>
some (r4, I2)
else
nm_c (-x1) 10 (
some (I 12 (-x1).toNatClampNeg, I)))
set_option maxHeartbeats 4000000 in
set_option maxRecDepth 100000 in
theorem k_X12_status {l : Launch} {D : va_G} {Y : nm_Y} {s0 : Nat} {X : va_W} {ad : Nat → Nat}  {x1 : Int32} {I : nm_I} {r0 : Int32} {M0 : nm_I} (hf : f_X12_status x1 I = some (r0, M0)) :
    nm_Met l yX12_status cX12_status 2 (some .int) { frames := 1, cells := 0, slots := 0, locals := 25 } [.ref (ad 0), .int x1] D Y s0 (nm_W Y X moN ad (I, nJ0, moZ)) (nm_Qi D s0 r0 (nm_W Y X moN ad (M0, nJ0, moZ))) 0 0 := by
  refine nm_of (by decide) (Nat.le_of_ble_eq_true rfl) ?_
  intro p e R s m args below meth c Q ls hx hb hr hlocks hml hown hts hs0 hK hZ hRf hRl hRc hRs hQ hP hD hl
  have hH : nm_H D Y (fun q => s0 ≤ q) s.heap X moN ad (I, nJ0, moZ) s.heap [] := ⟨hP, hD, va_S.rf⟩
  have hl : lv_has ls 2 [(0, .ref (ad 0)), (1, .int x1)] := hl
  unfold f_X12_status at hf
  refine lv_iload_n hx hb dX12_status_0 rfl (lv_at hl 1 rfl) ?_
  refine lv_i2l hx hb dX12_status_1 rfl ?_
  refine lv_ldc2 hx hb hown (hts _ tw_1504) dX12_status_2 ?_
  refine lv_ldc2 hx hb hown (hts _ tw_1505) dX12_status_5 ?_
  refine nm_calli (nm_runS (X := X) (nl := moN) (k_X12_isIn (hf := (rfl : f_X12_isIn x1.toInt64 (-9 : Int64) (-2 : Int64) = _))) hx hb hml hown hts hs0 hK hZ hH tw_1207 tw_1205 tw_1206 tw_9 hd_X12_isIn rfl rfl ⟨Nat.le_trans (Nat.le_of_ble_eq_true rfl) hRf, Nat.le_trans (Nat.le_of_ble_eq_true rfl) hRl⟩ rfl hl.1 rfl (Nat.le_of_ble_eq_true rfl) dX12_status_8 ⟨Nat.zero_le _, Nat.zero_le _⟩) hH (fun H locs hH => ?_)
  have hH : nm_H D Y (fun q => s0 ≤ q) s.heap X moN ad (I, nJ0, moZ) H locs := hH
  refine lv_if_eq (tgt := 24) hx hb dX12_status_11 (by decide) (fun c1 => ?_) (fun c1 => ?_)
  · have hf := nm_it c1 hf
    refine lv_aload_n hx hb dX12_status_24 rfl (lv_at hl 0 rfl) ?_
    refine lv_bipush (v := -7) hx hb dX12_status_25 (by decide) ?_
    obtain ⟨r4, I2, hc3, hf⟩ := nm_sd2 hf
    refine nm_calli (nm_runV (X := X) (nl := moN) (k_X12_no (hf := hc3)) hx hb hml hown hts hs0 hK hZ hH tw_1214 tw_1211 tw_1213 (sw_X12_no) tw_9 hd_X12_no mo_n0 mo_k0 (by decide) rfl rfl rfl ⟨Nat.le_trans (Nat.le_of_ble_eq_true rfl) hRf, Nat.le_trans (Nat.le_of_ble_eq_true rfl) hRl⟩ rfl hl.1 rfl (Nat.le_of_ble_eq_true rfl) dX12_status_27 ⟨Nat.zero_le _, Nat.zero_le _⟩) hH (fun H locs hH => ?_)
    have hH : nm_H D Y (fun q => s0 ≤ q) s.heap X moN ad (I2, nJ0, moZ) H locs := hH
    exact nm_iret hx hb hr hlocks hQ hH (congrArg Prod.fst (Option.some.inj hf)) (congrArg (fun q => (q.2, nJ0, moZ)) (Option.some.inj hf)) dX12_status_30
  · have hf := nm_ie c1 hf
    refine lv_aload_n hx hb dX12_status_14 rfl (lv_at hl 0 rfl) ?_
    refine gf_12_11 hK hx hb hts hown hH mo_n0 mo_k0 (hts _ tw_967) (fun _ h9 => h9) dX12_status_15 ?_
    refine lv_iload_n hx hb dX12_status_18 rfl (lv_at hl 1 rfl) ?_
    refine lv_ineg hx hb dX12_status_19 ?_
    obtain ⟨hi5, hf⟩ := nm_chk hf
    refine nm_iald hx hb hK hH mo_n12 mo_k12 mo_l12 hi5 dX12_status_20 ?_
    refine lv_goto (tgt := 30) hx hb dX12_status_21 (by decide) ?_
    exact nm_iret hx hb hr hlocks hQ hH (congrArg Prod.fst (Option.some.inj hf)) (congrArg (fun q => (q.2, nJ0, moZ)) (Option.some.inj hf)) dX12_status_30
