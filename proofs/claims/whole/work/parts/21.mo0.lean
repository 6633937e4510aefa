def f_X12_isIn (x0 : Int64) (x2 : Int64) (x4 : Int64) : Int32 :=
(if (lg_cmp x0 x2) < 0 then
(0 : Int32)
else
(if 0 < (lg_cmp x0 x4) then
(0 : Int32)
else
(1 : Int32)))
set_option maxHeartbeats 4000000 in
set_option maxRecDepth 100000 in
theorem k_X12_isIn {l : Launch} {D : va_G} {Y : nm_Y} {s0 : Nat} {X : va_W} {ad : Nat → Nat}  {x0 : Int64} {x2 : Int64} {x4 : Int64} {I : nm_I} {r0 : Int32} (hf : f_X12_isIn x0 x2 x4 = r0) :
    nm_Met l yX12_isIn cX12_isIn 6 (some .boolean) { frames := 0, cells := 0, slots := 0, locals := 0 } [.long x0, .long x2, .long x4] D Y s0 (nm_W Y X moN ad (I, nJ0, moZ)) (nm_Qi D s0 r0 (nm_W Y X moN ad (I, nJ0, moZ))) 0 0 := by
  refine nm_of (by decide) (Nat.le_of_ble_eq_true rfl) ?_
  intro p e R s m args below meth c Q ls hx hb hr hlocks hml hown hts hs0 hK hZ hRf hRl hRc hRs hQ hP hD hl
  have hH : nm_H D Y (fun q => s0 ≤ q) s.heap X moN ad (I, nJ0, moZ) s.heap [] := ⟨hP, hD, va_S.rf⟩
  have hl : lv_has ls 6 [(0, .long x0), (2, .long x2), (4, .long x4)] := hl
  unfold f_X12_isIn at hf
  refine lv_lload_n hx hb dX12_isIn_0 rfl (lv_at hl 0 rfl) ?_
  refine lv_lload_n hx hb dX12_isIn_1 rfl (lv_at hl 1 rfl) ?_
  refine W.lcmp hx hb dX12_isIn_2 ?_
  refine lv_if_lt (tgt := 17) hx hb dX12_isIn_3 (by decide) (fun c1 => ?_) (fun c1 => ?_)
  · have hf := nm_it c1 hf
    refine lv_iconst (v := 0) hx hb dX12_isIn_17 (by decide) ?_
    exact nm_zret hx hb hr hlocks hQ hH rfl hf rfl dX12_isIn_18
  · have hf := nm_ie c1 hf
    refine lv_lload_n hx hb dX12_isIn_6 rfl (lv_at hl 0 rfl) ?_
    refine lv_lload hx hb dX12_isIn_7 (lv_at hl 2 rfl) ?_
    refine W.lcmp hx hb dX12_isIn_9 ?_
    refine lv_if_gt (tgt := 17) hx hb dX12_isIn_10 (by decide) (fun c2 => ?_) (fun c2 => ?_)
    · have hf := nm_it c2 hf
      refine lv_iconst (v := 0) hx hb dX12_isIn_17 (by decide) ?_
      exact nm_zret hx hb hr hlocks hQ hH rfl hf rfl dX12_isIn_18
    · have hf := nm_ie c2 hf
      refine lv_iconst (v := 1) hx hb dX12_isIn_13 (by decide) ?_
      refine lv_goto (tgt := 18) hx hb dX12_isIn_14 (by decide) ?_
      exact nm_zret hx hb hr hlocks hQ hH rfl hf rfl dX12_isIn_18
def f_X12_no (x1 : Int32) (I : nm_I) : Option (Int32 × nm_I) :=
nm_c (-x1) 10 (
nm_c (-x1) 10 (
nm_l (nm_up I 12 ((-x1).toNatClampNeg) ((I 12 (-x1).toNatClampNeg) + (1 : Int32))) fun I3 =>
some (x1, I3)))
set_option maxHeartbeats 4000000 in
set_option maxRecDepth 100000 in
theorem k_X12_no {l : Launch} {D : va_G} {Y : nm_Y} {s0 : Nat} {X : va_W} {ad : Nat → Nat}  {x1 : Int32} {I : nm_I} {r0 : Int32} {M0 : nm_I} (hf : f_X12_no x1 I = some (r0, M0)) :
    nm_Met l yX12_no cX12_no 2 (some .int) { frames := 0, cells := 0, slots := 0, locals := 0 } [.ref (ad 0), .int x1] D Y s0 (nm_W Y X moN ad (I, nJ0, moZ)) (nm_Qi D s0 r0 (nm_W Y X moN ad (M0, nJ0, moZ))) 0 0 := by
  refine nm_of (by decide) (Nat.le_of_ble_eq_true rfl) ?_
  intro p e R s m args below meth c Q ls hx hb hr hlocks hml hown hts hs0 hK hZ hRf hRl hRc hRs hQ hP hD hl
  have hH : nm_H D Y (fun q => s0 ≤ q) s.heap X moN ad (I, nJ0, moZ) s.heap [] := ⟨hP, hD, va_S.rf⟩
  have hl : lv_has ls 2 [(0, .ref (ad 0)), (1, .int x1)] := hl
  unfold f_X12_no at hf
  refine lv_aload_n hx hb dX12_no_0 rfl (lv_at hl 0 rfl) ?_
  refine gf_12_11 hK hx hb hts hown hH mo_n0 mo_k0 (hts _ tw_967) (fun _ h9 => h9) dX12_no_1 ?_
  refine lv_iload_n hx hb dX12_no_4 rfl (lv_at hl 1 rfl) ?_
  refine lv_ineg hx hb dX12_no_5 ?_
  refine lv_dup2_11 hx hb dX12_no_6 rfl rfl ?_
  obtain ⟨hi1, hf⟩ := nm_chk hf
  refine nm_iald hx hb hK hH mo_n12 mo_k12 mo_l12 hi1 dX12_no_7 ?_
  refine lv_iconst (v := 1) hx hb dX12_no_8 (by decide) ?_
  refine lv_iadd hx hb dX12_no_9 ?_
  obtain ⟨hi2, hf⟩ := nm_chk hf
  obtain ⟨I3, eI3, hf⟩ := nm_let hf
  refine nm_iast hx hb hK hH mo_n12 mo_k12 mo_l12 hi2 dX12_no_10 (fun H locs hH => ?_)
  have hH : nm_H D Y (fun q => s0 ≤ q) s.heap X moN ad (I3, nJ0, moZ) H locs := by rw [eI3]; exact hH
  refine lv_iload_n hx hb dX12_no_11 rfl (lv_at hl 1 rfl) ?_
  exact nm_iret hx hb hr hlocks hQ hH (congrArg Prod.fst (Option.some.inj hf)) (congrArg (fun q => (q.2, nJ0, moZ)) (Option.some.inj hf)) dX12_no_12
def f_X12_isCell (x0 : Int32) : Int32 :=
(if x0 < 0 then
(0 : Int32)
else
(if (8 : Int32) ≤ x0 then
(0 : Int32)
else
(1 : Int32)))
set_option maxHeartbeats 4000000 in
set_option maxRecDepth 100000 in
theorem k_X12_isCell {l : Launch} {D : va_G} {Y : nm_Y} {s0 : Nat} {X : va_W} {ad : Nat → Nat}  {x0 : Int32} {I : nm_I} {r0 : Int32} (hf : f_X12_isCell x0 = r0) :
    nm_Met l yX12_isCell cX12_isCell 1 (some .boolean) { frames := 0, cells := 0, slots := 0, locals := 0 } [.int x0] D Y s0 (nm_W Y X moN ad (I, nJ0, moZ)) (nm_Qi D s0 r0 (nm_W Y X moN ad (I, nJ0, moZ))) 0 0 := by
  refine nm_of (by decide) (Nat.le_of_ble_eq_true rfl) ?_
  intro p e R s m args below meth c Q ls hx hb hr hlocks hml hown hts hs0 hK hZ hRf hRl hRc hRs hQ hP hD hl
  have hH : nm_H D Y (fun q => s0 ≤ q) s.heap X moN ad (I, nJ0, moZ) s.heap [] := ⟨hP, hD, va_S.rf⟩
  have hl : lv_has ls 1 [(0, .int x0)] := hl
  unfold f_X12_isCell at hf
  refine lv_iload_n hx hb dX12_isCell_0 rfl (lv_at hl 0 rfl) ?_
  refine lv_if_lt (tgt := 14) hx hb dX12_isCell_1 (by decide) (fun c1 => ?_) (fun c1 => ?_)
  · have hf := nm_it c1 hf
    refine lv_iconst (v := 0) hx hb dX12_isCell_14 (by decide) ?_
    exact nm_zret hx hb hr hlocks hQ hH rfl hf rfl dX12_isCell_15
  · have hf := nm_ie c1 hf
    refine lv_iload_n hx hb dX12_isCell_4 rfl (lv_at hl 0 rfl) ?_
    refine lv_bipush (v := 8) hx hb dX12_isCell_5 (by decide) ?_
    refine lv_icmp_ge (tgt := 14) hx hb dX12_isCell_7 (by decide) (fun c2 => ?_) (fun c2 => ?_)
    · have hf := nm_it c2 hf
      refine lv_iconst (v := 0) hx hb dX12_isCell_14 (by decide) ?_
      exact nm_zret hx hb hr hlocks hQ hH rfl hf rfl dX12_isCell_15
    · have hf := nm_ie c2 hf
      refine lv_iconst (v := 1) hx hb dX12_isCell_10 (by decide) ?_
      refine lv_goto (tgt := 15) hx hb dX12_isCell_11 (by decide) ?_
      exact nm_zret hx hb hr hlocks hQ hH rfl hf rfl dX12_isCell_15
def f_X12_isLayer (x0 : Int32) : Int32 :=
(if x0 < 0 then
(0 : Int32)
else
(if (16 : Int32) ≤ x0 then
(0 : Int32)
else
(1 : Int32)))
set_option maxHeartbeats 4000000 in
set_option maxRecDepth 100000 in
theorem k_X12_isLayer {l : Launch} {D : va_G} {Y : nm_Y} {s0 : Nat} {X : va_W} {ad : Nat → Nat}  {x0 : Int32} {I : nm_I} {r0 : Int32} (hf : f_X12_isLayer x0 = r0) :
    nm_Met l yX12_isLayer cX12_isLayer 1 (some .boolean) { frames := 0, cells := 0, slots := 0, locals := 0 } [.int x0] D Y s0 (nm_W Y X moN ad (I, nJ0, moZ)) (nm_Qi D s0 r0 (nm_W Y X moN ad (I, nJ0, moZ))) 0 0 := by
  refine nm_of (by decide) (Nat.le_of_ble_eq_true rfl) ?_
  intro p e R s m args below meth c Q ls hx hb hr hlocks hml hown hts hs0 hK hZ hRf hRl hRc hRs hQ hP hD hl
  have hH : nm_H D Y (fun q => s0 ≤ q) s.heap X moN ad (I, nJ0, moZ) s.heap [] := ⟨hP, hD, va_S.rf⟩
  have hl : lv_has ls 1 [(0, .int x0)] := hl
  unfold f_X12_isLayer at hf
  refine lv_iload_n hx hb dX12_isLayer_0 rfl (lv_at hl 0 rfl) ?_
  refine lv_if_lt (tgt := 14) hx hb dX12_isLayer_1 (by decide) (fun c1 => ?_) (fun c1 => ?_)
  · have hf := nm_it c1 hf
    refine lv_iconst (v := 0) hx hb dX12_isLayer_14 (by decide) ?_
    exact nm_zret hx hb hr hlocks hQ hH rfl hf rfl dX12_isLayer_15
  · have hf := nm_ie c1 hf
    refine lv_iload_n hx hb dX12_isLayer_4 rfl (lv_at hl 0 rfl) ?_
    refine lv_bipush (v := 16) hx hb dX12_isLayer_5 (by decide) ?_
    refine lv_icmp_ge (tgt := 14) hx hb dX12_isLayer_7 (by decide) (fun c2 => ?_) (fun c2 => ?_)
    · have hf := nm_it c2 hf
      refine lv_iconst (v := 0) hx hb dX12_isLayer_14 (by decide) ?_
      exact nm_zret hx hb hr hlocks hQ hH rfl hf rfl dX12_isLayer_15
    · have hf := nm_ie c2 hf
      refine lv_iconst (v := 1) hx hb dX12_isLayer_10 (by decide) ?_
      refine lv_goto (tgt := 15) hx hb dX12_isLayer_11 (by decide) ?_
      exact nm_zret hx hb hr hlocks hQ hH rfl hf rfl dX12_isLayer_15
def f_X12_isSquare (x0 : Int32) : Int32 :=
(if x0 < 0 then
(0 : Int32)
else
(if (4096 : Int32) ≤ x0 then
(0 : Int32)
else
(1 : Int32)))
set_option maxHeartbeats 4000000 in
set_option maxRecDepth 100000 in
theorem k_X12_isSquare {l : Launch} {D : va_G} {Y : nm_Y} {s0 : Nat} {X : va_W} {ad : Nat → Nat}  {x0 : Int32} {I : nm_I} {r0 : Int32} (hf : f_X12_isSquare x0 = r0) :
    nm_Met l yX12_isSquare cX12_isSquare 1 (some .boolean) { frames := 0, cells := 0, slots := 0, locals := 0 } [.int x0] D Y s0 (nm_W Y X moN ad (I, nJ0, moZ)) (nm_Qi D s0 r0 (nm_W Y X moN ad (I, nJ0, moZ))) 0 0 := by
  refine nm_of (by decide) (Nat.le_of_ble_eq_true rfl) ?_
  intro p e R s m args below meth c Q ls hx hb hr hlocks hml hown hts hs0 hK hZ hRf hRl hRc hRs hQ hP hD hl
  have hH : nm_H D Y (fun q => s0 ≤ q) s.heap X moN ad (I, nJ0, moZ) s.heap [] := ⟨hP, hD, va_S.rf⟩
  have hl : lv_has ls 1 [(0, .int x0)] := hl
  unfold f_X12_isSquare at hf
  refine lv_iload_n hx hb dX12_isSquare_0 rfl (lv_at hl 0 rfl) ?_
  refine lv_if_lt (tgt := 15) hx hb dX12_isSquare_1 (by decide) (fun c1 => ?_) (fun c1 => ?_)
  · have hf := nm_it c1 hf
    refine lv_iconst (v := 0) hx hb dX12_isSquare_15 (by decide) ?_
    exact nm_zret hx hb hr hlocks hQ hH rfl hf rfl dX12_isSquare_16
  · have hf := nm_ie c1 hf
    refine lv_iload_n hx hb dX12_isSquare_4 rfl (lv_at hl 0 rfl) ?_
    refine lv_sipush (v := 4096) hx hb dX12_isSquare_5 (by decide) ?_
    refine lv_icmp_ge (tgt := 15) hx hb dX12_isSquare_8 (by decide) (fun c2 => ?_) (fun c2 => ?_)
    · have hf := nm_it c2 hf
      refine lv_iconst (v := 0) hx hb dX12_isSquare_15 (by decide) ?_
      exact nm_zret hx hb hr hlocks hQ hH rfl hf rfl dX12_isSquare_16
    · have hf := nm_ie c2 hf
      refine lv_iconst (v := 1) hx hb dX12_isSquare_11 (by decide) ?_
      refine lv_goto (tgt := 16) hx hb dX12_isSquare_12 (by decide) ?_
      exact nm_zret hx hb hr hlocks hQ hH rfl hf rfl dX12_isSquare_16
def f_X12_adds (x1 : Int32) (x2 : Int32) (x3 : Int32) (x4 : Int32) (x5 : Int32) (x6 : Int32) (I : nm_I) : Option (Int32 × nm_I) :=
nm_c x1 8 (
(if (I 8 x1.toNatClampNeg) = (16 : Int32) then
nm_s2 (f_X12_no (-8 : Int32) I) fun r25 I23 =>
some (r25, I23)
else
nm_c x1 8 (
nm_l (((16 : Int32) * x1) + (I 8 x1.toNatClampNeg)) fun v4 =>
nm_c v4 128 (
nm_l (nm_up I 1 v4.toNatClampNeg x2) fun I6 =>
nm_c v4 128 (
nm_l (nm_up I6 2 v4.toNatClampNeg x3) fun I8 =>
nm_c v4 128 (
nm_l (nm_up I8 3 v4.toNatClampNeg x4) fun I10 =>
nm_c v4 128 (
nm_l (nm_up I10 4 v4.toNatClampNeg x5) fun I12 =>
nm_c v4 128 (
nm_l (nm_up I12 5 v4.toNatClampNeg x6) fun I14 =>
nm_c v4 128 (
nm_l (nm_up I14 6 v4.toNatClampNeg (300 : Int32)) fun I16 =>
nm_c v4 128 (
nm_l (nm_up I16 7 v4.toNatClampNeg (300 : Int32)) fun I18 =>
nm_c x1 8 (
nm_c x1 8 (
nm_l (nm_up I18 8 x1.toNatClampNeg ((I18 8 x1.toNatClampNeg) + (1 : Int32))) fun I21 =>
nm_c x1 8 (
some ((I21 8 x1.toNatClampNeg) - (1 : Int32), I21))))))))))))))
set_option maxHeartbeats 4000000 in
set_option maxRecDepth 100000 in
theorem k_X12_adds {l : Launch} {D : va_G} {Y : nm_Y} {s0 : Nat} {X : va_W} {ad : Nat → Nat}  {x1 : Int32} {x2 : Int32} {x3 : Int32} {x4 : Int32} {x5 : Int32} {x6 : Int32} {I : nm_I} {r0 : Int32} {M0 : nm_I} (hf : f_X12_adds x1 x2 x3 x4 x5 x6 I = some (r0, M0)) :
    nm_Met l yX12_adds cX12_adds 8 (some .int) { frames := 1, cells := 0, slots := 0, locals := 21 } [.ref (ad 0), .int x1, .int x2, .int x3, .int x4, .int x5, .int x6] D Y s0 (nm_W Y X moN ad (I, nJ0, moZ)) (nm_Qi D s0 r0 (nm_W Y X moN ad (M0, nJ0, moZ))) 0 0 := by
  refine nm_of (by decide) (Nat.le_of_ble_eq_true rfl) ?_
  intro p e R s m args below meth c Q ls hx hb hr hlocks hml hown hts hs0 hK hZ hRf hRl hRc hRs hQ hP hD hl
  have hH : nm_H D Y (fun q => s0 ≤ q) s.heap X moN ad (I, nJ0, moZ) s.heap [] := ⟨hP, hD, va_S.rf⟩
  have hl : lv_has ls 8 [(0, .ref (ad 0)), (1, .int x1), (2, .int x2), (3, .int x3), (4, .int x4), (5, .int x5), (6, .int x6)] := hl
  unfold f_X12_adds at hf
  refine lv_aload_n hx hb dX12_adds_0 rfl (lv_at hl 0 rfl) ?_
  refine gf_12_7 hK hx hb hts hown hH mo_n0 mo_k0 (hts _ tw_963) (fun _ h9 => h9) dX12_adds_1 ?_
  refine lv_iload_n hx hb dX12_adds_4 rfl (lv_at hl 1 rfl) ?_
  obtain ⟨hi1, hf⟩ := nm_chk hf
  refine nm_iald hx hb hK hH mo_n8 mo_k8 mo_l8 hi1 dX12_adds_5 ?_
  refine lv_bipush (v := 16) hx hb dX12_adds_6 (by decide) ?_
  refine lv_icmp_ne (tgt := 18) hx hb dX12_adds_8 (by decide) (fun c2 => ?_) (fun c2 => ?_)
  · have hf := nm_ie c2 hf
    refine lv_bipush (v := 16) hx hb dX12_adds_18 (by decide) ?_
    refine lv_iload_n hx hb dX12_adds_20 rfl (lv_at hl 1 rfl) ?_
    refine lv_imul hx hb dX12_adds_21 ?_
    refine lv_aload_n hx hb dX12_adds_22 rfl (lv_at hl 0 rfl) ?_
    refine gf_12_7 hK hx hb hts hown hH mo_n0 mo_k0 (hts _ tw_963) (fun _ h9 => h9) dX12_adds_23 ?_
    refine lv_iload_n hx hb dX12_adds_26 rfl (lv_at hl 1 rfl) ?_
    obtain ⟨hi3, hf⟩ := nm_chk hf
    refine nm_iald hx hb hK hH mo_n8 mo_k8 mo_l8 hi3 dX12_adds_27 ?_
    refine lv_iadd hx hb dX12_adds_28 ?_
    obtain ⟨v4, ev4, hf⟩ := nm_let hf
    refine nm_topi ev4 ?_
    refine lv_istore (lv' := [(7, .int v4), (0, .ref (ad 0)), (1, .int x1), (2, .int x2), (3, .int x3), (4, .int x4), (5, .int x5), (6, .int x6)]) hx hb dX12_adds_29 hl (by decide) rfl (fun ls hl => ?_)
    refine lv_aload_n hx hb dX12_adds_31 rfl (lv_at hl 1 rfl) ?_
    refine gf_12_0 hK hx hb hts hown hH mo_n0 mo_k0 (hts _ tw_956) (fun _ h9 => h9) dX12_adds_32 ?_
    refine lv_iload hx hb dX12_adds_35 (lv_at hl 0 rfl) ?_
    refine lv_iload_n hx hb dX12_adds_37 rfl (lv_at hl 3 rfl) ?_
    obtain ⟨hi5, hf⟩ := nm_chk hf
    obtain ⟨I6, eI6, hf⟩ := nm_let hf
    refine nm_iast hx hb hK hH mo_n1 mo_k1 mo_l1 hi5 dX12_adds_38 (fun H locs hH => ?_)
    have hH : nm_H D Y (fun q => s0 ≤ q) s.heap X moN ad (I6, nJ0, moZ) H locs := by rw [eI6]; exact hH
    refine lv_aload_n hx hb dX12_adds_39 rfl (lv_at hl 1 rfl) ?_
    refine gf_12_1 hK hx hb hts hown hH mo_n0 mo_k0 (hts _ tw_957) (fun _ h9 => h9) dX12_adds_40 ?_
    refine lv_iload hx hb dX12_adds_43 (lv_at hl 0 rfl) ?_
    refine lv_iload_n hx hb dX12_adds_45 rfl (lv_at hl 4 rfl) ?_
    obtain ⟨hi7, hf⟩ := nm_chk hf
    obtain ⟨I8, eI8, hf⟩ := nm_let hf
    refine nm_iast hx hb hK hH mo_n2 mo_k2 mo_l2 hi7 dX12_adds_46 (fun H locs hH => ?_)
    have hH : nm_H D Y (fun q => s0 ≤ q) s.heap X moN ad (I8, nJ0, moZ) H locs := by rw [eI8]; exact hH
    refine lv_aload_n hx hb dX12_adds_47 rfl (lv_at hl 1 rfl) ?_
    refine gf_12_2 hK hx hb hts hown hH mo_n0 mo_k0 (hts _ tw_958) (fun _ h9 => h9) dX12_adds_48 ?_
    refine lv_iload hx hb dX12_adds_51 (lv_at hl 0 rfl) ?_
    refine lv_iload hx hb dX12_adds_53 (lv_at hl 5 rfl) ?_
    obtain ⟨hi9, hf⟩ := nm_chk hf
    obtain ⟨I10, eI10, hf⟩ := nm_let hf
    refine nm_iast hx hb hK hH mo_n3 mo_k3 mo_l3 hi9 dX12_adds_55 (fun H locs hH => ?_)
    have hH : nm_H D Y (fun q => s0 ≤ q) s.heap X moN ad (I10, nJ0, moZ) H locs := by rw [eI10]; exact hH
    refine lv_aload_n hx hb dX12_adds_56 rfl (lv_at hl 1 rfl) ?_
    refine gf_12_3 hK hx hb hts hown hH mo_n0 mo_k0 (hts _ tw_959) (fun _ h9 => h9) dX12_adds_57 ?_
    refine lv_iload hx hb dX12_adds_60 (lv_at hl 0 rfl) ?_
    refine lv_iload hx hb dX12_adds_62 (lv_at hl 6 rfl) ?_
    obtain ⟨hi11, hf⟩ := nm_chk hf
    obtain ⟨I12, eI12, hf⟩ := nm_let hf
    refine nm_iast hx hb hK hH mo_n4 mo_k4 mo_l4 hi11 dX12_adds_64 (fun H locs hH => ?_)
    have hH : nm_H D Y (fun q => s0 ≤ q) s.heap X moN ad (I12, nJ0, moZ) H locs := by rw [eI12]; exact hH
    refine lv_aload_n hx hb dX12_adds_65 rfl (lv_at hl 1 rfl) ?_
    refine gf_12_4 hK hx hb hts hown hH mo_n0 mo_k0 (hts _ tw_960) (fun _ h9 => h9) dX12_adds_66 ?_
    refine lv_iload hx hb dX12_adds_69 (lv_at hl 0 rfl) ?_
    refine lv_iload hx hb dX12_adds_71 (lv_at hl 7 rfl) ?_
    obtain ⟨hi13, hf⟩ := nm_chk hf
    obtain ⟨I14, eI14, hf⟩ := nm_let hf
    refine nm_iast hx hb hK hH mo_n5 mo_k5 mo_l5 hi13 dX12_adds_73 (fun H locs hH => ?_)
    have hH : nm_H D Y (fun q => s0 ≤ q) s.heap X moN ad (I14, nJ0, moZ) H locs := by rw [eI14]; exact hH
    refine lv_aload_n hx hb dX12_adds_74 rfl (lv_at hl 1 rfl) ?_
    refine gf_12_5 hK hx hb hts hown hH mo_n0 mo_k0 (hts _ tw_961) (fun _ h9 => h9) dX12_adds_75 ?_
    refine lv_iload hx hb dX12_adds_78 (lv_at hl 0 rfl) ?_
    refine lv_sipush (v := 300) hx hb dX12_adds_80 (by decide) ?_
    obtain ⟨hi15, hf⟩ := nm_chk hf
    obtain ⟨I16, eI16, hf⟩ := nm_let hf
    refine nm_iast hx hb hK hH mo_n6 mo_k6 mo_l6 hi15 dX12_adds_83 (fun H locs hH => ?_)
    have hH : nm_H D Y (fun q => s0 ≤ q) s.heap X moN ad (I16, nJ0, moZ) H locs := by rw [eI16]; exact hH
    refine lv_aload_n hx hb dX12_adds_84 rfl (lv_at hl 1 rfl) ?_
    refine gf_12_6 hK hx hb hts hown hH mo_n0 mo_k0 (hts _ tw_962) (fun _ h9 => h9) dX12_adds_85 ?_
    refine lv_iload hx hb dX12_adds_88 (lv_at hl 0 rfl) ?_
    refine lv_sipush (v := 300) hx hb dX12_adds_90 (by decide) ?_
    obtain ⟨hi17, hf⟩ := nm_chk hf
    obtain ⟨I18, eI18, hf⟩ := nm_let hf
    refine nm_iast hx hb hK hH mo_n7 mo_k7 mo_l7 hi17 dX12_adds_93 (fun H locs hH => ?_)
    have hH : nm_H D Y (fun q => s0 ≤ q) s.heap X moN ad (I18, nJ0, moZ) H locs := by rw [eI18]; exact hH
    refine lv_aload_n hx hb dX12_adds_94 rfl (lv_at hl 1 rfl) ?_
    refine gf_12_7 hK hx hb hts hown hH mo_n0 mo_k0 (hts _ tw_963) (fun _ h9 => h9) dX12_adds_95 ?_
    refine lv_iload_n hx hb dX12_adds_98 rfl (lv_at hl 2 rfl) ?_
    refine lv_dup2_11 hx hb dX12_adds_99 rfl rfl ?_
    obtain ⟨hi19, hf⟩ := nm_chk hf
    refine nm_iald hx hb hK hH mo_n8 mo_k8 mo_l8 hi19 dX12_adds_100 ?_
    refine lv_iconst (v := 1) hx hb dX12_adds_101 (by decide) ?_
    refine lv_iadd hx hb dX12_adds_102 ?_
    obtain ⟨hi20, hf⟩ := nm_chk hf
    obtain ⟨I21, eI21, hf⟩ := nm_let hf
    refine nm_iast hx hb hK hH mo_n8 mo_k8 mo_l8 hi20 dX12_adds_103 (fun H locs hH => ?_)
    have hH : nm_H D Y (fun q => s0 ≤ q) s.heap X moN ad (I21, nJ0, moZ) H locs := by rw [eI21]; exact hH
    refine lv_aload_n hx hb dX12_adds_104 rfl (lv_at hl 1 rfl) ?_
    refine gf_12_7 hK hx hb hts hown hH mo_n0 mo_k0 (hts _ tw_963) (fun _ h9 => h9) dX12_adds_105 ?_
    refine lv_iload_n hx hb dX12_adds_108 rfl (lv_at hl 2 rfl) ?_
    obtain ⟨hi22, hf⟩ := nm_chk hf
    refine nm_iald hx hb hK hH mo_n8 mo_k8 mo_l8 hi22 dX12_adds_109 ?_
    refine lv_iconst (v := 1) hx hb dX12_adds_110 (by decide) ?_
    refine lv_isub hx hb dX12_adds_111 ?_
    exact nm_iret hx hb hr hlocks hQ hH (congrArg Prod.fst (Option.some.inj hf)) (congrArg (fun q => (q.2, nJ0, moZ)) (Option.some.inj hf)) dX12_adds_112
  · have hf := nm_it c2 hf
    refine lv_aload_n hx hb dX12_adds_11 rfl (lv_at hl 0 rfl) ?_
    refine lv_bipush (v := -8) hx hb dX12_adds_12 (by decide) ?_
    obtain ⟨r25, I23, hc24, hf⟩ := nm_sd2 hf
    refine nm_calli (nm_runV (X := X) (nl := moN) (k_X12_no (hf := hc24)) hx hb hml hown hts hs0 hK hZ hH tw_1214 tw_1211 tw_1213 (sw_X12_no) tw_9 hd_X12_no mo_n0 mo_k0 (by decide) rfl rfl rfl ⟨Nat.le_trans (Nat.le_of_ble_eq_true rfl) hRf, Nat.le_trans (Nat.le_of_ble_eq_true rfl) hRl⟩ rfl hl.1 rfl (Nat.le_of_ble_eq_true rfl) dX12_adds_14 ⟨Nat.zero_le _, Nat.zero_le _⟩) hH (fun H locs hH => ?_)
    have hH : nm_H D Y (fun q => s0 ≤ q) s.heap X moN ad (I23, nJ0, moZ) H locs := hH
    exact nm_iret hx hb hr hlocks hQ hH (congrArg Prod.fst (Option.some.inj hf)) (congrArg (fun q => (q.2, nJ0, moZ)) (Option.some.inj hf)) dX12_adds_17
def f_X12_box (x1 : Int32) (x2 : Int32) (x3 : Int32) (x4 : Int32) (x5 : Int32) (I : nm_I) : Option (Int32 × nm_I) :=
(if (f_X12_isCell x1) = 0 then
nm_s2 (f_X12_no (-3 : Int32) I) fun r4 I2 =>
some (r4, I2)
else
(if (f_X12_isIn x2.toInt64 (0 : Int64) (7 : Int64)) = 0 then
nm_s2 (f_X12_no (-3 : Int32) I) fun r8 I6 =>
some (r8, I6)
else
(if (f_X12_isSquare x3) = 0 then
nm_s2 (f_X12_no (-3 : Int32) I) fun r31 I29 =>
some (r31, I29)
else
(if x4 < 0 then
nm_s2 (f_X12_no (-7 : Int32) I) fun r13 I11 =>
some (r13, I11)
else
(if (f_X12_isIn ((x4 / (100 : Int32)).toInt64) (1 : Int64) (64 : Int64)) = 0 then
nm_s2 (f_X12_no (-7 : Int32) I) fun r17 I15 =>
some (r17, I15)
else
(if (f_X12_isIn ((x4 - x4 / (100 : Int32) * (100 : Int32)).toInt64) (1 : Int64) (64 : Int64)) = 0 then
nm_s2 (f_X12_no (-7 : Int32) I) fun r28 I26 =>
some (r28, I26)
else
(if x5 = 0 then
nm_s2 (f_X12_adds x1 (0 : Int32) x2 x3 x4 (0 : Int32) I) fun r22 I20 =>
some (r22, I20)
else
nm_s2 (f_X12_adds x1 (1 : Int32) x2 x3 x4 (0 : Int32) I) fun r25 I23 =>
some (r25, I23))))))))
set_option maxHeartbeats 4000000 in
set_option maxRecDepth 100000 in
theorem k_X12_box {l : Launch} {D : va_G} {Y : nm_Y} {s0 : Nat} {X : va_W} {ad : Nat → Nat}  {x1 : Int32} {x2 : Int32} {x3 : Int32} {x4 : Int32} {x5 : Int32} {I : nm_I} {r0 : Int32} {M0 : nm_I} (hf : f_X12_box x1 x2 x3 x4 x5 I = some (r0, M0)) :
    nm_Met l yX12_box cX12_box 6 (some .int) { frames := 2, cells := 0, slots := 0, locals := 48 } [.ref (ad 0), .int x1, .int x2, .int x3, .int x4, .int x5] D Y s0 (nm_W Y X moN ad (I, nJ0, moZ)) (nm_Qi D s0 r0 (nm_W Y X moN ad (M0, nJ0, moZ))) 0 0 := by
  refine nm_of (by decide) (Nat.le_of_ble_eq_true rfl) ?_
  intro p e R s m args below meth c Q ls hx hb hr hlocks hml hown hts hs0 hK hZ hRf hRl hRc hRs hQ hP hD hl
  have hH : nm_H D Y (fun q => s0 ≤ q) s.heap X moN ad (I, nJ0, moZ) s.heap [] := ⟨hP, hD, va_S.rf⟩
  have hl : lv_has ls 6 [(0, .ref (ad 0)), (1, .int x1), (2, .int x2), (3, .int x3), (4, .int x4), (5, .int x5)] := hl
  unfold f_X12_box at hf
  refine lv_iload_n hx hb dX12_box_0 rfl (lv_at hl 1 rfl) ?_
  refine nm_calli (nm_runS (X := X) (nl := moN) (k_X12_isCell (hf := (rfl : f_X12_isCell x1 = _))) hx hb hml hown hts hs0 hK hZ hH tw_1203 tw_1201 tw_1202 tw_9 hd_X12_isCell rfl rfl ⟨Nat.le_trans (Nat.le_of_ble_eq_true rfl) hRf, Nat.le_trans (Nat.le_of_ble_eq_true rfl) hRl⟩ rfl hl.1 rfl (Nat.le_of_ble_eq_true rfl) dX12_box_1 ⟨Nat.zero_le _, Nat.zero_le _⟩) hH (fun H locs hH => ?_)
  have hH : nm_H D Y (fun q => s0 ≤ q) s.heap X moN ad (I, nJ0, moZ) H locs := hH
  refine lv_if_eq (tgt := 26) hx hb dX12_box_4 (by decide) (fun c1 => ?_) (fun c1 => ?_)
  · have hf := nm_it c1 hf
    refine lv_aload_n hx hb dX12_box_26 rfl (lv_at hl 0 rfl) ?_
    refine lv_bipush (v := -3) hx hb dX12_box_27 (by decide) ?_
    obtain ⟨r4, I2, hc3, hf⟩ := nm_sd2 hf
    refine nm_calli (nm_runV (X := X) (nl := moN) (k_X12_no (hf := hc3)) hx hb hml hown hts hs0 hK hZ hH tw_1214 tw_1211 tw_1213 (sw_X12_no) tw_9 hd_X12_no mo_n0 mo_k0 (by decide) rfl rfl rfl ⟨Nat.le_trans (Nat.le_of_ble_eq_true rfl) hRf, Nat.le_trans (Nat.le_of_ble_eq_true rfl) hRl⟩ rfl hl.1 rfl (Nat.le_of_ble_eq_true rfl) dX12_box_29 ⟨Nat.zero_le _, Nat.zero_le _⟩) hH (fun H locs hH => ?_)
    have hH : nm_H D Y (fun q => s0 ≤ q) s.heap X moN ad (I2, nJ0, moZ) H locs := hH
    exact nm_iret hx hb hr hlocks hQ hH (congrArg Prod.fst (Option.some.inj hf)) (congrArg (fun q => (q.2, nJ0, moZ)) (Option.some.inj hf)) dX12_box_32
  · have hf := nm_ie c1 hf
    refine lv_iload_n hx hb dX12_box_7 rfl (lv_at hl 2 rfl) ?_
    refine lv_i2l hx hb dX12_box_8 rfl ?_
    refine lv_lconst (v := 0) hx hb dX12_box_9 (by decide) ?_
    refine lv_ldc2 hx hb hown (hts _ tw_1204) dX12_box_10 ?_
    refine nm_calli (nm_runS (X := X) (nl := moN) (k_X12_isIn (hf := (rfl : f_X12_isIn x2.toInt64 (0 : Int64) (7 : Int64) = _))) hx hb hml hown hts hs0 hK hZ hH tw_1207 tw_1205 tw_1206 tw_9 hd_X12_isIn rfl rfl ⟨Nat.le_trans (Nat.le_of_ble_eq_true rfl) hRf, Nat.le_trans (Nat.le_of_ble_eq_true rfl) hRl⟩ rfl hl.1 rfl (Nat.le_of_ble_eq_true rfl) dX12_box_13 ⟨Nat.zero_le _, Nat.zero_le _⟩) hH (fun H locs hH => ?_)
    have hH : nm_H D Y (fun q => s0 ≤ q) s.heap X moN ad (I, nJ0, moZ) H locs := hH
    refine lv_if_eq (tgt := 26) hx hb dX12_box_16 (by decide) (fun c5 => ?_) (fun c5 => ?_)
    · have hf := nm_it c5 hf
      refine lv_aload_n hx hb dX12_box_26 rfl (lv_at hl 0 rfl) ?_
      refine lv_bipush (v := -3) hx hb dX12_box_27 (by decide) ?_
      obtain ⟨r8, I6, hc7, hf⟩ := nm_sd2 hf
      refine nm_calli (nm_runV (X := X) (nl := moN) (k_X12_no (hf := hc7)) hx hb hml hown hts hs0 hK hZ hH tw_1214 tw_1211 tw_1213 (sw_X12_no) tw_9 hd_X12_no mo_n0 mo_k0 (by decide) rfl rfl rfl ⟨Nat.le_trans (Nat.le_of_ble_eq_true rfl) hRf, Nat.le_trans (Nat.le_of_ble_eq_true rfl) hRl⟩ rfl hl.1 rfl (Nat.le_of_ble_eq_true rfl) dX12_box_29 ⟨Nat.zero_le _, Nat.zero_le _⟩) hH (fun H locs hH => ?_)
      have hH : nm_H D Y (fun q => s0 ≤ q) s.heap X moN ad (I6, nJ0, moZ) H locs := hH
      exact nm_iret hx hb hr hlocks hQ hH (congrArg Prod.fst (Option.some.inj hf)) (congrArg (fun q => (q.2, nJ0, moZ)) (Option.some.inj hf)) dX12_box_32
    · have hf := nm_ie c5 hf
      refine lv_iload_n hx hb dX12_box_19 rfl (lv_at hl 3 rfl) ?_
      refine nm_calli (nm_runS (X := X) (nl := moN) (k_X12_isSquare (hf := (rfl : f_X12_isSquare x3 = _))) hx hb hml hown hts hs0 hK hZ hH tw_1210 tw_1208 tw_1209 tw_9 hd_X12_isSquare rfl rfl ⟨Nat.le_trans (Nat.le_of_ble_eq_true rfl) hRf, Nat.le_trans (Nat.le_of_ble_eq_true rfl) hRl⟩ rfl hl.1 rfl (Nat.le_of_ble_eq_true rfl) dX12_box_20 ⟨Nat.zero_le _, Nat.zero_le _⟩) hH (fun H locs hH => ?_)
      have hH : nm_H D Y (fun q => s0 ≤ q) s.heap X moN ad (I, nJ0, moZ) H locs := hH
      refine lv_if_ne (tgt := 33) hx hb dX12_box_23 (by decide) (fun c9 => ?_) (fun c9 => ?_)
      · have hf := nm_ie c9 hf
        refine lv_iload hx hb dX12_box_33 (lv_at hl 4 rfl) ?_
        refine lv_if_lt (tgt := 70) hx hb dX12_box_35 (by decide) (fun c10 => ?_) (fun c10 => ?_)
        · have hf := nm_it c10 hf
          refine lv_aload_n hx hb dX12_box_70 rfl (lv_at hl 0 rfl) ?_
          refine lv_bipush (v := -7) hx hb dX12_box_71 (by decide) ?_
          obtain ⟨r13, I11, hc12, hf⟩ := nm_sd2 hf
          refine nm_calli (nm_runV (X := X) (nl := moN) (k_X12_no (hf := hc12)) hx hb hml hown hts hs0 hK hZ hH tw_1214 tw_1211 tw_1213 (sw_X12_no) tw_9 hd_X12_no mo_n0 mo_k0 (by decide) rfl rfl rfl ⟨Nat.le_trans (Nat.le_of_ble_eq_true rfl) hRf, Nat.le_trans (Nat.le_of_ble_eq_true rfl) hRl⟩ rfl hl.1 rfl (Nat.le_of_ble_eq_true rfl) dX12_box_73 ⟨Nat.zero_le _, Nat.zero_le _⟩) hH (fun H locs hH => ?_)
          have hH : nm_H D Y (fun q => s0 ≤ q) s.heap X moN ad (I11, nJ0, moZ) H locs := hH
          exact nm_iret hx hb hr hlocks hQ hH (congrArg Prod.fst (Option.some.inj hf)) (congrArg (fun q => (q.2, nJ0, moZ)) (Option.some.inj hf)) dX12_box_76
        · have hf := nm_ie c10 hf
          refine lv_iload hx hb dX12_box_38 (lv_at hl 4 rfl) ?_
          refine lv_bipush (v := 100) hx hb dX12_box_40 (by decide) ?_
          refine lv_idiv hx hb dX12_box_42 (by decide) ?_
          refine lv_i2l hx hb dX12_box_43 rfl ?_
          refine lv_lconst (v := 1) hx hb dX12_box_44 (by decide) ?_
          refine lv_ldc2 hx hb hown (hts _ tw_1215) dX12_box_45 ?_
          refine nm_calli (nm_runS (X := X) (nl := moN) (k_X12_isIn (hf := (rfl : f_X12_isIn ((x4 / (100 : Int32)).toInt64) (1 : Int64) (64 : Int64) = _))) hx hb hml hown hts hs0 hK hZ hH tw_1207 tw_1205 tw_1206 tw_9 hd_X12_isIn rfl rfl ⟨Nat.le_trans (Nat.le_of_ble_eq_true rfl) hRf, Nat.le_trans (Nat.le_of_ble_eq_true rfl) hRl⟩ rfl hl.1 rfl (Nat.le_of_ble_eq_true rfl) dX12_box_48 ⟨Nat.zero_le _, Nat.zero_le _⟩) hH (fun H locs hH => ?_)
          have hH : nm_H D Y (fun q => s0 ≤ q) s.heap X moN ad (I, nJ0, moZ) H locs := hH
          refine lv_if_eq (tgt := 70) hx hb dX12_box_51 (by decide) (fun c14 => ?_) (fun c14 => ?_)
          · have hf := nm_it c14 hf
            refine lv_aload_n hx hb dX12_box_70 rfl (lv_at hl 0 rfl) ?_
            refine lv_bipush (v := -7) hx hb dX12_box_71 (by decide) ?_
            obtain ⟨r17, I15, hc16, hf⟩ := nm_sd2 hf
            refine nm_calli (nm_runV (X := X) (nl := moN) (k_X12_no (hf := hc16)) hx hb hml hown hts hs0 hK hZ hH tw_1214 tw_1211 tw_1213 (sw_X12_no) tw_9 hd_X12_no mo_n0 mo_k0 (by decide) rfl rfl rfl ⟨Nat.le_trans (Nat.le_of_ble_eq_true rfl) hRf, Nat.le_trans (Nat.le_of_ble_eq_true rfl) hRl⟩ rfl hl.1 rfl (Nat.le_of_ble_eq_true rfl) dX12_box_73 ⟨Nat.zero_le _, Nat.zero_le _⟩) hH (fun H locs hH => ?_)
            have hH : nm_H D Y (fun q => s0 ≤ q) s.heap X moN ad (I15, nJ0, moZ) H locs := hH
            exact nm_iret hx hb hr hlocks hQ hH (congrArg Prod.fst (Option.some.inj hf)) (congrArg (fun q => (q.2, nJ0, moZ)) (Option.some.inj hf)) dX12_box_76
          · have hf := nm_ie c14 hf
            refine lv_iload hx hb dX12_box_54 (lv_at hl 4 rfl) ?_
            refine lv_bipush (v := 100) hx hb dX12_box_56 (by decide) ?_
            refine lv_irem hx hb dX12_box_58 (by decide) ?_
            refine lv_i2l hx hb dX12_box_59 rfl ?_
            refine lv_lconst (v := 1) hx hb dX12_box_60 (by decide) ?_
            refine lv_ldc2 hx hb hown (hts _ tw_1215) dX12_box_61 ?_
            refine nm_calli (nm_runS (X := X) (nl := moN) (k_X12_isIn (hf := (rfl : f_X12_isIn ((x4 - x4 / (100 : Int32) * (100 : Int32)).toInt64) (1 : Int64) (64 : Int64) = _))) hx hb hml hown hts hs0 hK hZ hH tw_1207 tw_1205 tw_1206 tw_9 hd_X12_isIn rfl rfl ⟨Nat.le_trans (Nat.le_of_ble_eq_true rfl) hRf, Nat.le_trans (Nat.le_of_ble_eq_true rfl) hRl⟩ rfl hl.1 rfl (Nat.le_of_ble_eq_true rfl) dX12_box_64 ⟨Nat.zero_le _, Nat.zero_le _⟩) hH (fun H locs hH => ?_)
            have hH : nm_H D Y (fun q => s0 ≤ q) s.heap X moN ad (I, nJ0, moZ) H locs := hH
            refine lv_if_ne (tgt := 77) hx hb dX12_box_67 (by decide) (fun c18 => ?_) (fun c18 => ?_)
            · have hf := nm_ie c18 hf
              refine lv_aload_n hx hb dX12_box_77 rfl (lv_at hl 0 rfl) ?_
              refine lv_iload_n hx hb dX12_box_78 rfl (lv_at hl 1 rfl) ?_
              refine lv_iload hx hb dX12_box_79 (lv_at hl 5 rfl) ?_
              refine lv_if_eq (tgt := 88) hx hb dX12_box_81 (by decide) (fun c19 => ?_) (fun c19 => ?_)
              · have hf := nm_it c19 hf
                refine lv_iconst (v := 0) hx hb dX12_box_88 (by decide) ?_
                refine lv_iload_n hx hb dX12_box_89 rfl (lv_at hl 2 rfl) ?_
                refine lv_iload_n hx hb dX12_box_90 rfl (lv_at hl 3 rfl) ?_
                refine lv_iload hx hb dX12_box_91 (lv_at hl 4 rfl) ?_
                refine lv_iconst (v := 0) hx hb dX12_box_93 (by decide) ?_
                obtain ⟨r22, I20, hc21, hf⟩ := nm_sd2 hf
                refine nm_calli (nm_runV (X := X) (nl := moN) (k_X12_adds (hf := hc21)) hx hb hml hown hts hs0 hK hZ hH tw_1219 tw_1216 tw_1218 (sw_X12_adds) tw_9 hd_X12_adds mo_n0 mo_k0 (by decide) rfl rfl rfl ⟨Nat.le_trans (Nat.le_of_ble_eq_true rfl) hRf, Nat.le_trans (Nat.le_of_ble_eq_true rfl) hRl⟩ rfl hl.1 rfl (Nat.le_of_ble_eq_true rfl) dX12_box_94 ⟨Nat.zero_le _, Nat.zero_le _⟩) hH (fun H locs hH => ?_)
                have hH : nm_H D Y (fun q => s0 ≤ q) s.heap X moN ad (I20, nJ0, moZ) H locs := hH
                exact nm_iret hx hb hr hlocks hQ hH (congrArg Prod.fst (Option.some.inj hf)) (congrArg (fun q => (q.2, nJ0, moZ)) (Option.some.inj hf)) dX12_box_97
              · have hf := nm_ie c19 hf
                refine lv_iconst (v := 1) hx hb dX12_box_84 (by decide) ?_
                refine lv_goto (tgt := 89) hx hb dX12_box_85 (by decide) ?_
                refine lv_iload_n hx hb dX12_box_89 rfl (lv_at hl 2 rfl) ?_
                refine lv_iload_n hx hb dX12_box_90 rfl (lv_at hl 3 rfl) ?_
                refine lv_iload hx hb dX12_box_91 (lv_at hl 4 rfl) ?_
                refine lv_iconst (v := 0) hx hb dX12_box_93 (by decide) ?_
                obtain ⟨r25, I23, hc24, hf⟩ := nm_sd2 hf
                refine nm_calli (nm_runV (X := X) (nl := moN) (k_X12_adds (hf := hc24)) hx hb hml hown hts hs0 hK hZ hH tw_1219 tw_1216 tw_1218 (sw_X12_adds) tw_9 hd_X12_adds mo_n0 mo_k0 (by decide) rfl rfl rfl ⟨Nat.le_trans (Nat.le_of_ble_eq_true rfl) hRf, Nat.le_trans (Nat.le_of_ble_eq_true rfl) hRl⟩ rfl hl.1 rfl (Nat.le_of_ble_eq_true rfl) dX12_box_94 ⟨Nat.zero_le _, Nat.zero_le _⟩) hH (fun H locs hH => ?_)
                have hH : nm_H D Y (fun q => s0 ≤ q) s.heap X moN ad (I23, nJ0, moZ) H locs := hH
                exact nm_iret hx hb hr hlocks hQ hH (congrArg Prod.fst (Option.some.inj hf)) (congrArg (fun q => (q.2, nJ0, moZ)) (Option.some.inj hf)) dX12_box_97
            · have hf := nm_it c18 hf
              refine lv_aload_n hx hb dX12_box_70 rfl (lv_at hl 0 rfl) ?_
              refine lv_bipush (v := -7) hx hb dX12_box_71 (by decide) ?_
              obtain ⟨r28, I26, hc27, hf⟩ := nm_sd2 hf
              refine nm_calli (nm_runV (X := X) (nl := moN) (k_X12_no (hf := hc27)) hx hb hml hown hts hs0 hK hZ hH tw_1214 tw_1211 tw_1213 (sw_X12_no) tw_9 hd_X12_no mo_n0 mo_k0 (by decide) rfl rfl rfl ⟨Nat.le_trans (Nat.le_of_ble_eq_true rfl) hRf, Nat.le_trans (Nat.le_of_ble_eq_true rfl) hRl⟩ rfl hl.1 rfl (Nat.le_of_ble_eq_true rfl) dX12_box_73 ⟨Nat.zero_le _, Nat.zero_le _⟩) hH (fun H locs hH => ?_)
              have hH : nm_H D Y (fun q => s0 ≤ q) s.heap X moN ad (I26, nJ0, moZ) H locs := hH
              exact nm_iret hx hb hr hlocks hQ hH (congrArg Prod.fst (Option.some.inj hf)) (congrArg (fun q => (q.2, nJ0, moZ)) (Option.some.inj hf)) dX12_box_76
      · have hf := nm_it c9 hf
        refine lv_aload_n hx hb dX12_box_26 rfl (lv_at hl 0 rfl) ?_
        refine lv_bipush (v := -3) hx hb dX12_box_27 (by decide) ?_
        obtain ⟨r31, I29, hc30, hf⟩ := nm_sd2 hf
        refine nm_calli (nm_runV (X := X) (nl := moN) (k_X12_no (hf := hc30)) hx hb hml hown hts hs0 hK hZ hH tw_1214 tw_1211 tw_1213 (sw_X12_no) tw_9 hd_X12_no mo_n0 mo_k0 (by decide) rfl rfl rfl ⟨Nat.le_trans (Nat.le_of_ble_eq_true rfl) hRf, Nat.le_trans (Nat.le_of_ble_eq_true rfl) hRl⟩ rfl hl.1 rfl (Nat.le_of_ble_eq_true rfl) dX12_box_29 ⟨Nat.zero_le _, Nat.zero_le _⟩) hH (fun H locs hH => ?_)
        have hH : nm_H D Y (fun q => s0 ≤ q) s.heap X moN ad (I29, nJ0, moZ) H locs := hH
        exact nm_iret hx hb hr hlocks hQ hH (congrArg Prod.fst (Option.some.inj hf)) (congrArg (fun q => (q.2, nJ0, moZ)) (Option.some.inj hf)) dX12_box_32
def f_X12_path_J65 (x1 : Int32) (x2 : Int32) (x3 : Int32) (x4 : Int32) (x5 : Int32) (I : nm_I) : Option (Int32 × nm_I) :=
(if (f_X12_isIn x5.toInt64 (1 : Int64) (9 : Int64)) = 0 then
nm_s2 (f_X12_no (-7 : Int32) I) fun r20 I18 =>
some (r20, I18)
else
nm_s2 (f_X12_adds x1 (2 : Int32) x2 x3 x4 x5 I) fun r17 I15 =>
some (r17, I15))
def f_X12_path (x1 : Int32) (x2 : Int32) (x3 : Int32) (x4 : Int32) (x5 : Int32) (I : nm_I) : Option (Int32 × nm_I) :=
(if (f_X12_isCell x1) = 0 then
nm_s2 (f_X12_no (-3 : Int32) I) fun r4 I2 =>
some (r4, I2)
else
(if (f_X12_isIn x2.toInt64 (0 : Int64) (7 : Int64)) = 0 then
nm_s2 (f_X12_no (-3 : Int32) I) fun r8 I6 =>
some (r8, I6)
else
(if (f_X12_isSquare x3) = 0 then
nm_s2 (f_X12_no (-3 : Int32) I) fun r12 I10 =>
some (r12, I10)
else
(if (f_X12_isSquare x4) = 0 then
nm_s2 (f_X12_no (-3 : Int32) I) fun r28 I26 =>
some (r28, I26)
else
(if (x3 / (64 : Int32)) = (x4 / (64 : Int32)) then
f_X12_path_J65 x1 x2 x3 x4 x5 I
else
(if (x3 - x3 / (64 : Int32) * (64 : Int32)) = (x4 - x4 / (64 : Int32) * (64 : Int32)) then
f_X12_path_J65 x1 x2 x3 x4 x5 I
else
nm_s2 (f_X12_no (-7 : Int32) I) fun r25 I23 =>
some (r25, I23)))))))
set_option maxHeartbeats 4000000 in
set_option maxRecDepth 100000 in
theorem k_X12_path {l : Launch} {D : va_G} {Y : nm_Y} {s0 : Nat} {X : va_W} {ad : Nat → Nat}  {x1 : Int32} {x2 : Int32} {x3 : Int32} {x4 : Int32} {x5 : Int32} {I : nm_I} {r0 : Int32} {M0 : nm_I} (hf : f_X12_path x1 x2 x3 x4 x5 I = some (r0, M0)) :
    nm_Met l yX12_path cX12_path 6 (some .int) { frames := 2, cells := 0, slots := 0, locals := 48 } [.ref (ad 0), .int x1, .int x2, .int x3, .int x4, .int x5] D Y s0 (nm_W Y X moN ad (I, nJ0, moZ)) (nm_Qi D s0 r0 (nm_W Y X moN ad (M0, nJ0, moZ))) 0 0 := by
  refine nm_of (by decide) (Nat.le_of_ble_eq_true rfl) ?_
  intro p e R s m args below meth c Q ls hx hb hr hlocks hml hown hts hs0 hK hZ hRf hRl hRc hRs hQ hP hD hl
  have hH : nm_H D Y (fun q => s0 ≤ q) s.heap X moN ad (I, nJ0, moZ) s.heap [] := ⟨hP, hD, va_S.rf⟩
  have hl : lv_has ls 6 [(0, .ref (ad 0)), (1, .int x1), (2, .int x2), (3, .int x3), (4, .int x4), (5, .int x5)] := hl
  unfold f_X12_path at hf
  refine lv_iload_n hx hb dX12_path_0 rfl (lv_at hl 1 rfl) ?_
  refine nm_calli (nm_runS (X := X) (nl := moN) (k_X12_isCell (hf := (rfl : f_X12_isCell x1 = _))) hx hb hml hown hts hs0 hK hZ hH tw_1203 tw_1201 tw_1202 tw_9 hd_X12_isCell rfl rfl ⟨Nat.le_trans (Nat.le_of_ble_eq_true rfl) hRf, Nat.le_trans (Nat.le_of_ble_eq_true rfl) hRl⟩ rfl hl.1 rfl (Nat.le_of_ble_eq_true rfl) dX12_path_1 ⟨Nat.zero_le _, Nat.zero_le _⟩) hH (fun H locs hH => ?_)
  have hH : nm_H D Y (fun q => s0 ≤ q) s.heap X moN ad (I, nJ0, moZ) H locs := hH
  refine lv_if_eq (tgt := 34) hx hb dX12_path_4 (by decide) (fun c1 => ?_) (fun c1 => ?_)
  · have hf := nm_it c1 hf
    refine lv_aload_n hx hb dX12_path_34 rfl (lv_at hl 0 rfl) ?_
    refine lv_bipush (v := -3) hx hb dX12_path_35 (by decide) ?_
    obtain ⟨r4, I2, hc3, hf⟩ := nm_sd2 hf
    refine nm_calli (nm_runV (X := X) (nl := moN) (k_X12_no (hf := hc3)) hx hb hml hown hts hs0 hK hZ hH tw_1214 tw_1211 tw_1213 (sw_X12_no) tw_9 hd_X12_no mo_n0 mo_k0 (by decide) rfl rfl rfl ⟨Nat.le_trans (Nat.le_of_ble_eq_true rfl) hRf, Nat.le_trans (Nat.le_of_ble_eq_true rfl) hRl⟩ rfl hl.1 rfl (Nat.le_of_ble_eq_true rfl) dX12_path_37 ⟨Nat.zero_le _, Nat.zero_le _⟩) hH (fun H locs hH => ?_)
    have hH : nm_H D Y (fun q => s0 ≤ q) s.heap X moN ad (I2, nJ0, moZ) H locs := hH
    exact nm_iret hx hb hr hlocks hQ hH (congrArg Prod.fst (Option.some.inj hf)) (congrArg (fun q => (q.2, nJ0, moZ)) (Option.some.inj hf)) dX12_path_40
  · have hf := nm_ie c1 hf
    refine lv_iload_n hx hb dX12_path_7 rfl (lv_at hl 2 rfl) ?_
    refine lv_i2l hx hb dX12_path_8 rfl ?_
    refine lv_lconst (v := 0) hx hb dX12_path_9 (by decide) ?_
    refine lv_ldc2 hx hb hown (hts _ tw_1204) dX12_path_10 ?_
    refine nm_calli (nm_runS (X := X) (nl := moN) (k_X12_isIn (hf := (rfl : f_X12_isIn x2.toInt64 (0 : Int64) (7 : Int64) = _))) hx hb hml hown hts hs0 hK hZ hH tw_1207 tw_1205 tw_1206 tw_9 hd_X12_isIn rfl rfl ⟨Nat.le_trans (Nat.le_of_ble_eq_true rfl) hRf, Nat.le_trans (Nat.le_of_ble_eq_true rfl) hRl⟩ rfl hl.1 rfl (Nat.le_of_ble_eq_true rfl) dX12_path_13 ⟨Nat.zero_le _, Nat.zero_le _⟩) hH (fun H locs hH => ?_)
    have hH : nm_H D Y (fun q => s0 ≤ q) s.heap X moN ad (I, nJ0, moZ) H locs := hH
    refine lv_if_eq (tgt := 34) hx hb dX12_path_16 (by decide) (fun c5 => ?_) (fun c5 => ?_)
    · have hf := nm_it c5 hf
      refine lv_aload_n hx hb dX12_path_34 rfl (lv_at hl 0 rfl) ?_
      refine lv_bipush (v := -3) hx hb dX12_path_35 (by decide) ?_
      obtain ⟨r8, I6, hc7, hf⟩ := nm_sd2 hf
      refine nm_calli (nm_runV (X := X) (nl := moN) (k_X12_no (hf := hc7)) hx hb hml hown hts hs0 hK hZ hH tw_1214 tw_1211 tw_1213 (sw_X12_no) tw_9 hd_X12_no mo_n0 mo_k0 (by decide) rfl rfl rfl ⟨Nat.le_trans (Nat.le_of_ble_eq_true rfl) hRf, Nat.le_trans (Nat.le_of_ble_eq_true rfl) hRl⟩ rfl hl.1 rfl (Nat.le_of_ble_eq_true rfl) dX12_path_37 ⟨Nat.zero_le _, Nat.zero_le _⟩) hH (fun H locs hH => ?_)
      have hH : nm_H D Y (fun q => s0 ≤ q) s.heap X moN ad (I6, nJ0, moZ) H locs := hH
      exact nm_iret hx hb hr hlocks hQ hH (congrArg Prod.fst (Option.some.inj hf)) (congrArg (fun q => (q.2, nJ0, moZ)) (Option.some.inj hf)) dX12_path_40
    · have hf := nm_ie c5 hf
      refine lv_iload_n hx hb dX12_path_19 rfl (lv_at hl 3 rfl) ?_
      refine nm_calli (nm_runS (X := X) (nl := moN) (k_X12_isSquare (hf := (rfl : f_X12_isSquare x3 = _))) hx hb hml hown hts hs0 hK hZ hH tw_1210 tw_1208 tw_1209 tw_9 hd_X12_isSquare rfl rfl ⟨Nat.le_trans (Nat.le_of_ble_eq_true rfl) hRf, Nat.le_trans (Nat.le_of_ble_eq_true rfl) hRl⟩ rfl hl.1 rfl (Nat.le_of_ble_eq_true rfl) dX12_path_20 ⟨Nat.zero_le _, Nat.zero_le _⟩) hH (fun H locs hH => ?_)
      have hH : nm_H D Y (fun q => s0 ≤ q) s.heap X moN ad (I, nJ0, moZ) H locs := hH
      refine lv_if_eq (tgt := 34) hx hb dX12_path_23 (by decide) (fun c9 => ?_) (fun c9 => ?_)
      · have hf := nm_it c9 hf
        refine lv_aload_n hx hb dX12_path_34 rfl (lv_at hl 0 rfl) ?_
        refine lv_bipush (v := -3) hx hb dX12_path_35 (by decide) ?_
        obtain ⟨r12, I10, hc11, hf⟩ := nm_sd2 hf
        refine nm_calli (nm_runV (X := X) (nl := moN) (k_X12_no (hf := hc11)) hx hb hml hown hts hs0 hK hZ hH tw_1214 tw_1211 tw_1213 (sw_X12_no) tw_9 hd_X12_no mo_n0 mo_k0 (by decide) rfl rfl rfl ⟨Nat.le_trans (Nat.le_of_ble_eq_true rfl) hRf, Nat.le_trans (Nat.le_of_ble_eq_true rfl) hRl⟩ rfl hl.1 rfl (Nat.le_of_ble_eq_true rfl) dX12_path_37 ⟨Nat.zero_le _, Nat.zero_le _⟩) hH (fun H locs hH => ?_)
        have hH : nm_H D Y (fun q => s0 ≤ q) s.heap X moN ad (I10, nJ0, moZ) H locs := hH
        exact nm_iret hx hb hr hlocks hQ hH (congrArg Prod.fst (Option.some.inj hf)) (congrArg (fun q => (q.2, nJ0, moZ)) (Option.some.inj hf)) dX12_path_40
      · have hf := nm_ie c9 hf
        refine lv_iload hx hb dX12_path_26 (lv_at hl 4 rfl) ?_
        refine nm_calli (nm_runS (X := X) (nl := moN) (k_X12_isSquare (hf := (rfl : f_X12_isSquare x4 = _))) hx hb hml hown hts hs0 hK hZ hH tw_1210 tw_1208 tw_1209 tw_9 hd_X12_isSquare rfl rfl ⟨Nat.le_trans (Nat.le_of_ble_eq_true rfl) hRf, Nat.le_trans (Nat.le_of_ble_eq_true rfl) hRl⟩ rfl hl.1 rfl (Nat.le_of_ble_eq_true rfl) dX12_path_28 ⟨Nat.zero_le _, Nat.zero_le _⟩) hH (fun H locs hH => ?_)
        have hH : nm_H D Y (fun q => s0 ≤ q) s.heap X moN ad (I, nJ0, moZ) H locs := hH
        refine lv_if_ne (tgt := 41) hx hb dX12_path_31 (by decide) (fun c13 => ?_) (fun c13 => ?_)
        · have hf := nm_ie c13 hf
          refine lv_iload_n hx hb dX12_path_41 rfl (lv_at hl 3 rfl) ?_
          refine lv_bipush (v := 64) hx hb dX12_path_42 (by decide) ?_
          refine lv_idiv hx hb dX12_path_44 (by decide) ?_
          refine lv_iload hx hb dX12_path_45 (lv_at hl 4 rfl) ?_
          refine lv_bipush (v := 64) hx hb dX12_path_47 (by decide) ?_
          refine lv_idiv hx hb dX12_path_49 (by decide) ?_
          have hJ65 : ∀  (H : Heap) (locs : List Loc) (ls : Array Slot), nm_H D Y (fun q => s0 ≤ q) s.heap X moN ad (I, nJ0, moZ) H locs → lv_has ls 6 [(0, .ref (ad 0)), (1, .int x1), (2, .int x2), (3, .int x3), (4, .int x4), (5, .int x5)] → f_X12_path_J65 x1 x2 x3 x4 x5 I = some (r0, M0) → W p l e R s m args below meth c H locs 0 0 Q (F0 m 65 ls []) := by
            intro  H locs ls hH hl hf
            unfold f_X12_path_J65 at hf
            refine lv_iload hx hb dX12_path_65 (lv_at hl 5 rfl) ?_
            refine lv_i2l hx hb dX12_path_67 rfl ?_
            refine lv_lconst (v := 1) hx hb dX12_path_68 (by decide) ?_
            refine lv_ldc2 hx hb hown (hts _ tw_1224) dX12_path_69 ?_
            refine nm_calli (nm_runS (X := X) (nl := moN) (k_X12_isIn (hf := (rfl : f_X12_isIn x5.toInt64 (1 : Int64) (9 : Int64) = _))) hx hb hml hown hts hs0 hK hZ hH tw_1207 tw_1205 tw_1206 tw_9 hd_X12_isIn rfl rfl ⟨Nat.le_trans (Nat.le_of_ble_eq_true rfl) hRf, Nat.le_trans (Nat.le_of_ble_eq_true rfl) hRl⟩ rfl hl.1 rfl (Nat.le_of_ble_eq_true rfl) dX12_path_72 ⟨Nat.zero_le _, Nat.zero_le _⟩) hH (fun H locs hH => ?_)
            have hH : nm_H D Y (fun q => s0 ≤ q) s.heap X moN ad (I, nJ0, moZ) H locs := hH
            refine lv_if_ne (tgt := 85) hx hb dX12_path_75 (by decide) (fun c14 => ?_) (fun c14 => ?_)
            · have hf := nm_ie c14 hf
              refine lv_aload_n hx hb dX12_path_85 rfl (lv_at hl 0 rfl) ?_
              refine lv_iload_n hx hb dX12_path_86 rfl (lv_at hl 1 rfl) ?_
              refine lv_iconst (v := 2) hx hb dX12_path_87 (by decide) ?_
              refine lv_iload_n hx hb dX12_path_88 rfl (lv_at hl 2 rfl) ?_
              refine lv_iload_n hx hb dX12_path_89 rfl (lv_at hl 3 rfl) ?_
              refine lv_iload hx hb dX12_path_90 (lv_at hl 4 rfl) ?_
              refine lv_iload hx hb dX12_path_92 (lv_at hl 5 rfl) ?_
              obtain ⟨r17, I15, hc16, hf⟩ := nm_sd2 hf
              refine nm_calli (nm_runV (X := X) (nl := moN) (k_X12_adds (hf := hc16)) hx hb hml hown hts hs0 hK hZ hH tw_1219 tw_1216 tw_1218 (sw_X12_adds) tw_9 hd_X12_adds mo_n0 mo_k0 (by decide) rfl rfl rfl ⟨Nat.le_trans (Nat.le_of_ble_eq_true rfl) hRf, Nat.le_trans (Nat.le_of_ble_eq_true rfl) hRl⟩ rfl hl.1 rfl (Nat.le_of_ble_eq_true rfl) dX12_path_94 ⟨Nat.zero_le _, Nat.zero_le _⟩) hH (fun H locs hH => ?_)
              have hH : nm_H D Y (fun q => s0 ≤ q) s.heap X moN ad (I15, nJ0, moZ) H locs := hH
              exact nm_iret hx hb hr hlocks hQ hH (congrArg Prod.fst (Option.some.inj hf)) (congrArg (fun q => (q.2, nJ0, moZ)) (Option.some.inj hf)) dX12_path_97
            · have hf := nm_it c14 hf
              refine lv_aload_n hx hb dX12_path_78 rfl (lv_at hl 0 rfl) ?_
              refine lv_bipush (v := -7) hx hb dX12_path_79 (by decide) ?_
              obtain ⟨r20, I18, hc19, hf⟩ := nm_sd2 hf
              refine nm_calli (nm_runV (X := X) (nl := moN) (k_X12_no (hf := hc19)) hx hb hml hown hts hs0 hK hZ hH tw_1214 tw_1211 tw_1213 (sw_X12_no) tw_9 hd_X12_no mo_n0 mo_k0 (by decide) rfl rfl rfl ⟨Nat.le_trans (Nat.le_of_ble_eq_true rfl) hRf, Nat.le_trans (Nat.le_of_ble_eq_true rfl) hRl⟩ rfl hl.1 rfl (Nat.le_of_ble_eq_true rfl) dX12_path_81 ⟨Nat.zero_le _, Nat.zero_le _⟩) hH (fun H locs hH => ?_)
              have hH : nm_H D Y (fun q => s0 ≤ q) s.heap X moN ad (I18, nJ0, moZ) H locs := hH
              exact nm_iret hx hb hr hlocks hQ hH (congrArg Prod.fst (Option.some.inj hf)) (congrArg (fun q => (q.2, nJ0, moZ)) (Option.some.inj hf)) dX12_path_84
          refine lv_icmp_eq (tgt := 65) hx hb dX12_path_50 (by decide) (fun c21 => ?_) (fun c21 => ?_)
          · have hf := nm_it c21 hf
            exact hJ65  _ _ _ hH (lv_sub hl [0, 1, 2, 3, 4, 5] rfl) hf
          · have hf := nm_ie c21 hf
            refine lv_iload_n hx hb dX12_path_53 rfl (lv_at hl 3 rfl) ?_
            refine lv_bipush (v := 64) hx hb dX12_path_54 (by decide) ?_
            refine lv_irem hx hb dX12_path_56 (by decide) ?_
            refine lv_iload hx hb dX12_path_57 (lv_at hl 4 rfl) ?_
            refine lv_bipush (v := 64) hx hb dX12_path_59 (by decide) ?_
            refine lv_irem hx hb dX12_path_61 (by decide) ?_
            refine lv_icmp_ne (tgt := 78) hx hb dX12_path_62 (by decide) (fun c22 => ?_) (fun c22 => ?_)
            · have hf := nm_ie c22 hf
              refine lv_aload_n hx hb dX12_path_78 rfl (lv_at hl 0 rfl) ?_
              refine lv_bipush (v := -7) hx hb dX12_path_79 (by decide) ?_
              obtain ⟨r25, I23, hc24, hf⟩ := nm_sd2 hf
              refine nm_calli (nm_runV (X := X) (nl := moN) (k_X12_no (hf := hc24)) hx hb hml hown hts hs0 hK hZ hH tw_1214 tw_1211 tw_1213 (sw_X12_no) tw_9 hd_X12_no mo_n0 mo_k0 (by decide) rfl rfl rfl ⟨Nat.le_trans (Nat.le_of_ble_eq_true rfl) hRf, Nat.le_trans (Nat.le_of_ble_eq_true rfl) hRl⟩ rfl hl.1 rfl (Nat.le_of_ble_eq_true rfl) dX12_path_81 ⟨Nat.zero_le _, Nat.zero_le _⟩) hH (fun H locs hH => ?_)
              have hH : nm_H D Y (fun q => s0 ≤ q) s.heap X moN ad (I23, nJ0, moZ) H locs := hH
              exact nm_iret hx hb hr hlocks hQ hH (congrArg Prod.fst (Option.some.inj hf)) (congrArg (fun q => (q.2, nJ0, moZ)) (Option.some.inj hf)) dX12_path_84
            · have hf := nm_it c22 hf
              exact hJ65  _ _ _ hH (lv_sub hl [0, 1, 2, 3, 4, 5] rfl) hf
        · have hf := nm_it c13 hf
          refine lv_aload_n hx hb dX12_path_34 rfl (lv_at hl 0 rfl) ?_
          refine lv_bipush (v := -3) hx hb dX12_path_35 (by decide) ?_
          obtain ⟨r28, I26, hc27, hf⟩ := nm_sd2 hf
          refine nm_calli (nm_runV (X := X) (nl := moN) (k_X12_no (hf := hc27)) hx hb hml hown hts hs0 hK hZ hH tw_1214 tw_1211 tw_1213 (sw_X12_no) tw_9 hd_X12_no mo_n0 mo_k0 (by decide) rfl rfl rfl ⟨Nat.le_trans (Nat.le_of_ble_eq_true rfl) hRf, Nat.le_trans (Nat.le_of_ble_eq_true rfl) hRl⟩ rfl hl.1 rfl (Nat.le_of_ble_eq_true rfl) dX12_path_37 ⟨Nat.zero_le _, Nat.zero_le _⟩) hH (fun H locs hH => ?_)
          have hH : nm_H D Y (fun q => s0 ≤ q) s.heap X moN ad (I26, nJ0, moZ) H locs := hH
          exact nm_iret hx hb hr hlocks hQ hH (congrArg Prod.fst (Option.some.inj hf)) (congrArg (fun q => (q.2, nJ0, moZ)) (Option.some.inj hf)) dX12_path_40
def f_X12_text (x1 : Int32) (x2 : Int32) (x3 : Int32) (x4 : Int32) (I : nm_I) : Option (Int32 × nm_I) :=
(if (f_X12_isCell x1) = 0 then
nm_s2 (f_X12_no (-3 : Int32) I) fun r4 I2 =>
some (r4, I2)
else
(if (f_X12_isLayer x2) = 0 then
nm_s2 (f_X12_no (-3 : Int32) I) fun r8 I6 =>
some (r8, I6)
else
(if (f_X12_isSquare x3) = 0 then
nm_s2 (f_X12_no (-3 : Int32) I) fun r19 I17 =>
some (r19, I17)
else
(if (f_X12_isIn x4.toInt64 (1 : Int64) (999 : Int64)) = 0 then
nm_s2 (f_X12_no (-7 : Int32) I) fun r16 I14 =>
some (r16, I14)
else
nm_s2 (f_X12_adds x1 (3 : Int32) x2 x3 x4 (0 : Int32) I) fun r13 I11 =>
some (r13, I11)))))
set_option maxHeartbeats 4000000 in
set_option maxRecDepth 100000 in
theorem k_X12_text {l : Launch} {D : va_G} {Y : nm_Y} {s0 : Nat} {X : va_W} {ad : Nat → Nat}  {x1 : Int32} {x2 : Int32} {x3 : Int32} {x4 : Int32} {I : nm_I} {r0 : Int32} {M0 : nm_I} (hf : f_X12_text x1 x2 x3 x4 I = some (r0, M0)) :
    nm_Met l yX12_text cX12_text 5 (some .int) { frames := 2, cells := 0, slots := 0, locals := 48 } [.ref (ad 0), .int x1, .int x2, .int x3, .int x4] D Y s0 (nm_W Y X moN ad (I, nJ0, moZ)) (nm_Qi D s0 r0 (nm_W Y X moN ad (M0, nJ0, moZ))) 0 0 := by
  refine nm_of (by decide) (Nat.le_of_ble_eq_true rfl) ?_
  intro p e R s m args below meth c Q ls hx hb hr hlocks hml hown hts hs0 hK hZ hRf hRl hRc hRs hQ hP hD hl
  have hH : nm_H D Y (fun q => s0 ≤ q) s.heap X moN ad (I, nJ0, moZ) s.heap [] := ⟨hP, hD, va_S.rf⟩
  have hl : lv_has ls 5 [(0, .ref (ad 0)), (1, .int x1), (2, .int x2), (3, .int x3), (4, .int x4)] := hl
  unfold f_X12_text at hf
  refine lv_iload_n hx hb dX12_text_0 rfl (lv_at hl 1 rfl) ?_
  refine nm_calli (nm_runS (X := X) (nl := moN) (k_X12_isCell (hf := (rfl : f_X12_isCell x1 = _))) hx hb hml hown hts hs0 hK hZ hH tw_1203 tw_1201 tw_1202 tw_9 hd_X12_isCell rfl rfl ⟨Nat.le_trans (Nat.le_of_ble_eq_true rfl) hRf, Nat.le_trans (Nat.le_of_ble_eq_true rfl) hRl⟩ rfl hl.1 rfl (Nat.le_of_ble_eq_true rfl) dX12_text_1 ⟨Nat.zero_le _, Nat.zero_le _⟩) hH (fun H locs hH => ?_)
  have hH : nm_H D Y (fun q => s0 ≤ q) s.heap X moN ad (I, nJ0, moZ) H locs := hH
  refine lv_if_eq (tgt := 21) hx hb dX12_text_4 (by decide) (fun c1 => ?_) (fun c1 => ?_)
  · have hf := nm_it c1 hf
    refine lv_aload_n hx hb dX12_text_21 rfl (lv_at hl 0 rfl) ?_
    refine lv_bipush (v := -3) hx hb dX12_text_22 (by decide) ?_
    obtain ⟨r4, I2, hc3, hf⟩ := nm_sd2 hf
    refine nm_calli (nm_runV (X := X) (nl := moN) (k_X12_no (hf := hc3)) hx hb hml hown hts hs0 hK hZ hH tw_1214 tw_1211 tw_1213 (sw_X12_no) tw_9 hd_X12_no mo_n0 mo_k0 (by decide) rfl rfl rfl ⟨Nat.le_trans (Nat.le_of_ble_eq_true rfl) hRf, Nat.le_trans (Nat.le_of_ble_eq_true rfl) hRl⟩ rfl hl.1 rfl (Nat.le_of_ble_eq_true rfl) dX12_text_24 ⟨Nat.zero_le _, Nat.zero_le _⟩) hH (fun H locs hH => ?_)
    have hH : nm_H D Y (fun q => s0 ≤ q) s.heap X moN ad (I2, nJ0, moZ) H locs := hH
    exact nm_iret hx hb hr hlocks hQ hH (congrArg Prod.fst (Option.some.inj hf)) (congrArg (fun q => (q.2, nJ0, moZ)) (Option.some.inj hf)) dX12_text_27
  · have hf := nm_ie c1 hf
    refine lv_iload_n hx hb dX12_text_7 rfl (lv_at hl 2 rfl) ?_
    refine nm_calli (nm_runS (X := X) (nl := moN) (k_X12_isLayer (hf := (rfl : f_X12_isLayer x2 = _))) hx hb hml hown hts hs0 hK hZ hH tw_1231 tw_1229 tw_1230 tw_9 hd_X12_isLayer rfl rfl ⟨Nat.le_trans (Nat.le_of_ble_eq_true rfl) hRf, Nat.le_trans (Nat.le_of_ble_eq_true rfl) hRl⟩ rfl hl.1 rfl (Nat.le_of_ble_eq_true rfl) dX12_text_8 ⟨Nat.zero_le _, Nat.zero_le _⟩) hH (fun H locs hH => ?_)
    have hH : nm_H D Y (fun q => s0 ≤ q) s.heap X moN ad (I, nJ0, moZ) H locs := hH
    refine lv_if_eq (tgt := 21) hx hb dX12_text_11 (by decide) (fun c5 => ?_) (fun c5 => ?_)
    · have hf := nm_it c5 hf
      refine lv_aload_n hx hb dX12_text_21 rfl (lv_at hl 0 rfl) ?_
      refine lv_bipush (v := -3) hx hb dX12_text_22 (by decide) ?_
      obtain ⟨r8, I6, hc7, hf⟩ := nm_sd2 hf
      refine nm_calli (nm_runV (X := X) (nl := moN) (k_X12_no (hf := hc7)) hx hb hml hown hts hs0 hK hZ hH tw_1214 tw_1211 tw_1213 (sw_X12_no) tw_9 hd_X12_no mo_n0 mo_k0 (by decide) rfl rfl rfl ⟨Nat.le_trans (Nat.le_of_ble_eq_true rfl) hRf, Nat.le_trans (Nat.le_of_ble_eq_true rfl) hRl⟩ rfl hl.1 rfl (Nat.le_of_ble_eq_true rfl) dX12_text_24 ⟨Nat.zero_le _, Nat.zero_le _⟩) hH (fun H locs hH => ?_)
      have hH : nm_H D Y (fun q => s0 ≤ q) s.heap X moN ad (I6, nJ0, moZ) H locs := hH
      exact nm_iret hx hb hr hlocks hQ hH (congrArg Prod.fst (Option.some.inj hf)) (congrArg (fun q => (q.2, nJ0, moZ)) (Option.some.inj hf)) dX12_text_27
    · have hf := nm_ie c5 hf
      refine lv_iload_n hx hb dX12_text_14 rfl (lv_at hl 3 rfl) ?_
      refine nm_calli (nm_runS (X := X) (nl := moN) (k_X12_isSquare (hf := (rfl : f_X12_isSquare x3 = _))) hx hb hml hown hts hs0 hK hZ hH tw_1210 tw_1208 tw_1209 tw_9 hd_X12_isSquare rfl rfl ⟨Nat.le_trans (Nat.le_of_ble_eq_true rfl) hRf, Nat.le_trans (Nat.le_of_ble_eq_true rfl) hRl⟩ rfl hl.1 rfl (Nat.le_of_ble_eq_true rfl) dX12_text_15 ⟨Nat.zero_le _, Nat.zero_le _⟩) hH (fun H locs hH => ?_)
      have hH : nm_H D Y (fun q => s0 ≤ q) s.heap X moN ad (I, nJ0, moZ) H locs := hH
      refine lv_if_ne (tgt := 28) hx hb dX12_text_18 (by decide) (fun c9 => ?_) (fun c9 => ?_)
      · have hf := nm_ie c9 hf
        refine lv_iload hx hb dX12_text_28 (lv_at hl 4 rfl) ?_
        refine lv_i2l hx hb dX12_text_30 rfl ?_
        refine lv_lconst (v := 1) hx hb dX12_text_31 (by decide) ?_
        refine lv_ldc2 hx hb hown (hts _ tw_1232) dX12_text_32 ?_
        refine nm_calli (nm_runS (X := X) (nl := moN) (k_X12_isIn (hf := (rfl : f_X12_isIn x4.toInt64 (1 : Int64) (999 : Int64) = _))) hx hb hml hown hts hs0 hK hZ hH tw_1207 tw_1205 tw_1206 tw_9 hd_X12_isIn rfl rfl ⟨Nat.le_trans (Nat.le_of_ble_eq_true rfl) hRf, Nat.le_trans (Nat.le_of_ble_eq_true rfl) hRl⟩ rfl hl.1 rfl (Nat.le_of_ble_eq_true rfl) dX12_text_35 ⟨Nat.zero_le _, Nat.zero_le _⟩) hH (fun H locs hH => ?_)
        have hH : nm_H D Y (fun q => s0 ≤ q) s.heap X moN ad (I, nJ0, moZ) H locs := hH
        refine lv_if_ne (tgt := 48) hx hb dX12_text_38 (by decide) (fun c10 => ?_) (fun c10 => ?_)
        · have hf := nm_ie c10 hf
          refine lv_aload_n hx hb dX12_text_48 rfl (lv_at hl 0 rfl) ?_
          refine lv_iload_n hx hb dX12_text_49 rfl (lv_at hl 1 rfl) ?_
          refine lv_iconst (v := 3) hx hb dX12_text_50 (by decide) ?_
          refine lv_iload_n hx hb dX12_text_51 rfl (lv_at hl 2 rfl) ?_
          refine lv_iload_n hx hb dX12_text_52 rfl (lv_at hl 3 rfl) ?_
          refine lv_iload hx hb dX12_text_53 (lv_at hl 4 rfl) ?_
          refine lv_iconst (v := 0) hx hb dX12_text_55 (by decide) ?_
          obtain ⟨r13, I11, hc12, hf⟩ := nm_sd2 hf
          refine nm_calli (nm_runV (X := X) (nl := moN) (k_X12_adds (hf := hc12)) hx hb hml hown hts hs0 hK hZ hH tw_1219 tw_1216 tw_1218 (sw_X12_adds) tw_9 hd_X12_adds mo_n0 mo_k0 (by decide) rfl rfl rfl ⟨Nat.le_trans (Nat.le_of_ble_eq_true rfl) hRf, Nat.le_trans (Nat.le_of_ble_eq_true rfl) hRl⟩ rfl hl.1 rfl (Nat.le_of_ble_eq_true rfl) dX12_text_56 ⟨Nat.zero_le _, Nat.zero_le _⟩) hH (fun H locs hH => ?_)
          have hH : nm_H D Y (fun q => s0 ≤ q) s.heap X moN ad (I11, nJ0, moZ) H locs := hH
          exact nm_iret hx hb hr hlocks hQ hH (congrArg Prod.fst (Option.some.inj hf)) (congrArg (fun q => (q.2, nJ0, moZ)) (Option.some.inj hf)) dX12_text_59
        · have hf := nm_it c10 hf
          refine lv_aload_n hx hb dX12_text_41 rfl (lv_at hl 0 rfl) ?_
          refine lv_bipush (v := -7) hx hb dX12_text_42 (by decide) ?_
          obtain ⟨r16, I14, hc15, hf⟩ := nm_sd2 hf
          refine nm_calli (nm_runV (X := X) (nl := moN) (k_X12_no (hf := hc15)) hx hb hml hown hts hs0 hK hZ hH tw_1214 tw_1211 tw_1213 (sw_X12_no) tw_9 hd_X12_no mo_n0 mo_k0 (by decide) rfl rfl rfl ⟨Nat.le_trans (Nat.le_of_ble_eq_true rfl) hRf, Nat.le_trans (Nat.le_of_ble_eq_true rfl) hRl⟩ rfl hl.1 rfl (Nat.le_of_ble_eq_true rfl) dX12_text_44 ⟨Nat.zero_le _, Nat.zero_le _⟩) hH (fun H locs hH => ?_)
          have hH : nm_H D Y (fun q => s0 ≤ q) s.heap X moN ad (I14, nJ0, moZ) H locs := hH
          exact nm_iret hx hb hr hlocks hQ hH (congrArg Prod.fst (Option.some.inj hf)) (congrArg (fun q => (q.2, nJ0, moZ)) (Option.some.inj hf)) dX12_text_47
      · have hf := nm_it c9 hf
        refine lv_aload_n hx hb dX12_text_21 rfl (lv_at hl 0 rfl) ?_
        refine lv_bipush (v := -3) hx hb dX12_text_22 (by decide) ?_
        obtain ⟨r19, I17, hc18, hf⟩ := nm_sd2 hf
        refine nm_calli (nm_runV (X := X) (nl := moN) (k_X12_no (hf := hc18)) hx hb hml hown hts hs0 hK hZ hH tw_1214 tw_1211 tw_1213 (sw_X12_no) tw_9 hd_X12_no mo_n0 mo_k0 (by decide) rfl rfl rfl ⟨Nat.le_trans (Nat.le_of_ble_eq_true rfl) hRf, Nat.le_trans (Nat.le_of_ble_eq_true rfl) hRl⟩ rfl hl.1 rfl (Nat.le_of_ble_eq_true rfl) dX12_text_24 ⟨Nat.zero_le _, Nat.zero_le _⟩) hH (fun H locs hH => ?_)
        have hH : nm_H D Y (fun q => s0 ≤ q) s.heap X moN ad (I17, nJ0, moZ) H locs := hH
        exact nm_iret hx hb hr hlocks hQ hH (congrArg Prod.fst (Option.some.inj hf)) (congrArg (fun q => (q.2, nJ0, moZ)) (Option.some.inj hf)) dX12_text_27
def f_X12_put (x1 : Int32) (x2 : Int32) (x3 : Int32) (x4 : Int32) (x5 : Int32) (I : nm_I) : Option (Int32 × nm_I) :=
(if (f_X12_isCell x1) = 0 then
nm_s2 (f_X12_no (-3 : Int32) I) fun r4 I2 =>
some (r4, I2)
else
(if (f_X12_isIn x2.toInt64 (0 : Int64) ((x1 - (1 : Int32)).toInt64)) = 0 then
nm_s2 (f_X12_no (-3 : Int32) I) fun r8 I6 =>
some (r8, I6)
else
(if (f_X12_isSquare x3) = 0 then
nm_s2 (f_X12_no (-3 : Int32) I) fun r23 I21 =>
some (r23, I21)
else
(if (f_X12_isIn x4.toInt64 (0 : Int64) (3 : Int64)) = 0 then
nm_s2 (f_X12_no (-7 : Int32) I) fun r20 I18 =>
some (r20, I18)
else
(if x5 = 0 then
nm_s2 (f_X12_adds x1 (4 : Int32) x2 x3 x4 (0 : Int32) I) fun r14 I12 =>
some (r14, I12)
else
nm_s2 (f_X12_adds x1 (4 : Int32) x2 x3 x4 (1 : Int32) I) fun r17 I15 =>
some (r17, I15))))))
set_option maxHeartbeats 4000000 in
set_option maxRecDepth 100000 in
theorem k_X12_put {l : Launch} {D : va_G} {Y : nm_Y} {s0 : Nat} {X : va_W} {ad : Nat → Nat}  {x1 : Int32} {x2 : Int32} {x3 : Int32} {x4 : Int32} {x5 : Int32} {I : nm_I} {r0 : Int32} {M0 : nm_I} (hf : f_X12_put x1 x2 x3 x4 x5 I = some (r0, M0)) :
    nm_Met l yX12_put cX12_put 6 (some .int) { frames := 2, cells := 0, slots := 0, locals := 48 } [.ref (ad 0), .int x1, .int x2, .int x3, .int x4, .int x5] D Y s0 (nm_W Y X moN ad (I, nJ0, moZ)) (nm_Qi D s0 r0 (nm_W Y X moN ad (M0, nJ0, moZ))) 0 0 := by
  refine nm_of (by decide) (Nat.le_of_ble_eq_true rfl) ?_
  intro p e R s m args below meth c Q ls hx hb hr hlocks hml hown hts hs0 hK hZ hRf hRl hRc hRs hQ hP hD hl
  have hH : nm_H D Y (fun q => s0 ≤ q) s.heap X moN ad (I, nJ0, moZ) s.heap [] := ⟨hP, hD, va_S.rf⟩
  have hl : lv_has ls 6 [(0, .ref (ad 0)), (1, .int x1), (2, .int x2), (3, .int x3), (4, .int x4), (5, .int x5)] := hl
  unfold f_X12_put at hf
  refine lv_iload_n hx hb dX12_put_0 rfl (lv_at hl 1 rfl) ?_
  refine nm_calli (nm_runS (X := X) (nl := moN) (k_X12_isCell (hf := (rfl : f_X12_isCell x1 = _))) hx hb hml hown hts hs0 hK hZ hH tw_1203 tw_1201 tw_1202 tw_9 hd_X12_isCell rfl rfl ⟨Nat.le_trans (Nat.le_of_ble_eq_true rfl) hRf, Nat.le_trans (Nat.le_of_ble_eq_true rfl) hRl⟩ rfl hl.1 rfl (Nat.le_of_ble_eq_true rfl) dX12_put_1 ⟨Nat.zero_le _, Nat.zero_le _⟩) hH (fun H locs hH => ?_)
  have hH : nm_H D Y (fun q => s0 ≤ q) s.heap X moN ad (I, nJ0, moZ) H locs := hH
  refine lv_if_eq (tgt := 27) hx hb dX12_put_4 (by decide) (fun c1 => ?_) (fun c1 => ?_)
  · have hf := nm_it c1 hf
    refine lv_aload_n hx hb dX12_put_27 rfl (lv_at hl 0 rfl) ?_
    refine lv_bipush (v := -3) hx hb dX12_put_28 (by decide) ?_
    obtain ⟨r4, I2, hc3, hf⟩ := nm_sd2 hf
    refine nm_calli (nm_runV (X := X) (nl := moN) (k_X12_no (hf := hc3)) hx hb hml hown hts hs0 hK hZ hH tw_1214 tw_1211 tw_1213 (sw_X12_no) tw_9 hd_X12_no mo_n0 mo_k0 (by decide) rfl rfl rfl ⟨Nat.le_trans (Nat.le_of_ble_eq_true rfl) hRf, Nat.le_trans (Nat.le_of_ble_eq_true rfl) hRl⟩ rfl hl.1 rfl (Nat.le_of_ble_eq_true rfl) dX12_put_30 ⟨Nat.zero_le _, Nat.zero_le _⟩) hH (fun H locs hH => ?_)
    have hH : nm_H D Y (fun q => s0 ≤ q) s.heap X moN ad (I2, nJ0, moZ) H locs := hH
    exact nm_iret hx hb hr hlocks hQ hH (congrArg Prod.fst (Option.some.inj hf)) (congrArg (fun q => (q.2, nJ0, moZ)) (Option.some.inj hf)) dX12_put_33
  · have hf := nm_ie c1 hf
    refine lv_iload_n hx hb dX12_put_7 rfl (lv_at hl 2 rfl) ?_
    refine lv_i2l hx hb dX12_put_8 rfl ?_
    refine lv_lconst (v := 0) hx hb dX12_put_9 (by decide) ?_
    refine lv_iload_n hx hb dX12_put_10 rfl (lv_at hl 1 rfl) ?_
    refine lv_iconst (v := 1) hx hb dX12_put_11 (by decide) ?_
    refine lv_isub hx hb dX12_put_12 ?_
    refine lv_i2l hx hb dX12_put_13 rfl ?_
    refine nm_calli (nm_runS (X := X) (nl := moN) (k_X12_isIn (hf := (rfl : f_X12_isIn x2.toInt64 (0 : Int64) ((x1 - (1 : Int32)).toInt64) = _))) hx hb hml hown hts hs0 hK hZ hH tw_1207 tw_1205 tw_1206 tw_9 hd_X12_isIn rfl rfl ⟨Nat.le_trans (Nat.le_of_ble_eq_true rfl) hRf, Nat.le_trans (Nat.le_of_ble_eq_true rfl) hRl⟩ rfl hl.1 rfl (Nat.le_of_ble_eq_true rfl) dX12_put_14 ⟨Nat.zero_le _, Nat.zero_le _⟩) hH (fun H locs hH => ?_)
    have hH : nm_H D Y (fun q => s0 ≤ q) s.heap X moN ad (I, nJ0, moZ) H locs := hH
    refine lv_if_eq (tgt := 27) hx hb dX12_put_17 (by decide) (fun c5 => ?_) (fun c5 => ?_)
    · have hf := nm_it c5 hf
      refine lv_aload_n hx hb dX12_put_27 rfl (lv_at hl 0 rfl) ?_
      refine lv_bipush (v := -3) hx hb dX12_put_28 (by decide) ?_
      obtain ⟨r8, I6, hc7, hf⟩ := nm_sd2 hf
      refine nm_calli (nm_runV (X := X) (nl := moN) (k_X12_no (hf := hc7)) hx hb hml hown hts hs0 hK hZ hH tw_1214 tw_1211 tw_1213 (sw_X12_no) tw_9 hd_X12_no mo_n0 mo_k0 (by decide) rfl rfl rfl ⟨Nat.le_trans (Nat.le_of_ble_eq_true rfl) hRf, Nat.le_trans (Nat.le_of_ble_eq_true rfl) hRl⟩ rfl hl.1 rfl (Nat.le_of_ble_eq_true rfl) dX12_put_30 ⟨Nat.zero_le _, Nat.zero_le _⟩) hH (fun H locs hH => ?_)
      have hH : nm_H D Y (fun q => s0 ≤ q) s.heap X moN ad (I6, nJ0, moZ) H locs := hH
      exact nm_iret hx hb hr hlocks hQ hH (congrArg Prod.fst (Option.some.inj hf)) (congrArg (fun q => (q.2, nJ0, moZ)) (Option.some.inj hf)) dX12_put_33
    · have hf := nm_ie c5 hf
      refine lv_iload_n hx hb dX12_put_20 rfl (lv_at hl 3 rfl) ?_
      refine nm_calli (nm_runS (X := X) (nl := moN) (k_X12_isSquare (hf := (rfl : f_X12_isSquare x3 = _))) hx hb hml hown hts hs0 hK hZ hH tw_1210 tw_1208 tw_1209 tw_9 hd_X12_isSquare rfl rfl ⟨Nat.le_trans (Nat.le_of_ble_eq_true rfl) hRf, Nat.le_trans (Nat.le_of_ble_eq_true rfl) hRl⟩ rfl hl.1 rfl (Nat.le_of_ble_eq_true rfl) dX12_put_21 ⟨Nat.zero_le _, Nat.zero_le _⟩) hH (fun H locs hH => ?_)
      have hH : nm_H D Y (fun q => s0 ≤ q) s.heap X moN ad (I, nJ0, moZ) H locs := hH
      refine lv_if_ne (tgt := 34) hx hb dX12_put_24 (by decide) (fun c9 => ?_) (fun c9 => ?_)
      · have hf := nm_ie c9 hf
        refine lv_iload hx hb dX12_put_34 (lv_at hl 4 rfl) ?_
        refine lv_i2l hx hb dX12_put_36 rfl ?_
        refine lv_lconst (v := 0) hx hb dX12_put_37 (by decide) ?_
        refine lv_ldc2 hx hb hown (hts _ tw_1237) dX12_put_38 ?_
        refine nm_calli (nm_runS (X := X) (nl := moN) (k_X12_isIn (hf := (rfl : f_X12_isIn x4.toInt64 (0 : Int64) (3 : Int64) = _))) hx hb hml hown hts hs0 hK hZ hH tw_1207 tw_1205 tw_1206 tw_9 hd_X12_isIn rfl rfl ⟨Nat.le_trans (Nat.le_of_ble_eq_true rfl) hRf, Nat.le_trans (Nat.le_of_ble_eq_true rfl) hRl⟩ rfl hl.1 rfl (Nat.le_of_ble_eq_true rfl) dX12_put_41 ⟨Nat.zero_le _, Nat.zero_le _⟩) hH (fun H locs hH => ?_)
        have hH : nm_H D Y (fun q => s0 ≤ q) s.heap X moN ad (I, nJ0, moZ) H locs := hH
        refine lv_if_ne (tgt := 54) hx hb dX12_put_44 (by decide) (fun c10 => ?_) (fun c10 => ?_)
        · have hf := nm_ie c10 hf
          refine lv_aload_n hx hb dX12_put_54 rfl (lv_at hl 0 rfl) ?_
          refine lv_iload_n hx hb dX12_put_55 rfl (lv_at hl 1 rfl) ?_
          refine lv_iconst (v := 4) hx hb dX12_put_56 (by decide) ?_
          refine lv_iload_n hx hb dX12_put_57 rfl (lv_at hl 2 rfl) ?_
          refine lv_iload_n hx hb dX12_put_58 rfl (lv_at hl 3 rfl) ?_
          refine lv_iload hx hb dX12_put_59 (lv_at hl 4 rfl) ?_
          refine lv_iload hx hb dX12_put_61 (lv_at hl 5 rfl) ?_
          refine lv_if_eq (tgt := 70) hx hb dX12_put_63 (by decide) (fun c11 => ?_) (fun c11 => ?_)
          · have hf := nm_it c11 hf
            refine lv_iconst (v := 0) hx hb dX12_put_70 (by decide) ?_
            obtain ⟨r14, I12, hc13, hf⟩ := nm_sd2 hf
            refine nm_calli (nm_runV (X := X) (nl := moN) (k_X12_adds (hf := hc13)) hx hb hml hown hts hs0 hK hZ hH tw_1219 tw_1216 tw_1218 (sw_X12_adds) tw_9 hd_X12_adds mo_n0 mo_k0 (by decide) rfl rfl rfl ⟨Nat.le_trans (Nat.le_of_ble_eq_true rfl) hRf, Nat.le_trans (Nat.le_of_ble_eq_true rfl) hRl⟩ rfl hl.1 rfl (Nat.le_of_ble_eq_true rfl) dX12_put_71 ⟨Nat.zero_le _, Nat.zero_le _⟩) hH (fun H locs hH => ?_)
            have hH : nm_H D Y (fun q => s0 ≤ q) s.heap X moN ad (I12, nJ0, moZ) H locs := hH
            exact nm_iret hx hb hr hlocks hQ hH (congrArg Prod.fst (Option.some.inj hf)) (congrArg (fun q => (q.2, nJ0, moZ)) (Option.some.inj hf)) dX12_put_74
          · have hf := nm_ie c11 hf
            refine lv_iconst (v := 1) hx hb dX12_put_66 (by decide) ?_
            refine lv_goto (tgt := 71) hx hb dX12_put_67 (by decide) ?_
            obtain ⟨r17, I15, hc16, hf⟩ := nm_sd2 hf
            refine nm_calli (nm_runV (X := X) (nl := moN) (k_X12_adds (hf := hc16)) hx hb hml hown hts hs0 hK hZ hH tw_1219 tw_1216 tw_1218 (sw_X12_adds) tw_9 hd_X12_adds mo_n0 mo_k0 (by decide) rfl rfl rfl ⟨Nat.le_trans (Nat.le_of_ble_eq_true rfl) hRf, Nat.le_trans (Nat.le_of_ble_eq_true rfl) hRl⟩ rfl hl.1 rfl (Nat.le_of_ble_eq_true rfl) dX12_put_71 ⟨Nat.zero_le _, Nat.zero_le _⟩) hH (fun H locs hH => ?_)
            have hH : nm_H D Y (fun q => s0 ≤ q) s.heap X moN ad (I15, nJ0, moZ) H locs := hH
            exact nm_iret hx hb hr hlocks hQ hH (congrArg Prod.fst (Option.some.inj hf)) (congrArg (fun q => (q.2, nJ0, moZ)) (Option.some.inj hf)) dX12_put_74
        · have hf := nm_it c10 hf
          refine lv_aload_n hx hb dX12_put_47 rfl (lv_at hl 0 rfl) ?_
          refine lv_bipush (v := -7) hx hb dX12_put_48 (by decide) ?_
          obtain ⟨r20, I18, hc19, hf⟩ := nm_sd2 hf
          refine nm_calli (nm_runV (X := X) (nl := moN) (k_X12_no (hf := hc19)) hx hb hml hown hts hs0 hK hZ hH tw_1214 tw_1211 tw_1213 (sw_X12_no) tw_9 hd_X12_no mo_n0 mo_k0 (by decide) rfl rfl rfl ⟨Nat.le_trans (Nat.le_of_ble_eq_true rfl) hRf, Nat.le_trans (Nat.le_of_ble_eq_true rfl) hRl⟩ rfl hl.1 rfl (Nat.le_of_ble_eq_true rfl) dX12_put_50 ⟨Nat.zero_le _, Nat.zero_le _⟩) hH (fun H locs hH => ?_)
          have hH : nm_H D Y (fun q => s0 ≤ q) s.heap X moN ad (I18, nJ0, moZ) H locs := hH
          exact nm_iret hx hb hr hlocks hQ hH (congrArg Prod.fst (Option.some.inj hf)) (congrArg (fun q => (q.2, nJ0, moZ)) (Option.some.inj hf)) dX12_put_53
      · have hf := nm_it c9 hf
        refine lv_aload_n hx hb dX12_put_27 rfl (lv_at hl 0 rfl) ?_
        refine lv_bipush (v := -3) hx hb dX12_put_28 (by decide) ?_
        obtain ⟨r23, I21, hc22, hf⟩ := nm_sd2 hf
        refine nm_calli (nm_runV (X := X) (nl := moN) (k_X12_no (hf := hc22)) hx hb hml hown hts hs0 hK hZ hH tw_1214 tw_1211 tw_1213 (sw_X12_no) tw_9 hd_X12_no mo_n0 mo_k0 (by decide) rfl rfl rfl ⟨Nat.le_trans (Nat.le_of_ble_eq_true rfl) hRf, Nat.le_trans (Nat.le_of_ble_eq_true rfl) hRl⟩ rfl hl.1 rfl (Nat.le_of_ble_eq_true rfl) dX12_put_30 ⟨Nat.zero_le _, Nat.zero_le _⟩) hH (fun H locs hH => ?_)
        have hH : nm_H D Y (fun q => s0 ≤ q) s.heap X moN ad (I21, nJ0, moZ) H locs := hH
        exact nm_iret hx hb hr hlocks hQ hH (congrArg Prod.fst (Option.some.inj hf)) (congrArg (fun q => (q.2, nJ0, moZ)) (Option.some.inj hf)) dX12_put_33
def f_X12_isShape (x1 : Int32) (x2 : Int32) (I : nm_I) : Option Int32 :=
(if (f_X12_isCell x1) = 0 then
some (0 : Int32)
else
(if x2 < 0 then
some (0 : Int32)
else
nm_c x1 8 (
(if (I 8 x1.toNatClampNeg) ≤ x2 then
some (0 : Int32)
else
some (1 : Int32)))))
set_option maxHeartbeats 4000000 in
set_option maxRecDepth 100000 in
theorem k_X12_isShape {l : Launch} {D : va_G} {Y : nm_Y} {s0 : Nat} {X : va_W} {ad : Nat → Nat}  {x1 : Int32} {x2 : Int32} {I : nm_I} {r0 : Int32} (hf : f_X12_isShape x1 x2 I = some r0) :
    nm_Met l yX12_isShape cX12_isShape 3 (some .boolean) { frames := 1, cells := 0, slots := 0, locals := 20 } [.ref (ad 0), .int x1, .int x2] D Y s0 (nm_W Y X moN ad (I, nJ0, moZ)) (nm_Qi D s0 r0 (nm_W Y X moN ad (I, nJ0, moZ))) 0 0 := by
  refine nm_of (by decide) (Nat.le_of_ble_eq_true rfl) ?_
  intro p e R s m args below meth c Q ls hx hb hr hlocks hml hown hts hs0 hK hZ hRf hRl hRc hRs hQ hP hD hl
  have hH : nm_H D Y (fun q => s0 ≤ q) s.heap X moN ad (I, nJ0, moZ) s.heap [] := ⟨hP, hD, va_S.rf⟩
  have hl : lv_has ls 3 [(0, .ref (ad 0)), (1, .int x1), (2, .int x2)] := hl
  unfold f_X12_isShape at hf
  refine lv_iload_n hx hb dX12_isShape_0 rfl (lv_at hl 1 rfl) ?_
  refine nm_calli (nm_runS (X := X) (nl := moN) (k_X12_isCell (hf := (rfl : f_X12_isCell x1 = _))) hx hb hml hown hts hs0 hK hZ hH tw_1203 tw_1201 tw_1202 tw_9 hd_X12_isCell rfl rfl ⟨Nat.le_trans (Nat.le_of_ble_eq_true rfl) hRf, Nat.le_trans (Nat.le_of_ble_eq_true rfl) hRl⟩ rfl hl.1 rfl (Nat.le_of_ble_eq_true rfl) dX12_isShape_1 ⟨Nat.zero_le _, Nat.zero_le _⟩) hH (fun H locs hH => ?_)
  have hH : nm_H D Y (fun q => s0 ≤ q) s.heap X moN ad (I, nJ0, moZ) H locs := hH
  refine lv_if_eq (tgt := 25) hx hb dX12_isShape_4 (by decide) (fun c1 => ?_) (fun c1 => ?_)
  · have hf := nm_it c1 hf
    refine lv_iconst (v := 0) hx hb dX12_isShape_25 (by decide) ?_
    exact nm_zret hx hb hr hlocks hQ hH rfl (Option.some.inj hf) rfl dX12_isShape_26
  · have hf := nm_ie c1 hf
    refine lv_iload_n hx hb dX12_isShape_7 rfl (lv_at hl 2 rfl) ?_
    refine lv_if_lt (tgt := 25) hx hb dX12_isShape_8 (by decide) (fun c2 => ?_) (fun c2 => ?_)
    · have hf := nm_it c2 hf
      refine lv_iconst (v := 0) hx hb dX12_isShape_25 (by decide) ?_
      exact nm_zret hx hb hr hlocks hQ hH rfl (Option.some.inj hf) rfl dX12_isShape_26
    · have hf := nm_ie c2 hf
      refine lv_iload_n hx hb dX12_isShape_11 rfl (lv_at hl 2 rfl) ?_
      refine lv_aload_n hx hb dX12_isShape_12 rfl (lv_at hl 0 rfl) ?_
      refine gf_12_7 hK hx hb hts hown hH mo_n0 mo_k0 (hts _ tw_963) (fun _ h9 => h9) dX12_isShape_13 ?_
      refine lv_iload_n hx hb dX12_isShape_16 rfl (lv_at hl 1 rfl) ?_
      obtain ⟨hi3, hf⟩ := nm_chk hf
      refine nm_iald hx hb hK hH mo_n8 mo_k8 mo_l8 hi3 dX12_isShape_17 ?_
      refine lv_icmp_ge (tgt := 25) hx hb dX12_isShape_18 (by decide) (fun c4 => ?_) (fun c4 => ?_)
      · have hf := nm_it c4 hf
        refine lv_iconst (v := 0) hx hb dX12_isShape_25 (by decide) ?_
        exact nm_zret hx hb hr hlocks hQ hH rfl (Option.some.inj hf) rfl dX12_isShape_26
      · have hf := nm_ie c4 hf
        refine lv_iconst (v := 1) hx hb dX12_isShape_21 (by decide) ?_
        refine lv_goto (tgt := 26) hx hb dX12_isShape_22 (by decide) ?_
        exact nm_zret hx hb hr hlocks hQ hH rfl (Option.some.inj hf) rfl dX12_isShape_26
def f_X12_isTimes (x0 : Int32) : Int32 :=
(if x0 < 0 then
(0 : Int32)
else
(if (f_X12_isIn ((x0 / (200 : Int32)).toInt64) (1 : Int64) (4 : Int64)) = 0 then
(0 : Int32)
else
(if (f_X12_isIn (((x0 - x0 / (200 : Int32) * (200 : Int32)) - (100 : Int32)).toInt64) (-63 : Int64) (63 : Int64)) = 0 then
(0 : Int32)
else
(1 : Int32))))
set_option maxHeartbeats 4000000 in
set_option maxRecDepth 100000 in
theorem k_X12_isTimes {l : Launch} {D : va_G} {Y : nm_Y} {s0 : Nat} {X : va_W} {ad : Nat → Nat}  {x0 : Int32} {I : nm_I} {r0 : Int32} (hf : f_X12_isTimes x0 = r0) :
    nm_Met l yX12_isTimes cX12_isTimes 1 (some .boolean) { frames := 1, cells := 0, slots := 0, locals := 25 } [.int x0] D Y s0 (nm_W Y X moN ad (I, nJ0, moZ)) (nm_Qi D s0 r0 (nm_W Y X moN ad (I, nJ0, moZ))) 0 0 := by
  refine nm_of (by decide) (Nat.le_of_ble_eq_true rfl) ?_
  intro p e R s m args below meth c Q ls hx hb hr hlocks hml hown hts hs0 hK hZ hRf hRl hRc hRs hQ hP hD hl
  have hH : nm_H D Y (fun q => s0 ≤ q) s.heap X moN ad (I, nJ0, moZ) s.heap [] := ⟨hP, hD, va_S.rf⟩
  have hl : lv_has ls 1 [(0, .int x0)] := hl
  unfold f_X12_isTimes at hf
  refine lv_iload_n hx hb dX12_isTimes_0 rfl (lv_at hl 0 rfl) ?_
  refine lv_if_lt (tgt := 45) hx hb dX12_isTimes_1 (by decide) (fun c1 => ?_) (fun c1 => ?_)
  · have hf := nm_it c1 hf
    refine lv_iconst (v := 0) hx hb dX12_isTimes_45 (by decide) ?_
    exact nm_zret hx hb hr hlocks hQ hH rfl hf rfl dX12_isTimes_46
  · have hf := nm_ie c1 hf
    refine lv_iload_n hx hb dX12_isTimes_4 rfl (lv_at hl 0 rfl) ?_
    refine lv_sipush (v := 200) hx hb dX12_isTimes_5 (by decide) ?_
    refine lv_idiv hx hb dX12_isTimes_8 (by decide) ?_
    refine lv_i2l hx hb dX12_isTimes_9 rfl ?_
    refine lv_lconst (v := 1) hx hb dX12_isTimes_10 (by decide) ?_
    refine lv_ldc2 hx hb hown (hts _ tw_1249) dX12_isTimes_11 ?_
    refine nm_calli (nm_runS (X := X) (nl := moN) (k_X12_isIn (hf := (rfl : f_X12_isIn ((x0 / (200 : Int32)).toInt64) (1 : Int64) (4 : Int64) = _))) hx hb hml hown hts hs0 hK hZ hH tw_1207 tw_1205 tw_1206 tw_9 hd_X12_isIn rfl rfl ⟨Nat.le_trans (Nat.le_of_ble_eq_true rfl) hRf, Nat.le_trans (Nat.le_of_ble_eq_true rfl) hRl⟩ rfl hl.1 rfl (Nat.le_of_ble_eq_true rfl) dX12_isTimes_14 ⟨Nat.zero_le _, Nat.zero_le _⟩) hH (fun H locs hH => ?_)
    have hH : nm_H D Y (fun q => s0 ≤ q) s.heap X moN ad (I, nJ0, moZ) H locs := hH
    refine lv_if_eq (tgt := 45) hx hb dX12_isTimes_17 (by decide) (fun c2 => ?_) (fun c2 => ?_)
    · have hf := nm_it c2 hf
      refine lv_iconst (v := 0) hx hb dX12_isTimes_45 (by decide) ?_
      exact nm_zret hx hb hr hlocks hQ hH rfl hf rfl dX12_isTimes_46
    · have hf := nm_ie c2 hf
      refine lv_iload_n hx hb dX12_isTimes_20 rfl (lv_at hl 0 rfl) ?_
      refine lv_sipush (v := 200) hx hb dX12_isTimes_21 (by decide) ?_
      refine lv_irem hx hb dX12_isTimes_24 (by decide) ?_
      refine lv_bipush (v := 100) hx hb dX12_isTimes_25 (by decide) ?_
      refine lv_isub hx hb dX12_isTimes_27 ?_
      refine lv_i2l hx hb dX12_isTimes_28 rfl ?_
      refine lv_ldc2 hx hb hown (hts _ tw_1250) dX12_isTimes_29 ?_
      refine lv_ldc2 hx hb hown (hts _ tw_1251) dX12_isTimes_32 ?_
      refine nm_calli (nm_runS (X := X) (nl := moN) (k_X12_isIn (hf := (rfl : f_X12_isIn (((x0 - x0 / (200 : Int32) * (200 : Int32)) - (100 : Int32)).toInt64) (-63 : Int64) (63 : Int64) = _))) hx hb hml hown hts hs0 hK hZ hH tw_1207 tw_1205 tw_1206 tw_9 hd_X12_isIn rfl rfl ⟨Nat.le_trans (Nat.le_of_ble_eq_true rfl) hRf, Nat.le_trans (Nat.le_of_ble_eq_true rfl) hRl⟩ rfl hl.1 rfl (Nat.le_of_ble_eq_true rfl) dX12_isTimes_35 ⟨Nat.zero_le _, Nat.zero_le _⟩) hH (fun H locs hH => ?_)
      have hH : nm_H D Y (fun q => s0 ≤ q) s.heap X moN ad (I, nJ0, moZ) H locs := hH
      refine lv_if_eq (tgt := 45) hx hb dX12_isTimes_38 (by decide) (fun c3 => ?_) (fun c3 => ?_)
      · have hf := nm_it c3 hf
        refine lv_iconst (v := 0) hx hb dX12_isTimes_45 (by decide) ?_
        exact nm_zret hx hb hr hlocks hQ hH rfl hf rfl dX12_isTimes_46
      · have hf := nm_ie c3 hf
        refine lv_iconst (v := 1) hx hb dX12_isTimes_41 (by decide) ?_
        refine lv_goto (tgt := 46) hx hb dX12_isTimes_42 (by decide) ?_
        exact nm_zret hx hb hr hlocks hQ hH rfl hf rfl dX12_isTimes_46
def f_X12_times (x1 : Int32) (x2 : Int32) (x3 : Int32) (x4 : Int32) (I : nm_I) : Option (Int32 × nm_I) :=
nm_s1 (f_X12_isShape x1 x2 I) fun r1 =>
(if r1 = 0 then
nm_s2 (f_X12_no (-3 : Int32) I) fun r24 I22 =>
some (r24, I22)
else
nm_l (((16 : Int32) * x1) + x2) fun v4 =>
nm_c v4 128 (
(if (I 1 v4.toNatClampNeg) = (4 : Int32) then
(if (f_X12_isTimes x3) = 0 then
nm_s2 (f_X12_no (-7 : Int32) I) fun r10 I8 =>
some (r10, I8)
else
(if (f_X12_isTimes x4) = 0 then
nm_s2 (f_X12_no (-7 : Int32) I) fun r18 I16 =>
some (r18, I16)
else
nm_c v4 128 (
nm_l (nm_up I 6 v4.toNatClampNeg x3) fun I13 =>
nm_c v4 128 (
nm_l (nm_up I13 7 v4.toNatClampNeg x4) fun I15 =>
some ((1 : Int32), I15)))))
else
nm_s2 (f_X12_no (-5 : Int32) I) fun r21 I19 =>
some (r21, I19))))
set_option maxHeartbeats 4000000 in
set_option maxRecDepth 100000 in
theorem k_X12_times {l : Launch} {D : va_G} {Y : nm_Y} {s0 : Nat} {X : va_W} {ad : Nat → Nat}  {x1 : Int32} {x2 : Int32} {x3 : Int32} {x4 : Int32} {I : nm_I} {r0 : Int32} {M0 : nm_I} (hf : f_X12_times x1 x2 x3 x4 I = some (r0, M0)) :
    nm_Met l yX12_times cX12_times 6 (some .int) { frames := 2, cells := 0, slots := 0, locals := 45 } [.ref (ad 0), .int x1, .int x2, .int x3, .int x4] D Y s0 (nm_W Y X moN ad (I, nJ0, moZ)) (nm_Qi D s0 r0 (nm_W Y X moN ad (M0, nJ0, moZ))) 0 0 := by
  refine nm_of (by decide) (Nat.le_of_ble_eq_true rfl) ?_
  intro p e R s m args below meth c Q ls hx hb hr hlocks hml hown hts hs0 hK hZ hRf hRl hRc hRs hQ hP hD hl
  have hH : nm_H D Y (fun q => s0 ≤ q) s.heap X moN ad (I, nJ0, moZ) s.heap [] := ⟨hP, hD, va_S.rf⟩
  have hl : lv_has ls 6 [(0, .ref (ad 0)), (1, .int x1), (2, .int x2), (3, .int x3), (4, .int x4)] := hl
  unfold f_X12_times at hf
  refine lv_aload_n hx hb dX12_times_0 rfl (lv_at hl 0 rfl) ?_
  refine lv_iload_n hx hb dX12_times_1 rfl (lv_at hl 1 rfl) ?_
  refine lv_iload_n hx hb dX12_times_2 rfl (lv_at hl 2 rfl) ?_
  obtain ⟨r1, hc2, hf⟩ := nm_sd1 hf
  refine nm_calli (nm_runV (X := X) (nl := moN) (k_X12_isShape (hf := hc2)) hx hb hml hown hts hs0 hK hZ hH tw_1245 tw_1242 tw_1244 (sw_X12_isShape) tw_9 hd_X12_isShape mo_n0 mo_k0 (by decide) rfl rfl rfl ⟨Nat.le_trans (Nat.le_of_ble_eq_true rfl) hRf, Nat.le_trans (Nat.le_of_ble_eq_true rfl) hRl⟩ rfl hl.1 rfl (Nat.le_of_ble_eq_true rfl) dX12_times_3 ⟨Nat.zero_le _, Nat.zero_le _⟩) hH (fun H locs hH => ?_)
  have hH : nm_H D Y (fun q => s0 ≤ q) s.heap X moN ad (I, nJ0, moZ) H locs := hH
  refine lv_if_ne (tgt := 16) hx hb dX12_times_6 (by decide) (fun c3 => ?_) (fun c3 => ?_)
  · have hf := nm_ie c3 hf
    refine lv_bipush (v := 16) hx hb dX12_times_16 (by decide) ?_
    refine lv_iload_n hx hb dX12_times_18 rfl (lv_at hl 1 rfl) ?_
    refine lv_imul hx hb dX12_times_19 ?_
    refine lv_iload_n hx hb dX12_times_20 rfl (lv_at hl 2 rfl) ?_
    refine lv_iadd hx hb dX12_times_21 ?_
    obtain ⟨v4, ev4, hf⟩ := nm_let hf
    refine nm_topi ev4 ?_
    refine lv_istore (lv' := [(5, .int v4), (0, .ref (ad 0)), (1, .int x1), (2, .int x2), (3, .int x3), (4, .int x4)]) hx hb dX12_times_22 hl (by decide) rfl (fun ls hl => ?_)
    refine lv_aload_n hx hb dX12_times_24 rfl (lv_at hl 1 rfl) ?_
    refine gf_12_0 hK hx hb hts hown hH mo_n0 mo_k0 (hts _ tw_956) (fun _ h9 => h9) dX12_times_25 ?_
    refine lv_iload hx hb dX12_times_28 (lv_at hl 0 rfl) ?_
    obtain ⟨hi5, hf⟩ := nm_chk hf
    refine nm_iald hx hb hK hH mo_n1 mo_k1 mo_l1 hi5 dX12_times_30 ?_
    refine lv_iconst (v := 4) hx hb dX12_times_31 (by decide) ?_
    refine lv_icmp_eq (tgt := 42) hx hb dX12_times_32 (by decide) (fun c6 => ?_) (fun c6 => ?_)
    · have hf := nm_it c6 hf
      refine lv_iload_n hx hb dX12_times_42 rfl (lv_at hl 4 rfl) ?_
      refine nm_calli (nm_runS (X := X) (nl := moN) (k_X12_isTimes (hf := (rfl : f_X12_isTimes x3 = _))) hx hb hml hown hts hs0 hK hZ hH tw_1248 tw_1246 tw_1247 tw_9 hd_X12_isTimes rfl rfl ⟨Nat.le_trans (Nat.le_of_ble_eq_true rfl) hRf, Nat.le_trans (Nat.le_of_ble_eq_true rfl) hRl⟩ rfl hl.1 rfl (Nat.le_of_ble_eq_true rfl) dX12_times_43 ⟨Nat.zero_le _, Nat.zero_le _⟩) hH (fun H locs hH => ?_)
      have hH : nm_H D Y (fun q => s0 ≤ q) s.heap X moN ad (I, nJ0, moZ) H locs := hH
      refine lv_if_eq (tgt := 57) hx hb dX12_times_46 (by decide) (fun c7 => ?_) (fun c7 => ?_)
      · have hf := nm_it c7 hf
        refine lv_aload_n hx hb dX12_times_57 rfl (lv_at hl 1 rfl) ?_
        refine lv_bipush (v := -7) hx hb dX12_times_58 (by decide) ?_
        obtain ⟨r10, I8, hc9, hf⟩ := nm_sd2 hf
        refine nm_calli (nm_runV (X := X) (nl := moN) (k_X12_no (hf := hc9)) hx hb hml hown hts hs0 hK hZ hH tw_1214 tw_1211 tw_1213 (sw_X12_no) tw_9 hd_X12_no mo_n0 mo_k0 (by decide) rfl rfl rfl ⟨Nat.le_trans (Nat.le_of_ble_eq_true rfl) hRf, Nat.le_trans (Nat.le_of_ble_eq_true rfl) hRl⟩ rfl hl.1 rfl (Nat.le_of_ble_eq_true rfl) dX12_times_60 ⟨Nat.zero_le _, Nat.zero_le _⟩) hH (fun H locs hH => ?_)
        have hH : nm_H D Y (fun q => s0 ≤ q) s.heap X moN ad (I8, nJ0, moZ) H locs := hH
        exact nm_iret hx hb hr hlocks hQ hH (congrArg Prod.fst (Option.some.inj hf)) (congrArg (fun q => (q.2, nJ0, moZ)) (Option.some.inj hf)) dX12_times_63
      · have hf := nm_ie c7 hf
        refine lv_iload hx hb dX12_times_49 (lv_at hl 5 rfl) ?_
        refine nm_calli (nm_runS (X := X) (nl := moN) (k_X12_isTimes (hf := (rfl : f_X12_isTimes x4 = _))) hx hb hml hown hts hs0 hK hZ hH tw_1248 tw_1246 tw_1247 tw_9 hd_X12_isTimes rfl rfl ⟨Nat.le_trans (Nat.le_of_ble_eq_true rfl) hRf, Nat.le_trans (Nat.le_of_ble_eq_true rfl) hRl⟩ rfl hl.1 rfl (Nat.le_of_ble_eq_true rfl) dX12_times_51 ⟨Nat.zero_le _, Nat.zero_le _⟩) hH (fun H locs hH => ?_)
        have hH : nm_H D Y (fun q => s0 ≤ q) s.heap X moN ad (I, nJ0, moZ) H locs := hH
        refine lv_if_ne (tgt := 64) hx hb dX12_times_54 (by decide) (fun c11 => ?_) (fun c11 => ?_)
        · have hf := nm_ie c11 hf
          refine lv_aload_n hx hb dX12_times_64 rfl (lv_at hl 1 rfl) ?_
          refine gf_12_5 hK hx hb hts hown hH mo_n0 mo_k0 (hts _ tw_961) (fun _ h9 => h9) dX12_times_65 ?_
          refine lv_iload hx hb dX12_times_68 (lv_at hl 0 rfl) ?_
          refine lv_iload_n hx hb dX12_times_70 rfl (lv_at hl 4 rfl) ?_
          obtain ⟨hi12, hf⟩ := nm_chk hf
          obtain ⟨I13, eI13, hf⟩ := nm_let hf
          refine nm_iast hx hb hK hH mo_n6 mo_k6 mo_l6 hi12 dX12_times_71 (fun H locs hH => ?_)
          have hH : nm_H D Y (fun q => s0 ≤ q) s.heap X moN ad (I13, nJ0, moZ) H locs := by rw [eI13]; exact hH
          refine lv_aload_n hx hb dX12_times_72 rfl (lv_at hl 1 rfl) ?_
          refine gf_12_6 hK hx hb hts hown hH mo_n0 mo_k0 (hts _ tw_962) (fun _ h9 => h9) dX12_times_73 ?_
          refine lv_iload hx hb dX12_times_76 (lv_at hl 0 rfl) ?_
          refine lv_iload hx hb dX12_times_78 (lv_at hl 5 rfl) ?_
          obtain ⟨hi14, hf⟩ := nm_chk hf
          obtain ⟨I15, eI15, hf⟩ := nm_let hf
          refine nm_iast hx hb hK hH mo_n7 mo_k7 mo_l7 hi14 dX12_times_80 (fun H locs hH => ?_)
          have hH : nm_H D Y (fun q => s0 ≤ q) s.heap X moN ad (I15, nJ0, moZ) H locs := by rw [eI15]; exact hH
          refine lv_iconst (v := 1) hx hb dX12_times_81 (by decide) ?_
          exact nm_iret hx hb hr hlocks hQ hH (congrArg Prod.fst (Option.some.inj hf)) (congrArg (fun q => (q.2, nJ0, moZ)) (Option.some.inj hf)) dX12_times_82
        · have hf := nm_it c11 hf
          refine lv_aload_n hx hb dX12_times_57 rfl (lv_at hl 1 rfl) ?_
          refine lv_bipush (v := -7) hx hb dX12_times_58 (by decide) ?_
          obtain ⟨r18, I16, hc17, hf⟩ := nm_sd2 hf
          refine nm_calli (nm_runV (X := X) (nl := moN) (k_X12_no (hf := hc17)) hx hb hml hown hts hs0 hK hZ hH tw_1214 tw_1211 tw_1213 (sw_X12_no) tw_9 hd_X12_no mo_n0 mo_k0 (by decide) rfl rfl rfl ⟨Nat.le_trans (Nat.le_of_ble_eq_true rfl) hRf, Nat.le_trans (Nat.le_of_ble_eq_true rfl) hRl⟩ rfl hl.1 rfl (Nat.le_of_ble_eq_true rfl) dX12_times_60 ⟨Nat.zero_le _, Nat.zero_le _⟩) hH (fun H locs hH => ?_)
          have hH : nm_H D Y (fun q => s0 ≤ q) s.heap X moN ad (I16, nJ0, moZ) H locs := hH
          exact nm_iret hx hb hr hlocks hQ hH (congrArg Prod.fst (Option.some.inj hf)) (congrArg (fun q => (q.2, nJ0, moZ)) (Option.some.inj hf)) dX12_times_63
    · have hf := nm_ie c6 hf
      refine lv_aload_n hx hb dX12_times_35 rfl (lv_at hl 1 rfl) ?_
      refine lv_bipush (v := -5) hx hb dX12_times_36 (by decide) ?_
      obtain ⟨r21, I19, hc20, hf⟩ := nm_sd2 hf
      refine nm_calli (nm_runV (X := X) (nl := moN) (k_X12_no (hf := hc20)) hx hb hml hown hts hs0 hK hZ hH tw_1214 tw_1211 tw_1213 (sw_X12_no) tw_9 hd_X12_no mo_n0 mo_k0 (by decide) rfl rfl rfl ⟨Nat.le_trans (Nat.le_of_ble_eq_true rfl) hRf, Nat.le_trans (Nat.le_of_ble_eq_true rfl) hRl⟩ rfl hl.1 rfl (Nat.le_of_ble_eq_true rfl) dX12_times_38 ⟨Nat.zero_le _, Nat.zero_le _⟩) hH (fun H locs hH => ?_)
      have hH : nm_H D Y (fun q => s0 ≤ q) s.heap X moN ad (I19, nJ0, moZ) H locs := hH
      exact nm_iret hx hb hr hlocks hQ hH (congrArg Prod.fst (Option.some.inj hf)) (congrArg (fun q => (q.2, nJ0, moZ)) (Option.some.inj hf)) dX12_times_41
  · have hf := nm_it c3 hf
    refine lv_aload_n hx hb dX12_times_9 rfl (lv_at hl 0 rfl) ?_
    refine lv_bipush (v := -3) hx hb dX12_times_10 (by decide) ?_
    obtain ⟨r24, I22, hc23, hf⟩ := nm_sd2 hf
    refine nm_calli (nm_runV (X := X) (nl := moN) (k_X12_no (hf := hc23)) hx hb hml hown hts hs0 hK hZ hH tw_1214 tw_1211 tw_1213 (sw_X12_no) tw_9 hd_X12_no mo_n0 mo_k0 (by decide) rfl rfl rfl ⟨Nat.le_trans (Nat.le_of_ble_eq_true rfl) hRf, Nat.le_trans (Nat.le_of_ble_eq_true rfl) hRl⟩ rfl hl.1 rfl (Nat.le_of_ble_eq_true rfl) dX12_times_12 ⟨Nat.zero_le _, Nat.zero_le _⟩) hH (fun H locs hH => ?_)
    have hH : nm_H D Y (fun q => s0 ≤ q) s.heap X moN ad (I22, nJ0, moZ) H locs := hH
    exact nm_iret hx hb hr hlocks hQ hH (congrArg Prod.fst (Option.some.inj hf)) (congrArg (fun q => (q.2, nJ0, moZ)) (Option.some.inj hf)) dX12_times_15
def f_X12_undo (x1 : Int32) (I : nm_I) : Option (Int32 × nm_I) :=
(if (f_X12_isCell x1) = 0 then
nm_s2 (f_X12_no (-3 : Int32) I) fun r13 I11 =>
some (r13, I11)
else
nm_c x1 8 (
(if (I 8 x1.toNatClampNeg) = 0 then
nm_s2 (f_X12_no (-2 : Int32) I) fun r10 I8 =>
some (r10, I8)
else
nm_c x1 8 (
nm_c x1 8 (
nm_l (nm_up I 8 x1.toNatClampNeg ((I 8 x1.toNatClampNeg) - (1 : Int32))) fun I6 =>
nm_c x1 8 (
some (I6 8 x1.toNatClampNeg, I6)))))))
set_option maxHeartbeats 4000000 in
set_option maxRecDepth 100000 in
theorem k_X12_undo {l : Launch} {D : va_G} {Y : nm_Y} {s0 : Nat} {X : va_W} {ad : Nat → Nat}  {x1 : Int32} {I : nm_I} {r0 : Int32} {M0 : nm_I} (hf : f_X12_undo x1 I = some (r0, M0)) :
    nm_Met l yX12_undo cX12_undo 2 (some .int) { frames := 1, cells := 0, slots := 0, locals := 21 } [.ref (ad 0), .int x1] D Y s0 (nm_W Y X moN ad (I, nJ0, moZ)) (nm_Qi D s0 r0 (nm_W Y X moN ad (M0, nJ0, moZ))) 0 0 := by
  refine nm_of (by decide) (Nat.le_of_ble_eq_true rfl) ?_
  intro p e R s m args below meth c Q ls hx hb hr hlocks hml hown hts hs0 hK hZ hRf hRl hRc hRs hQ hP hD hl
  have hH : nm_H D Y (fun q => s0 ≤ q) s.heap X moN ad (I, nJ0, moZ) s.heap [] := ⟨hP, hD, va_S.rf⟩
  have hl : lv_has ls 2 [(0, .ref (ad 0)), (1, .int x1)] := hl
  unfold f_X12_undo at hf
  refine lv_iload_n hx hb dX12_undo_0 rfl (lv_at hl 1 rfl) ?_
  refine nm_calli (nm_runS (X := X) (nl := moN) (k_X12_isCell (hf := (rfl : f_X12_isCell x1 = _))) hx hb hml hown hts hs0 hK hZ hH tw_1203 tw_1201 tw_1202 tw_9 hd_X12_isCell rfl rfl ⟨Nat.le_trans (Nat.le_of_ble_eq_true rfl) hRf, Nat.le_trans (Nat.le_of_ble_eq_true rfl) hRl⟩ rfl hl.1 rfl (Nat.le_of_ble_eq_true rfl) dX12_undo_1 ⟨Nat.zero_le _, Nat.zero_le _⟩) hH (fun H locs hH => ?_)
  have hH : nm_H D Y (fun q => s0 ≤ q) s.heap X moN ad (I, nJ0, moZ) H locs := hH
  refine lv_if_ne (tgt := 14) hx hb dX12_undo_4 (by decide) (fun c1 => ?_) (fun c1 => ?_)
  · have hf := nm_ie c1 hf
    refine lv_aload_n hx hb dX12_undo_14 rfl (lv_at hl 0 rfl) ?_
    refine gf_12_7 hK hx hb hts hown hH mo_n0 mo_k0 (hts _ tw_963) (fun _ h9 => h9) dX12_undo_15 ?_
    refine lv_iload_n hx hb dX12_undo_18 rfl (lv_at hl 1 rfl) ?_
    obtain ⟨hi2, hf⟩ := nm_chk hf
    refine nm_iald hx hb hK hH mo_n8 mo_k8 mo_l8 hi2 dX12_undo_19 ?_
    refine lv_if_ne (tgt := 30) hx hb dX12_undo_20 (by decide) (fun c3 => ?_) (fun c3 => ?_)
    · have hf := nm_ie c3 hf
      refine lv_aload_n hx hb dX12_undo_30 rfl (lv_at hl 0 rfl) ?_
      refine gf_12_7 hK hx hb hts hown hH mo_n0 mo_k0 (hts _ tw_963) (fun _ h9 => h9) dX12_undo_31 ?_
      refine lv_iload_n hx hb dX12_undo_34 rfl (lv_at hl 1 rfl) ?_
      refine lv_dup2_11 hx hb dX12_undo_35 rfl rfl ?_
      obtain ⟨hi4, hf⟩ := nm_chk hf
      refine nm_iald hx hb hK hH mo_n8 mo_k8 mo_l8 hi4 dX12_undo_36 ?_
      refine lv_iconst (v := 1) hx hb dX12_undo_37 (by decide) ?_
      refine lv_isub hx hb dX12_undo_38 ?_
      obtain ⟨hi5, hf⟩ := nm_chk hf
      obtain ⟨I6, eI6, hf⟩ := nm_let hf
      refine nm_iast hx hb hK hH mo_n8 mo_k8 mo_l8 hi5 dX12_undo_39 (fun H locs hH => ?_)
      have hH : nm_H D Y (fun q => s0 ≤ q) s.heap X moN ad (I6, nJ0, moZ) H locs := by rw [eI6]; exact hH
      refine lv_aload_n hx hb dX12_undo_40 rfl (lv_at hl 0 rfl) ?_
      refine gf_12_7 hK hx hb hts hown hH mo_n0 mo_k0 (hts _ tw_963) (fun _ h9 => h9) dX12_undo_41 ?_
      refine lv_iload_n hx hb dX12_undo_44 rfl (lv_at hl 1 rfl) ?_
      obtain ⟨hi7, hf⟩ := nm_chk hf
      refine nm_iald hx hb hK hH mo_n8 mo_k8 mo_l8 hi7 dX12_undo_45 ?_
      exact nm_iret hx hb hr hlocks hQ hH (congrArg Prod.fst (Option.some.inj hf)) (congrArg (fun q => (q.2, nJ0, moZ)) (Option.some.inj hf)) dX12_undo_46
    · have hf := nm_it c3 hf
      refine lv_aload_n hx hb dX12_undo_23 rfl (lv_at hl 0 rfl) ?_
      refine lv_bipush (v := -2) hx hb dX12_undo_24 (by decide) ?_
      obtain ⟨r10, I8, hc9, hf⟩ := nm_sd2 hf
      refine nm_calli (nm_runV (X := X) (nl := moN) (k_X12_no (hf := hc9)) hx hb hml hown hts hs0 hK hZ hH tw_1214 tw_1211 tw_1213 (sw_X12_no) tw_9 hd_X12_no mo_n0 mo_k0 (by decide) rfl rfl rfl ⟨Nat.le_trans (Nat.le_of_ble_eq_true rfl) hRf, Nat.le_trans (Nat.le_of_ble_eq_true rfl) hRl⟩ rfl hl.1 rfl (Nat.le_of_ble_eq_true rfl) dX12_undo_26 ⟨Nat.zero_le _, Nat.zero_le _⟩) hH (fun H locs hH => ?_)
      have hH : nm_H D Y (fun q => s0 ≤ q) s.heap X moN ad (I8, nJ0, moZ) H locs := hH
      exact nm_iret hx hb hr hlocks hQ hH (congrArg Prod.fst (Option.some.inj hf)) (congrArg (fun q => (q.2, nJ0, moZ)) (Option.some.inj hf)) dX12_undo_29
  · have hf := nm_it c1 hf
    refine lv_aload_n hx hb dX12_undo_7 rfl (lv_at hl 0 rfl) ?_
    refine lv_bipush (v := -3) hx hb dX12_undo_8 (by decide) ?_
    obtain ⟨r13, I11, hc12, hf⟩ := nm_sd2 hf
    refine nm_calli (nm_runV (X := X) (nl := moN) (k_X12_no (hf := hc12)) hx hb hml hown hts hs0 hK hZ hH tw_1214 tw_1211 tw_1213 (sw_X12_no) tw_9 hd_X12_no mo_n0 mo_k0 (by decide) rfl rfl rfl ⟨Nat.le_trans (Nat.le_of_ble_eq_true rfl) hRf, Nat.le_trans (Nat.le_of_ble_eq_true rfl) hRl⟩ rfl hl.1 rfl (Nat.le_of_ble_eq_true rfl) dX12_undo_10 ⟨Nat.zero_le _, Nat.zero_le _⟩) hH (fun H locs hH => ?_)
    have hH : nm_H D Y (fun q => s0 ≤ q) s.heap X moN ad (I11, nJ0, moZ) H locs := hH
    exact nm_iret hx hb hr hlocks hQ hH (congrArg Prod.fst (Option.some.inj hf)) (congrArg (fun q => (q.2, nJ0, moZ)) (Option.some.inj hf)) dX12_undo_13
def f_X12_shape (x1 : Int32) (x2 : Int32) (x3 : Int32) (I : nm_I) : Option (Int32 × nm_I) :=
nm_s1 (f_X12_isShape x1 x2 I) fun r1 =>
(if r1 = 0 then
nm_s2 (f_X12_no (-3 : Int32) I) fun r16 I14 =>
some (r16, I14)
else
nm_l (((16 : Int32) * x1) + x2) fun v4 =>
(if x3 = (0 : Int32) then
nm_c v4 128 (
some (I 1 v4.toNatClampNeg, I))
else
if x3 = (1 : Int32) then
nm_c v4 128 (
some (I 2 v4.toNatClampNeg, I))
else
if x3 = (2 : Int32) then
nm_c v4 128 (
some (I 3 v4.toNatClampNeg, I))
else
nm_s2 (f_X12_no (-7 : Int32) I) fun r13 I11 =>
some (r13, I11)))
set_option maxHeartbeats 4000000 in
set_option maxRecDepth 100000 in
theorem k_X12_shape {l : Launch} {D : va_G} {Y : nm_Y} {s0 : Nat} {X : va_W} {ad : Nat → Nat}  {x1 : Int32} {x2 : Int32} {x3 : Int32} {I : nm_I} {r0 : Int32} {M0 : nm_I} (hf : f_X12_shape x1 x2 x3 I = some (r0, M0)) :
    nm_Met l yX12_shape cX12_shape 5 (some .int) { frames := 2, cells := 0, slots := 0, locals := 42 } [.ref (ad 0), .int x1, .int x2, .int x3] D Y s0 (nm_W Y X moN ad (I, nJ0, moZ)) (nm_Qi D s0 r0 (nm_W Y X moN ad (M0, nJ0, moZ))) 0 0 := by
  refine nm_of (by decide) (Nat.le_of_ble_eq_true rfl) ?_
  intro p e R s m args below meth c Q ls hx hb hr hlocks hml hown hts hs0 hK hZ hRf hRl hRc hRs hQ hP hD hl
  have hH : nm_H D Y (fun q => s0 ≤ q) s.heap X moN ad (I, nJ0, moZ) s.heap [] := ⟨hP, hD, va_S.rf⟩
  have hl : lv_has ls 5 [(0, .ref (ad 0)), (1, .int x1), (2, .int x2), (3, .int x3)] := hl
  unfold f_X12_shape at hf
  refine lv_aload_n hx hb dX12_shape_0 rfl (lv_at hl 0 rfl) ?_
  refine lv_iload_n hx hb dX12_shape_1 rfl (lv_at hl 1 rfl) ?_
  refine lv_iload_n hx hb dX12_shape_2 rfl (lv_at hl 2 rfl) ?_
  obtain ⟨r1, hc2, hf⟩ := nm_sd1 hf
  refine nm_calli (nm_runV (X := X) (nl := moN) (k_X12_isShape (hf := hc2)) hx hb hml hown hts hs0 hK hZ hH tw_1245 tw_1242 tw_1244 (sw_X12_isShape) tw_9 hd_X12_isShape mo_n0 mo_k0 (by decide) rfl rfl rfl ⟨Nat.le_trans (Nat.le_of_ble_eq_true rfl) hRf, Nat.le_trans (Nat.le_of_ble_eq_true rfl) hRl⟩ rfl hl.1 rfl (Nat.le_of_ble_eq_true rfl) dX12_shape_3 ⟨Nat.zero_le _, Nat.zero_le _⟩) hH (fun H locs hH => ?_)
  have hH : nm_H D Y (fun q => s0 ≤ q) s.heap X moN ad (I, nJ0, moZ) H locs := hH
  refine lv_if_ne (tgt := 16) hx hb dX12_shape_6 (by decide) (fun c3 => ?_) (fun c3 => ?_)
  · have hf := nm_ie c3 hf
    refine lv_bipush (v := 16) hx hb dX12_shape_16 (by decide) ?_
    refine lv_iload_n hx hb dX12_shape_18 rfl (lv_at hl 1 rfl) ?_
    refine lv_imul hx hb dX12_shape_19 ?_
    refine lv_iload_n hx hb dX12_shape_20 rfl (lv_at hl 2 rfl) ?_
    refine lv_iadd hx hb dX12_shape_21 ?_
    obtain ⟨v4, ev4, hf⟩ := nm_let hf
    refine nm_topi ev4 ?_
    refine lv_istore (lv' := [(4, .int v4), (0, .ref (ad 0)), (1, .int x1), (2, .int x2), (3, .int x3)]) hx hb dX12_shape_22 hl (by decide) rfl (fun ls hl => ?_)
    refine lv_iload_n hx hb dX12_shape_24 rfl (lv_at hl 4 rfl) ?_
    by_cases c5 : x3 = (0 : Int32)
    · have hf := nm_it c5 hf
      refine nm_tab (off := 27) (tgt := 52) hx hb c5 dX12_shape_25 (by decide) (by decide) (by decide) (by decide) ?_
      refine lv_aload_n hx hb dX12_shape_52 rfl (lv_at hl 1 rfl) ?_
      refine gf_12_0 hK hx hb hts hown hH mo_n0 mo_k0 (hts _ tw_956) (fun _ h9 => h9) dX12_shape_53 ?_
      refine lv_iload hx hb dX12_shape_56 (lv_at hl 0 rfl) ?_
      obtain ⟨hi6, hf⟩ := nm_chk hf
      refine nm_iald hx hb hK hH mo_n1 mo_k1 mo_l1 hi6 dX12_shape_58 ?_
      exact nm_iret hx hb hr hlocks hQ hH (congrArg Prod.fst (Option.some.inj hf)) (congrArg (fun q => (q.2, nJ0, moZ)) (Option.some.inj hf)) dX12_shape_59
    have hf := nm_ie c5 hf
    by_cases c7 : x3 = (1 : Int32)
    · have hf := nm_it c7 hf
      refine nm_tab (off := 35) (tgt := 60) hx hb c7 dX12_shape_25 (by decide) (by decide) (by decide) (by decide) ?_
      refine lv_aload_n hx hb dX12_shape_60 rfl (lv_at hl 1 rfl) ?_
      refine gf_12_1 hK hx hb hts hown hH mo_n0 mo_k0 (hts _ tw_957) (fun _ h9 => h9) dX12_shape_61 ?_
      refine lv_iload hx hb dX12_shape_64 (lv_at hl 0 rfl) ?_
      obtain ⟨hi8, hf⟩ := nm_chk hf
      refine nm_iald hx hb hK hH mo_n2 mo_k2 mo_l2 hi8 dX12_shape_66 ?_
      exact nm_iret hx hb hr hlocks hQ hH (congrArg Prod.fst (Option.some.inj hf)) (congrArg (fun q => (q.2, nJ0, moZ)) (Option.some.inj hf)) dX12_shape_67
    have hf := nm_ie c7 hf
    by_cases c9 : x3 = (2 : Int32)
    · have hf := nm_it c9 hf
      refine nm_tab (off := 43) (tgt := 68) hx hb c9 dX12_shape_25 (by decide) (by decide) (by decide) (by decide) ?_
      refine lv_aload_n hx hb dX12_shape_68 rfl (lv_at hl 1 rfl) ?_
      refine gf_12_2 hK hx hb hts hown hH mo_n0 mo_k0 (hts _ tw_958) (fun _ h9 => h9) dX12_shape_69 ?_
      refine lv_iload hx hb dX12_shape_72 (lv_at hl 0 rfl) ?_
      obtain ⟨hi10, hf⟩ := nm_chk hf
      refine nm_iald hx hb hK hH mo_n3 mo_k3 mo_l3 hi10 dX12_shape_74 ?_
      exact nm_iret hx hb hr hlocks hQ hH (congrArg Prod.fst (Option.some.inj hf)) (congrArg (fun q => (q.2, nJ0, moZ)) (Option.some.inj hf)) dX12_shape_75
    have hf := nm_ie c9 hf
    refine lv_tableOut (tgt := 76) hx hb dX12_shape_25 (nm_sw x3 (fun k h1 h2 hk => by
      rcases (show k = 0 ∨ k = 1 ∨ k = 2 by omega) with rfl | rfl | rfl <;> first | exact c5 hk | exact c7 hk | exact c9 hk)) (by decide) ?_
    refine lv_aload_n hx hb dX12_shape_76 rfl (lv_at hl 1 rfl) ?_
    refine lv_bipush (v := -7) hx hb dX12_shape_77 (by decide) ?_
    obtain ⟨r13, I11, hc12, hf⟩ := nm_sd2 hf
    refine nm_calli (nm_runV (X := X) (nl := moN) (k_X12_no (hf := hc12)) hx hb hml hown hts hs0 hK hZ hH tw_1214 tw_1211 tw_1213 (sw_X12_no) tw_9 hd_X12_no mo_n0 mo_k0 (by decide) rfl rfl rfl ⟨Nat.le_trans (Nat.le_of_ble_eq_true rfl) hRf, Nat.le_trans (Nat.le_of_ble_eq_true rfl) hRl⟩ rfl hl.1 rfl (Nat.le_of_ble_eq_true rfl) dX12_shape_79 ⟨Nat.zero_le _, Nat.zero_le _⟩) hH (fun H locs hH => ?_)
    have hH : nm_H D Y (fun q => s0 ≤ q) s.heap X moN ad (I11, nJ0, moZ) H locs := hH
    exact nm_iret hx hb hr hlocks hQ hH (congrArg Prod.fst (Option.some.inj hf)) (congrArg (fun q => (q.2, nJ0, moZ)) (Option.some.inj hf)) dX12_shape_82
  · have hf := nm_it c3 hf
    refine lv_aload_n hx hb dX12_shape_9 rfl (lv_at hl 0 rfl) ?_
    refine lv_bipush (v := -3) hx hb dX12_shape_10 (by decide) ?_
    obtain ⟨r16, I14, hc15, hf⟩ := nm_sd2 hf
    refine nm_calli (nm_runV (X := X) (nl := moN) (k_X12_no (hf := hc15)) hx hb hml hown hts hs0 hK hZ hH tw_1214 tw_1211 tw_1213 (sw_X12_no) tw_9 hd_X12_no mo_n0 mo_k0 (by decide) rfl rfl rfl ⟨Nat.le_trans (Nat.le_of_ble_eq_true rfl) hRf, Nat.le_trans (Nat.le_of_ble_eq_true rfl) hRl⟩ rfl hl.1 rfl (Nat.le_of_ble_eq_true rfl) dX12_shape_12 ⟨Nat.zero_le _, Nat.zero_le _⟩) hH (fun H locs hH => ?_)
    have hH : nm_H D Y (fun q => s0 ≤ q) s.heap X moN ad (I14, nJ0, moZ) H locs := hH
    exact nm_iret hx hb hr hlocks hQ hH (congrArg Prod.fst (Option.some.inj hf)) (congrArg (fun q => (q.2, nJ0, moZ)) (Option.some.inj hf)) dX12_shape_15
def f_X12_flatAt (x0 : Int32) (x1 : Int32) : Int32 :=
(4096 : Int32) * (((8 : Int32) * x0) + x1)
set_option maxHeartbeats 4000000 in
set_option maxRecDepth 100000 in
theorem k_X12_flatAt {l : Launch} {D : va_G} {Y : nm_Y} {s0 : Nat} {X : va_W} {ad : Nat → Nat}  {x0 : Int32} {x1 : Int32} {I : nm_I} {r0 : Int32} (hf : f_X12_flatAt x0 x1 = r0) :
    nm_Met l yX12_flatAt cX12_flatAt 2 (some .int) { frames := 0, cells := 0, slots := 0, locals := 0 } [.int x0, .int x1] D Y s0 (nm_W Y X moN ad (I, nJ0, moZ)) (nm_Qi D s0 r0 (nm_W Y X moN ad (I, nJ0, moZ))) 0 0 := by
  refine nm_of (by decide) (Nat.le_of_ble_eq_true rfl) ?_
  intro p e R s m args below meth c Q ls hx hb hr hlocks hml hown hts hs0 hK hZ hRf hRl hRc hRs hQ hP hD hl
  have hH : nm_H D Y (fun q => s0 ≤ q) s.heap X moN ad (I, nJ0, moZ) s.heap [] := ⟨hP, hD, va_S.rf⟩
  have hl : lv_has ls 2 [(0, .int x0), (1, .int x1)] := hl
  unfold f_X12_flatAt at hf
  refine lv_sipush (v := 4096) hx hb dX12_flatAt_0 (by decide) ?_
  refine lv_bipush (v := 8) hx hb dX12_flatAt_3 (by decide) ?_
  refine lv_iload_n hx hb dX12_flatAt_5 rfl (lv_at hl 0 rfl) ?_
  refine lv_imul hx hb dX12_flatAt_6 ?_
  refine lv_iload_n hx hb dX12_flatAt_7 rfl (lv_at hl 1 rfl) ?_
  refine lv_iadd hx hb dX12_flatAt_8 ?_
  refine lv_imul hx hb dX12_flatAt_9 ?_
  exact nm_iret hx hb hr hlocks hQ hH hf rfl dX12_flatAt_10
def f_X12_fill_L38 (x1 : Int32) (x2 : Int32) (x4 : Int32) (x6 : Int32) (x7 : Int32) : Nat → Int32 → nm_I → Option (nm_I)
  | 0, _, _ => none
  | n38 + 1, x8, I4 =>
    (if (x2 + x4) ≤ x8 then
    some I4
    else
    (if (64 : Int32) ≤ x8 then
    some I4
    else
    nm_c ((x1 + ((64 : Int32) * x7)) + x8) 262144 (
    nm_l (nm_up I4 13 (((x1 + ((64 : Int32) * x7)) + x8).toNatClampNeg) (vp_nar .boolean x6)) fun I8 =>
    f_X12_fill_L38 x1 x2 x4 x6 x7 n38 (x8 + 1) I8)))
def f_X12_fill_J36 (x1 : Int32) (x2 : Int32) (x4 : Int32) (x6 : Int32) (x7 : Int32) (t36_0 : Int32) (I1 : nm_I) (k : Int32 → nm_I → Option (nm_I)) : Option (nm_I) :=
nm_s1 (f_X12_fill_L38 x1 x2 x4 x6 x7 nm_F t36_0 I1) fun I9 =>
k (x7 + 1) I9
def f_X12_fill_L11 (x1 : Int32) (x2 : Int32) (x3 : Int32) (x4 : Int32) (x5 : Int32) (x6 : Int32) : Nat → Int32 → nm_I → Option (nm_I)
  | 0, _, _ => none
  | n11 + 1, x7, I1 =>
    (if (x3 + x5) ≤ x7 then
    some I1
    else
    (if (64 : Int32) ≤ x7 then
    some I1
    else
    (if 0 ≤ x2 then
    f_X12_fill_J36 x1 x2 x4 x6 x7 x2 I1 (f_X12_fill_L11 x1 x2 x3 x4 x5 x6 n11)
    else
    f_X12_fill_J36 x1 x2 x4 x6 x7 (0 : Int32) I1 (f_X12_fill_L11 x1 x2 x3 x4 x5 x6 n11))))
def f_X12_fill_J9 (x1 : Int32) (x2 : Int32) (x3 : Int32) (x4 : Int32) (x5 : Int32) (x6 : Int32) (t9_0 : Int32) (I : nm_I) : Option (nm_I) :=
nm_s1 (f_X12_fill_L11 x1 x2 x3 x4 x5 x6 nm_F t9_0 I) fun I12 =>
some I12
def f_X12_fill (x1 : Int32) (x2 : Int32) (x3 : Int32) (x4 : Int32) (x5 : Int32) (x6 : Int32) (I : nm_I) : Option (nm_I) :=
(if 0 ≤ x3 then
f_X12_fill_J9 x1 x2 x3 x4 x5 x6 x3 I
else
f_X12_fill_J9 x1 x2 x3 x4 x5 x6 (0 : Int32) I)
set_option maxHeartbeats 4000000 in
set_option maxRecDepth 100000 in
theorem k_X12_fill {l : Launch} {D : va_G} {Y : nm_Y} {s0 : Nat} {X : va_W} {ad : Nat → Nat}  {x1 : Int32} {x2 : Int32} {x3 : Int32} {x4 : Int32} {x5 : Int32} {x6 : Int32} {I : nm_I} {M0 : nm_I} (hf : f_X12_fill x1 x2 x3 x4 x5 x6 I = some M0) :
    nm_Met l yX12_fill cX12_fill 9 none { frames := 0, cells := 0, slots := 0, locals := 0 } [.ref (ad 0), .int x1, .int x2, .int x3, .int x4, .int x5, .int x6] D Y s0 (nm_W Y X moN ad (I, nJ0, moZ)) (nm_Qv D s0 (nm_W Y X moN ad (M0, nJ0, moZ))) 0 0 := by
  refine nm_of (by decide) (Nat.le_of_ble_eq_true rfl) ?_
  intro p e R s m args below meth c Q ls hx hb hr hlocks hml hown hts hs0 hK hZ hRf hRl hRc hRs hQ hP hD hl
  have hH : nm_H D Y (fun q => s0 ≤ q) s.heap X moN ad (I, nJ0, moZ) s.heap [] := ⟨hP, hD, va_S.rf⟩
  have hl : lv_has ls 9 [(0, .ref (ad 0)), (1, .int x1), (2, .int x2), (3, .int x3), (4, .int x4), (5, .int x5), (6, .int x6)] := hl
  unfold f_X12_fill at hf
  refine lv_iload_n hx hb dX12_fill_0 rfl (lv_at hl 3 rfl) ?_
  have hJ9 : ∀ (t9_0 : Int32) (H : Heap) (locs : List Loc) (ls : Array Slot), nm_H D Y (fun q => s0 ≤ q) s.heap X moN ad (I, nJ0, moZ) H locs → lv_has ls 9 [(0, .ref (ad 0)), (1, .int x1), (2, .int x2), (3, .int x3), (4, .int x4), (5, .int x5), (6, .int x6)] → f_X12_fill_J9 x1 x2 x3 x4 x5 x6 t9_0 I = some M0 → W p l e R s m args below meth c H locs 0 0 Q (F0 m 9 ls [.int t9_0]) := by
    intro t9_0 H locs ls hH hl hf
    unfold f_X12_fill_J9 at hf
    refine lv_istore (lv' := [(7, .int t9_0), (0, .ref (ad 0)), (1, .int x1), (2, .int x2), (3, .int x3), (4, .int x4), (5, .int x5), (6, .int x6)]) hx hb dX12_fill_9 hl (by decide) rfl (fun ls hl => ?_)
    have hL11 : ∀ (n11 : Nat) (x7 : Int32) (I1 : nm_I) (H : Heap) (locs : List Loc) (ls : Array Slot) (o11 : nm_I), nm_H D Y (fun q => s0 ≤ q) s.heap X moN ad (I1, nJ0, moZ) H locs → lv_has ls 9 [(0, .ref (ad 0)), (1, .int x1), (2, .int x2), (3, .int x3), (4, .int x4), (5, .int x5), (6, .int x6), (7, .int x7)] → f_X12_fill_L11 x1 x2 x3 x4 x5 x6 n11 x7 I1 = some o11 → (∀ (H : Heap) (locs : List Loc) (ls : Array Slot), nm_H D Y (fun q => s0 ≤ q) s.heap X moN ad (o11, nJ0, moZ) H locs → lv_has ls 9 [] → W p l e R s m args below meth c H locs 0 0 Q (F0 m 83 ls [])) → W p l e R s m args below meth c H locs 0 0 Q (F0 m 11 ls []) := by
      intro n11
      induction n11 with
      | zero =>
        intro x7 I1 H locs ls o11 hH hl hf hX11
        cases hf
      | succ n11 ih11 =>
        intro x7 I1 H locs ls o11 hH hl hf hX11
        rw [f_X12_fill_L11] at hf
        refine lv_iload hx hb dX12_fill_11 (lv_at hl 7 rfl) ?_
        refine lv_iload_n hx hb dX12_fill_13 rfl (lv_at hl 3 rfl) ?_
        refine lv_iload hx hb dX12_fill_14 (lv_at hl 5 rfl) ?_
        refine lv_iadd hx hb dX12_fill_16 ?_
        refine lv_icmp_ge (tgt := 83) hx hb dX12_fill_17 (by decide) (fun c2 => ?_) (fun c2 => ?_)
        · have hf := nm_it c2 hf
          cases hf
          exact hX11 _ _ _ hH (lv_sub hl [] rfl)
        · have hf := nm_ie c2 hf
          refine lv_iload hx hb dX12_fill_20 (lv_at hl 7 rfl) ?_
          refine lv_bipush (v := 64) hx hb dX12_fill_22 (by decide) ?_
          refine lv_icmp_ge (tgt := 83) hx hb dX12_fill_24 (by decide) (fun c3 => ?_) (fun c3 => ?_)
          · have hf := nm_it c3 hf
            cases hf
            exact hX11 _ _ _ hH (lv_sub hl [] rfl)
          · have hf := nm_ie c3 hf
            refine lv_iload_n hx hb dX12_fill_27 rfl (lv_at hl 2 rfl) ?_
            have hJ36 : ∀ (t36_0 : Int32) (H : Heap) (locs : List Loc) (ls : Array Slot), nm_H D Y (fun q => s0 ≤ q) s.heap X moN ad (I1, nJ0, moZ) H locs → lv_has ls 9 [(0, .ref (ad 0)), (1, .int x1), (2, .int x2), (3, .int x3), (4, .int x4), (5, .int x5), (6, .int x6), (7, .int x7)] → f_X12_fill_J36 x1 x2 x4 x6 x7 t36_0 I1 (f_X12_fill_L11 x1 x2 x3 x4 x5 x6 n11) = some o11 → W p l e R s m args below meth c H locs 0 0 Q (F0 m 36 ls [.int t36_0]) := by
              intro t36_0 H locs ls hH hl hf
              unfold f_X12_fill_J36 at hf
              refine lv_istore (lv' := [(8, .int t36_0), (0, .ref (ad 0)), (1, .int x1), (2, .int x2), (3, .int x3), (4, .int x4), (5, .int x5), (6, .int x6), (7, .int x7)]) hx hb dX12_fill_36 hl (by decide) rfl (fun ls hl => ?_)
              have hL38 : ∀ (n38 : Nat) (x8 : Int32) (I4 : nm_I) (H : Heap) (locs : List Loc) (ls : Array Slot) (o38 : nm_I), nm_H D Y (fun q => s0 ≤ q) s.heap X moN ad (I4, nJ0, moZ) H locs → lv_has ls 9 [(0, .ref (ad 0)), (1, .int x1), (2, .int x2), (3, .int x3), (4, .int x4), (5, .int x5), (6, .int x6), (7, .int x7), (8, .int x8)] → f_X12_fill_L38 x1 x2 x4 x6 x7 n38 x8 I4 = some o38 → (∀ (H : Heap) (locs : List Loc) (ls : Array Slot), nm_H D Y (fun q => s0 ≤ q) s.heap X moN ad (o38, nJ0, moZ) H locs → lv_has ls 9 [(0, .ref (ad 0)), (1, .int x1), (2, .int x2), (3, .int x3), (4, .int x4), (5, .int x5), (6, .int x6), (7, .int x7)] → W p l e R s m args below meth c H locs 0 0 Q (F0 m 77 ls [])) → W p l e R s m args below meth c H locs 0 0 Q (F0 m 38 ls []) := by
                intro n38
                induction n38 with
                | zero =>
                  intro x8 I4 H locs ls o38 hH hl hf hX38
                  cases hf
                | succ n38 ih38 =>
                  intro x8 I4 H locs ls o38 hH hl hf hX38
                  rw [f_X12_fill_L38] at hf
                  refine lv_iload hx hb dX12_fill_38 (lv_at hl 8 rfl) ?_
                  refine lv_iload_n hx hb dX12_fill_40 rfl (lv_at hl 2 rfl) ?_
                  refine lv_iload hx hb dX12_fill_41 (lv_at hl 4 rfl) ?_
                  refine lv_iadd hx hb dX12_fill_43 ?_
                  refine lv_icmp_ge (tgt := 77) hx hb dX12_fill_44 (by decide) (fun c5 => ?_) (fun c5 => ?_)
                  · have hf := nm_it c5 hf
                    cases hf
                    exact hX38 _ _ _ hH (lv_sub hl [0, 1, 2, 3, 4, 5, 6, 7] rfl)
                  · have hf := nm_ie c5 hf
                    refine lv_iload hx hb dX12_fill_47 (lv_at hl 8 rfl) ?_
                    refine lv_bipush (v := 64) hx hb dX12_fill_49 (by decide) ?_
                    refine lv_icmp_ge (tgt := 77) hx hb dX12_fill_51 (by decide) (fun c6 => ?_) (fun c6 => ?_)
                    · have hf := nm_it c6 hf
                      cases hf
                      exact hX38 _ _ _ hH (lv_sub hl [0, 1, 2, 3, 4, 5, 6, 7] rfl)
                    · have hf := nm_ie c6 hf
                      refine lv_aload_n hx hb dX12_fill_54 rfl (lv_at hl 0 rfl) ?_
                      refine gf_12_12 hK hx hb hts hown hH mo_n0 mo_k0 (hts _ tw_968) (fun _ h9 => h9) dX12_fill_55 ?_
                      refine lv_iload_n hx hb dX12_fill_58 rfl (lv_at hl 1 rfl) ?_
                      refine lv_bipush (v := 64) hx hb dX12_fill_59 (by decide) ?_
                      refine lv_iload hx hb dX12_fill_61 (lv_at hl 7 rfl) ?_
                      refine lv_imul hx hb dX12_fill_63 ?_
                      refine lv_iadd hx hb dX12_fill_64 ?_
                      refine lv_iload hx hb dX12_fill_65 (lv_at hl 8 rfl) ?_
                      refine lv_iadd hx hb dX12_fill_67 ?_
                      refine lv_iload hx hb dX12_fill_68 (lv_at hl 6 rfl) ?_
                      obtain ⟨hi7, hf⟩ := nm_chk hf
                      obtain ⟨I8, eI8, hf⟩ := nm_let hf
                      refine nm_zast hx hb hK hH mo_n13 mo_k13 mo_l13 hi7 dX12_fill_70 (fun H locs hH => ?_)
                      have hH : nm_H D Y (fun q => s0 ≤ q) s.heap X moN ad (I8, nJ0, moZ) H locs := by rw [eI8]; exact hH
                      refine lv_iinc (v := x8 + 1) (lv' := [(8, .int (x8 + 1)), (0, .ref (ad 0)), (1, .int x1), (2, .int x2), (3, .int x3), (4, .int x4), (5, .int x5), (6, .int x6), (7, .int x7)]) hx hb dX12_fill_71 hl (k := 8) rfl rfl (by decide) rfl (fun ls hl => ?_)
                      refine lv_goto (tgt := 38) hx hb dX12_fill_74 (by decide) ?_
                      exact ih38 (x8 + 1) I8 _ _ _ _ hH (lv_sub hl [1, 2, 3, 4, 5, 6, 7, 8, 0] rfl) hf hX38
              obtain ⟨I9, hl10, hf⟩ := nm_sd1 hf
              refine hL38 nm_F t36_0 I1 _ _ _ _ hH (lv_sub hl [1, 2, 3, 4, 5, 6, 7, 8, 0] rfl) hl10 (fun H locs ls hH hl => ?_)
              have hl : lv_has ls 9 [(0, .ref (ad 0)), (1, .int x1), (2, .int x2), (3, .int x3), (4, .int x4), (5, .int x5), (6, .int x6), (7, .int x7)] := hl
              have hH : nm_H D Y (fun q => s0 ≤ q) s.heap X moN ad (I9, nJ0, moZ) H locs := hH
              refine lv_iinc (v := x7 + 1) (lv' := [(7, .int (x7 + 1)), (0, .ref (ad 0)), (1, .int x1), (2, .int x2), (3, .int x3), (4, .int x4), (5, .int x5), (6, .int x6)]) hx hb dX12_fill_77 hl (k := 7) rfl rfl (by decide) rfl (fun ls hl => ?_)
              refine lv_goto (tgt := 11) hx hb dX12_fill_80 (by decide) ?_
              exact ih11 (x7 + 1) I9 _ _ _ _ hH (lv_sub hl [1, 2, 3, 4, 5, 6, 7, 0] rfl) hf hX11
            refine lv_if_ge (tgt := 35) hx hb dX12_fill_28 (by decide) (fun c11 => ?_) (fun c11 => ?_)
            · have hf := nm_it c11 hf
              refine lv_iload_n hx hb dX12_fill_35 rfl (lv_at hl 2 rfl) ?_
              exact hJ36 x2 _ _ _ hH (lv_sub hl [0, 1, 2, 3, 4, 5, 6, 7] rfl) hf
            · have hf := nm_ie c11 hf
              refine lv_iconst (v := 0) hx hb dX12_fill_31 (by decide) ?_
              refine lv_goto (tgt := 36) hx hb dX12_fill_32 (by decide) ?_
              exact hJ36 (0 : Int32) _ _ _ hH (lv_sub hl [0, 1, 2, 3, 4, 5, 6, 7] rfl) hf
    obtain ⟨I12, hl13, hf⟩ := nm_sd1 hf
    refine hL11 nm_F t9_0 I _ _ _ _ hH (lv_sub hl [1, 2, 3, 4, 5, 6, 7, 0] rfl) hl13 (fun H locs ls hH hl => ?_)
    have hl : lv_has ls 9 [] := hl
    have hH : nm_H D Y (fun q => s0 ≤ q) s.heap X moN ad (I12, nJ0, moZ) H locs := hH
    exact nm_vret hx hb hr hlocks hQ hH (congrArg (fun q => (q, nJ0, moZ)) (Option.some.inj hf)) dX12_fill_83
  refine lv_if_ge (tgt := 8) hx hb dX12_fill_1 (by decide) (fun c14 => ?_) (fun c14 => ?_)
  · have hf := nm_it c14 hf
    refine lv_iload_n hx hb dX12_fill_8 rfl (lv_at hl 3 rfl) ?_
    exact hJ9 x3 _ _ _ hH (lv_sub hl [0, 1, 2, 3, 4, 5, 6] rfl) hf
  · have hf := nm_ie c14 hf
    refine lv_iconst (v := 0) hx hb dX12_fill_4 (by decide) ?_
    refine lv_goto (tgt := 9) hx hb dX12_fill_5 (by decide) ?_
    exact hJ9 (0 : Int32) _ _ _ hH (lv_sub hl [0, 1, 2, 3, 4, 5, 6] rfl) hf
def f_X12_laysPath_J94 (x1 : Int32) (x4 : Int32) (t22_0 : Int32) (t46_0 : Int32) (t70_0 : Int32) (t94_0 : Int32) (I : nm_I) : Option (nm_I) :=
nm_l ((x4 - (1 : Int32)) / (2 : Int32)) fun v1 =>
(if t46_0 = t94_0 then
nm_s1 (f_X12_fill x1 t22_0 (t46_0 - v1) ((t70_0 - t22_0) + (1 : Int32)) x4 (1 : Int32) I) fun I5 =>
some I5
else
nm_s1 (f_X12_fill x1 (t22_0 - v1) t46_0 x4 ((t94_0 - t46_0) + (1 : Int32)) (1 : Int32) I) fun I3 =>
some I3)
def f_X12_laysPath_J70 (x1 : Int32) (x2 : Int32) (x3 : Int32) (x4 : Int32) (t22_0 : Int32) (t46_0 : Int32) (t70_0 : Int32) (I : nm_I) : Option (nm_I) :=
(if (x2 / (64 : Int32)) ≤ (x3 / (64 : Int32)) then
f_X12_laysPath_J94 x1 x4 t22_0 t46_0 t70_0 (x3 / (64 : Int32)) I
else
f_X12_laysPath_J94 x1 x4 t22_0 t46_0 t70_0 (x2 / (64 : Int32)) I)
def f_X12_laysPath_J46 (x1 : Int32) (x2 : Int32) (x3 : Int32) (x4 : Int32) (t22_0 : Int32) (t46_0 : Int32) (I : nm_I) : Option (nm_I) :=
(if (x2 - x2 / (64 : Int32) * (64 : Int32)) ≤ (x3 - x3 / (64 : Int32) * (64 : Int32)) then
f_X12_laysPath_J70 x1 x2 x3 x4 t22_0 t46_0 (x3 - x3 / (64 : Int32) * (64 : Int32)) I
else
f_X12_laysPath_J70 x1 x2 x3 x4 t22_0 t46_0 (x2 - x2 / (64 : Int32) * (64 : Int32)) I)
def f_X12_laysPath_J22 (x1 : Int32) (x2 : Int32) (x3 : Int32) (x4 : Int32) (t22_0 : Int32) (I : nm_I) : Option (nm_I) :=
(if (x3 / (64 : Int32)) ≤ (x2 / (64 : Int32)) then
f_X12_laysPath_J46 x1 x2 x3 x4 t22_0 (x3 / (64 : Int32)) I
else
f_X12_laysPath_J46 x1 x2 x3 x4 t22_0 (x2 / (64 : Int32)) I)
def f_X12_laysPath (x1 : Int32) (x2 : Int32) (x3 : Int32) (x4 : Int32) (I : nm_I) : Option (nm_I) :=
(if (x3 - x3 / (64 : Int32) * (64 : Int32)) ≤ (x2 - x2 / (64 : Int32) * (64 : Int32)) then
f_X12_laysPath_J22 x1 x2 x3 x4 (x3 - x3 / (64 : Int32) * (64 : Int32)) I
else
f_X12_laysPath_J22 x1 x2 x3 x4 (x2 - x2 / (64 : Int32) * (64 : Int32)) I)
set_option maxHeartbeats 4000000 in
set_option maxRecDepth 100000 in
theorem k_X12_laysPath {l : Launch} {D : va_G} {Y : nm_Y} {s0 : Nat} {X : va_W} {ad : Nat → Nat}  {x1 : Int32} {x2 : Int32} {x3 : Int32} {x4 : Int32} {I : nm_I} {M0 : nm_I} (hf : f_X12_laysPath x1 x2 x3 x4 I = some M0) :
    nm_Met l yX12_laysPath cX12_laysPath 10 none { frames := 1, cells := 0, slots := 0, locals := 28 } [.ref (ad 0), .int x1, .int x2, .int x3, .int x4] D Y s0 (nm_W Y X moN ad (I, nJ0, moZ)) (nm_Qv D s0 (nm_W Y X moN ad (M0, nJ0, moZ))) 0 0 := by
  refine nm_of (by decide) (Nat.le_of_ble_eq_true rfl) ?_
  intro p e R s m args below meth c Q ls hx hb hr hlocks hml hown hts hs0 hK hZ hRf hRl hRc hRs hQ hP hD hl
  have hH : nm_H D Y (fun q => s0 ≤ q) s.heap X moN ad (I, nJ0, moZ) s.heap [] := ⟨hP, hD, va_S.rf⟩
  have hl : lv_has ls 10 [(0, .ref (ad 0)), (1, .int x1), (2, .int x2), (3, .int x3), (4, .int x4)] := hl
  unfold f_X12_laysPath at hf
  refine lv_iload_n hx hb dX12_laysPath_0 rfl (lv_at hl 2 rfl) ?_
  refine lv_bipush (v := 64) hx hb dX12_laysPath_1 (by decide) ?_
  refine lv_irem hx hb dX12_laysPath_3 (by decide) ?_
  refine lv_iload_n hx hb dX12_laysPath_4 rfl (lv_at hl 3 rfl) ?_
  refine lv_bipush (v := 64) hx hb dX12_laysPath_5 (by decide) ?_
  refine lv_irem hx hb dX12_laysPath_7 (by decide) ?_
  have hJ22 : ∀ (t22_0 : Int32) (H : Heap) (locs : List Loc) (ls : Array Slot), nm_H D Y (fun q => s0 ≤ q) s.heap X moN ad (I, nJ0, moZ) H locs → lv_has ls 10 [(0, .ref (ad 0)), (1, .int x1), (2, .int x2), (3, .int x3), (4, .int x4)] → f_X12_laysPath_J22 x1 x2 x3 x4 t22_0 I = some M0 → W p l e R s m args below meth c H locs 0 0 Q (F0 m 22 ls [.int t22_0]) := by
    intro t22_0 H locs ls hH hl hf
    unfold f_X12_laysPath_J22 at hf
    refine lv_istore (lv' := [(5, .int t22_0), (0, .ref (ad 0)), (1, .int x1), (2, .int x2), (3, .int x3), (4, .int x4)]) hx hb dX12_laysPath_22 hl (by decide) rfl (fun ls hl => ?_)
    refine lv_iload_n hx hb dX12_laysPath_24 rfl (lv_at hl 3 rfl) ?_
    refine lv_bipush (v := 64) hx hb dX12_laysPath_25 (by decide) ?_
    refine lv_idiv hx hb dX12_laysPath_27 (by decide) ?_
    refine lv_iload_n hx hb dX12_laysPath_28 rfl (lv_at hl 4 rfl) ?_
    refine lv_bipush (v := 64) hx hb dX12_laysPath_29 (by decide) ?_
    refine lv_idiv hx hb dX12_laysPath_31 (by decide) ?_
    have hJ46 : ∀ (t46_0 : Int32) (H : Heap) (locs : List Loc) (ls : Array Slot), nm_H D Y (fun q => s0 ≤ q) s.heap X moN ad (I, nJ0, moZ) H locs → lv_has ls 10 [(0, .ref (ad 0)), (1, .int x1), (2, .int x2), (3, .int x3), (4, .int x4), (5, .int t22_0)] → f_X12_laysPath_J46 x1 x2 x3 x4 t22_0 t46_0 I = some M0 → W p l e R s m args below meth c H locs 0 0 Q (F0 m 46 ls [.int t46_0]) := by
      intro t46_0 H locs ls hH hl hf
      unfold f_X12_laysPath_J46 at hf
      refine lv_istore (lv' := [(6, .int t46_0), (0, .ref (ad 0)), (1, .int x1), (2, .int x2), (3, .int x3), (4, .int x4), (5, .int t22_0)]) hx hb dX12_laysPath_46 hl (by decide) rfl (fun ls hl => ?_)
      refine lv_iload_n hx hb dX12_laysPath_48 rfl (lv_at hl 3 rfl) ?_
      refine lv_bipush (v := 64) hx hb dX12_laysPath_49 (by decide) ?_
      refine lv_irem hx hb dX12_laysPath_51 (by decide) ?_
      refine lv_iload_n hx hb dX12_laysPath_52 rfl (lv_at hl 4 rfl) ?_
      refine lv_bipush (v := 64) hx hb dX12_laysPath_53 (by decide) ?_
      refine lv_irem hx hb dX12_laysPath_55 (by decide) ?_
      have hJ70 : ∀ (t70_0 : Int32) (H : Heap) (locs : List Loc) (ls : Array Slot), nm_H D Y (fun q => s0 ≤ q) s.heap X moN ad (I, nJ0, moZ) H locs → lv_has ls 10 [(0, .ref (ad 0)), (1, .int x1), (2, .int x2), (3, .int x3), (4, .int x4), (5, .int t22_0), (6, .int t46_0)] → f_X12_laysPath_J70 x1 x2 x3 x4 t22_0 t46_0 t70_0 I = some M0 → W p l e R s m args below meth c H locs 0 0 Q (F0 m 70 ls [.int t70_0]) := by
        intro t70_0 H locs ls hH hl hf
        unfold f_X12_laysPath_J70 at hf
        refine lv_istore (lv' := [(7, .int t70_0), (0, .ref (ad 0)), (1, .int x1), (2, .int x2), (3, .int x3), (4, .int x4), (5, .int t22_0), (6, .int t46_0)]) hx hb dX12_laysPath_70 hl (by decide) rfl (fun ls hl => ?_)
        refine lv_iload_n hx hb dX12_laysPath_72 rfl (lv_at hl 3 rfl) ?_
        refine lv_bipush (v := 64) hx hb dX12_laysPath_73 (by decide) ?_
        refine lv_idiv hx hb dX12_laysPath_75 (by decide) ?_
        refine lv_iload_n hx hb dX12_laysPath_76 rfl (lv_at hl 4 rfl) ?_
        refine lv_bipush (v := 64) hx hb dX12_laysPath_77 (by decide) ?_
        refine lv_idiv hx hb dX12_laysPath_79 (by decide) ?_
        have hJ94 : ∀ (t94_0 : Int32) (H : Heap) (locs : List Loc) (ls : Array Slot), nm_H D Y (fun q => s0 ≤ q) s.heap X moN ad (I, nJ0, moZ) H locs → lv_has ls 10 [(0, .ref (ad 0)), (1, .int x1), (4, .int x4), (5, .int t22_0), (6, .int t46_0), (7, .int t70_0)] → f_X12_laysPath_J94 x1 x4 t22_0 t46_0 t70_0 t94_0 I = some M0 → W p l e R s m args below meth c H locs 0 0 Q (F0 m 94 ls [.int t94_0]) := by
          intro t94_0 H locs ls hH hl hf
          unfold f_X12_laysPath_J94 at hf
          refine lv_istore (lv' := [(8, .int t94_0), (0, .ref (ad 0)), (1, .int x1), (4, .int x4), (5, .int t22_0), (6, .int t46_0), (7, .int t70_0)]) hx hb dX12_laysPath_94 hl (by decide) rfl (fun ls hl => ?_)
          refine lv_iload hx hb dX12_laysPath_96 (lv_at hl 3 rfl) ?_
          refine lv_iconst (v := 1) hx hb dX12_laysPath_98 (by decide) ?_
          refine lv_isub hx hb dX12_laysPath_99 ?_
          refine lv_iconst (v := 2) hx hb dX12_laysPath_100 (by decide) ?_
          refine lv_idiv hx hb dX12_laysPath_101 (by decide) ?_
          obtain ⟨v1, ev1, hf⟩ := nm_let hf
          refine nm_topi ev1 ?_
          refine lv_istore (lv' := [(9, .int v1), (8, .int t94_0), (0, .ref (ad 0)), (1, .int x1), (4, .int x4), (5, .int t22_0), (6, .int t46_0), (7, .int t70_0)]) hx hb dX12_laysPath_102 hl (by decide) rfl (fun ls hl => ?_)
          refine lv_iload hx hb dX12_laysPath_104 (lv_at hl 6 rfl) ?_
          refine lv_iload hx hb dX12_laysPath_106 (lv_at hl 1 rfl) ?_
          refine lv_icmp_ne (tgt := 136) hx hb dX12_laysPath_108 (by decide) (fun c2 => ?_) (fun c2 => ?_)
          · have hf := nm_ie c2 hf
            refine lv_aload_n hx hb dX12_laysPath_136 rfl (lv_at hl 2 rfl) ?_
            refine lv_iload_n hx hb dX12_laysPath_137 rfl (lv_at hl 3 rfl) ?_
            refine lv_iload hx hb dX12_laysPath_138 (lv_at hl 5 rfl) ?_
            refine lv_iload hx hb dX12_laysPath_140 (lv_at hl 0 rfl) ?_
            refine lv_isub hx hb dX12_laysPath_142 ?_
            refine lv_iload hx hb dX12_laysPath_143 (lv_at hl 6 rfl) ?_
            refine lv_iload hx hb dX12_laysPath_145 (lv_at hl 4 rfl) ?_
            refine lv_iload hx hb dX12_laysPath_147 (lv_at hl 1 rfl) ?_
            refine lv_iload hx hb dX12_laysPath_149 (lv_at hl 6 rfl) ?_
            refine lv_isub hx hb dX12_laysPath_151 ?_
            refine lv_iconst (v := 1) hx hb dX12_laysPath_152 (by decide) ?_
            refine lv_iadd hx hb dX12_laysPath_153 ?_
            refine lv_iconst (v := 1) hx hb dX12_laysPath_154 (by decide) ?_
            obtain ⟨I3, hc4, hf⟩ := nm_sd1 hf
            refine nm_callv (nm_runV (X := X) (nl := moN) (k_X12_fill (hf := hc4)) hx hb hml hown hts hs0 hK hZ hH tw_1285 tw_1282 tw_1284 (sw_X12_fill) tw_9 hd_X12_fill mo_n0 mo_k0 (by decide) rfl rfl rfl ⟨Nat.le_trans (Nat.le_of_ble_eq_true rfl) hRf, Nat.le_trans (Nat.le_of_ble_eq_true rfl) hRl⟩ rfl hl.1 rfl (Nat.le_of_ble_eq_true rfl) dX12_laysPath_155 ⟨Nat.zero_le _, Nat.zero_le _⟩) hH (fun H locs hH => ?_)
            have hH : nm_H D Y (fun q => s0 ≤ q) s.heap X moN ad (I3, nJ0, moZ) H locs := hH
            exact nm_vret hx hb hr hlocks hQ hH (congrArg (fun q => (q, nJ0, moZ)) (Option.some.inj hf)) dX12_laysPath_158
          · have hf := nm_it c2 hf
            refine lv_aload_n hx hb dX12_laysPath_111 rfl (lv_at hl 2 rfl) ?_
            refine lv_iload_n hx hb dX12_laysPath_112 rfl (lv_at hl 3 rfl) ?_
            refine lv_iload hx hb dX12_laysPath_113 (lv_at hl 5 rfl) ?_
            refine lv_iload hx hb dX12_laysPath_115 (lv_at hl 6 rfl) ?_
            refine lv_iload hx hb dX12_laysPath_117 (lv_at hl 0 rfl) ?_
            refine lv_isub hx hb dX12_laysPath_119 ?_
            refine lv_iload hx hb dX12_laysPath_120 (lv_at hl 7 rfl) ?_
            refine lv_iload hx hb dX12_laysPath_122 (lv_at hl 5 rfl) ?_
            refine lv_isub hx hb dX12_laysPath_124 ?_
            refine lv_iconst (v := 1) hx hb dX12_laysPath_125 (by decide) ?_
            refine lv_iadd hx hb dX12_laysPath_126 ?_
            refine lv_iload hx hb dX12_laysPath_127 (lv_at hl 4 rfl) ?_
            refine lv_iconst (v := 1) hx hb dX12_laysPath_129 (by decide) ?_
            obtain ⟨I5, hc6, hf⟩ := nm_sd1 hf
            refine nm_callv (nm_runV (X := X) (nl := moN) (k_X12_fill (hf := hc6)) hx hb hml hown hts hs0 hK hZ hH tw_1285 tw_1282 tw_1284 (sw_X12_fill) tw_9 hd_X12_fill mo_n0 mo_k0 (by decide) rfl rfl rfl ⟨Nat.le_trans (Nat.le_of_ble_eq_true rfl) hRf, Nat.le_trans (Nat.le_of_ble_eq_true rfl) hRl⟩ rfl hl.1 rfl (Nat.le_of_ble_eq_true rfl) dX12_laysPath_130 ⟨Nat.zero_le _, Nat.zero_le _⟩) hH (fun H locs hH => ?_)
            have hH : nm_H D Y (fun q => s0 ≤ q) s.heap X moN ad (I5, nJ0, moZ) H locs := hH
            refine lv_goto (tgt := 158) hx hb dX12_laysPath_133 (by decide) ?_
            exact nm_vret hx hb hr hlocks hQ hH (congrArg (fun q => (q, nJ0, moZ)) (Option.some.inj hf)) dX12_laysPath_158
        refine lv_icmp_le (tgt := 90) hx hb dX12_laysPath_80 (by decide) (fun c7 => ?_) (fun c7 => ?_)
        · have hf := nm_it c7 hf
          refine lv_iload_n hx hb dX12_laysPath_90 rfl (lv_at hl 4 rfl) ?_
          refine lv_bipush (v := 64) hx hb dX12_laysPath_91 (by decide) ?_
          refine lv_idiv hx hb dX12_laysPath_93 (by decide) ?_
          exact hJ94 (x3 / (64 : Int32)) _ _ _ hH (lv_sub hl [1, 2, 5, 6, 7, 0] rfl) hf
        · have hf := nm_ie c7 hf
          refine lv_iload_n hx hb dX12_laysPath_83 rfl (lv_at hl 3 rfl) ?_
          refine lv_bipush (v := 64) hx hb dX12_laysPath_84 (by decide) ?_
          refine lv_idiv hx hb dX12_laysPath_86 (by decide) ?_
          refine lv_goto (tgt := 94) hx hb dX12_laysPath_87 (by decide) ?_
          exact hJ94 (x2 / (64 : Int32)) _ _ _ hH (lv_sub hl [1, 2, 5, 6, 7, 0] rfl) hf
      refine lv_icmp_le (tgt := 66) hx hb dX12_laysPath_56 (by decide) (fun c8 => ?_) (fun c8 => ?_)
      · have hf := nm_it c8 hf
        refine lv_iload_n hx hb dX12_laysPath_66 rfl (lv_at hl 4 rfl) ?_
        refine lv_bipush (v := 64) hx hb dX12_laysPath_67 (by decide) ?_
        refine lv_irem hx hb dX12_laysPath_69 (by decide) ?_
        exact hJ70 (x3 - x3 / (64 : Int32) * (64 : Int32)) _ _ _ hH (lv_sub hl [1, 2, 3, 4, 5, 6, 0] rfl) hf
      · have hf := nm_ie c8 hf
        refine lv_iload_n hx hb dX12_laysPath_59 rfl (lv_at hl 3 rfl) ?_
        refine lv_bipush (v := 64) hx hb dX12_laysPath_60 (by decide) ?_
        refine lv_irem hx hb dX12_laysPath_62 (by decide) ?_
        refine lv_goto (tgt := 70) hx hb dX12_laysPath_63 (by decide) ?_
        exact hJ70 (x2 - x2 / (64 : Int32) * (64 : Int32)) _ _ _ hH (lv_sub hl [1, 2, 3, 4, 5, 6, 0] rfl) hf
    refine lv_icmp_ge (tgt := 42) hx hb dX12_laysPath_32 (by decide) (fun c9 => ?_) (fun c9 => ?_)
    · have hf := nm_it c9 hf
      refine lv_iload_n hx hb dX12_laysPath_42 rfl (lv_at hl 4 rfl) ?_
      refine lv_bipush (v := 64) hx hb dX12_laysPath_43 (by decide) ?_
      refine lv_idiv hx hb dX12_laysPath_45 (by decide) ?_
      exact hJ46 (x3 / (64 : Int32)) _ _ _ hH (lv_sub hl [1, 2, 3, 4, 5, 0] rfl) hf
    · have hf := nm_ie c9 hf
      refine lv_iload_n hx hb dX12_laysPath_35 rfl (lv_at hl 3 rfl) ?_
      refine lv_bipush (v := 64) hx hb dX12_laysPath_36 (by decide) ?_
      refine lv_idiv hx hb dX12_laysPath_38 (by decide) ?_
      refine lv_goto (tgt := 46) hx hb dX12_laysPath_39 (by decide) ?_
      exact hJ46 (x2 / (64 : Int32)) _ _ _ hH (lv_sub hl [1, 2, 3, 4, 5, 0] rfl) hf
  refine lv_icmp_ge (tgt := 18) hx hb dX12_laysPath_8 (by decide) (fun c10 => ?_) (fun c10 => ?_)
  · have hf := nm_it c10 hf
    refine lv_iload_n hx hb dX12_laysPath_18 rfl (lv_at hl 3 rfl) ?_
    refine lv_bipush (v := 64) hx hb dX12_laysPath_19 (by decide) ?_
    refine lv_irem hx hb dX12_laysPath_21 (by decide) ?_
    exact hJ22 (x3 - x3 / (64 : Int32) * (64 : Int32)) _ _ _ hH (lv_sub hl [0, 1, 2, 3, 4] rfl) hf
  · have hf := nm_ie c10 hf
    refine lv_iload_n hx hb dX12_laysPath_11 rfl (lv_at hl 2 rfl) ?_
    refine lv_bipush (v := 64) hx hb dX12_laysPath_12 (by decide) ?_
    refine lv_irem hx hb dX12_laysPath_14 (by decide) ?_
    refine lv_goto (tgt := 22) hx hb dX12_laysPath_15 (by decide) ?_
    exact hJ22 (x2 - x2 / (64 : Int32) * (64 : Int32)) _ _ _ hH (lv_sub hl [0, 1, 2, 3, 4] rfl) hf
def f_X12_laysOwn_L17 (v3 : Int32) : Nat → Int32 → nm_I → Option (nm_I)
  | 0, _, _ => none
  | n17 + 1, x4, I4 =>
    (if (4096 : Int32) ≤ x4 then
    some I4
    else
    nm_c (v3 + x4) 262144 (
    nm_l (nm_up I4 13 ((v3 + x4).toNatClampNeg) (vp_nar .boolean (0 : Int32))) fun I7 =>
    f_X12_laysOwn_L17 v3 n17 (x4 + 1) I7))
def f_X12_laysOwn_J170 (x4 : Int32) (I14 : nm_I) (k : Int32 → nm_I → Option (nm_I)) : Option (nm_I) :=
k (x4 + 1) I14
def f_X12_laysOwn_J133 (v3 : Int32) (x4 : Int32) (I17 : nm_I) (k : Int32 → nm_I → Option (nm_I)) : Option (nm_I) :=
nm_c x4 128 (
(if (I17 1 x4.toNatClampNeg) = (2 : Int32) then
nm_c x4 128 (
nm_c x4 128 (
nm_c x4 128 (
nm_s1 (f_X12_laysPath v3 (I17 3 x4.toNatClampNeg) (I17 4 x4.toNatClampNeg) (I17 5 x4.toNatClampNeg) I17) fun I23 =>
f_X12_laysOwn_J170 x4 I23 k)))
else
f_X12_laysOwn_J170 x4 I17 k))
def f_X12_laysOwn_L47 (x1 : Int32) (x2 : Int32) (v3 : Int32) : Nat → Int32 → nm_I → Option (nm_I)
  | 0, _, _ => none
  | n47 + 1, x4, I10 =>
    nm_c x1 8 (
    (if (((16 : Int32) * x1) + (I10 8 x1.toNatClampNeg)) ≤ x4 then
    some I10
    else
    nm_c x4 128 (
    (if (I10 2 x4.toNatClampNeg) = x2 then
    nm_c x4 128 (
    (if (I10 1 x4.toNatClampNeg) = 0 then
    nm_c x4 128 (
    nm_c x4 128 (
    nm_c x4 128 (
    nm_c x4 128 (
    nm_s1 (f_X12_fill v3 ((I10 3 x4.toNatClampNeg) - (I10 3 x4.toNatClampNeg) / (64 : Int32) * (64 : Int32)) ((I10 3 x4.toNatClampNeg) / (64 : Int32)) ((I10 4 x4.toNatClampNeg) / (100 : Int32)) ((I10 4 x4.toNatClampNeg) - (I10 4 x4.toNatClampNeg) / (100 : Int32) * (100 : Int32)) (1 : Int32) I10) fun I30 =>
    f_X12_laysOwn_J133 v3 x4 I30 (f_X12_laysOwn_L47 x1 x2 v3 n47)))))
    else
    f_X12_laysOwn_J133 v3 x4 I10 (f_X12_laysOwn_L47 x1 x2 v3 n47)))
    else
    f_X12_laysOwn_J170 x4 I10 (f_X12_laysOwn_L47 x1 x2 v3 n47)))))
def f_X12_laysOwn_J266 (x4 : Int32) (I38 : nm_I) (k : Int32 → nm_I → Option (nm_I)) : Option (nm_I) :=
k (x4 + 1) I38
def f_X12_laysOwn_L182 (x1 : Int32) (x2 : Int32) (v3 : Int32) : Nat → Int32 → nm_I → Option (nm_I)
  | 0, _, _ => none
  | n182 + 1, x4, I34 =>
    nm_c x1 8 (
    (if (((16 : Int32) * x1) + (I34 8 x1.toNatClampNeg)) ≤ x4 then
    some I34
    else
    nm_c x4 128 (
    (if (I34 1 x4.toNatClampNeg) = (1 : Int32) then
    nm_c x4 128 (
    (if (I34 2 x4.toNatClampNeg) = x2 then
    nm_c x4 128 (
    nm_c x4 128 (
    nm_c x4 128 (
    nm_c x4 128 (
    nm_s1 (f_X12_fill v3 ((I34 3 x4.toNatClampNeg) - (I34 3 x4.toNatClampNeg) / (64 : Int32) * (64 : Int32)) ((I34 3 x4.toNatClampNeg) / (64 : Int32)) ((I34 4 x4.toNatClampNeg) / (100 : Int32)) ((I34 4 x4.toNatClampNeg) - (I34 4 x4.toNatClampNeg) / (100 : Int32) * (100 : Int32)) (0 : Int32) I34) fun I46 =>
    f_X12_laysOwn_J266 x4 I46 (f_X12_laysOwn_L182 x1 x2 v3 n182)))))
    else
    f_X12_laysOwn_J266 x4 I34 (f_X12_laysOwn_L182 x1 x2 v3 n182)))
    else
    f_X12_laysOwn_J266 x4 I34 (f_X12_laysOwn_L182 x1 x2 v3 n182)))))
def f_X12_laysOwn_L2 (x1 : Int32) : Nat → Int32 → nm_I → Option (nm_I)
  | 0, _, _ => none
  | n2 + 1, x2, I1 =>
    (if (8 : Int32) ≤ x2 then
    some I1
    else
    nm_l (f_X12_flatAt x1 x2) fun v3 =>
    nm_s1 (f_X12_laysOwn_L17 v3 nm_F (0 : Int32) I1) fun I8 =>
    nm_l ((16 : Int32) * x1) fun v9 =>
    nm_s1 (f_X12_laysOwn_L47 x1 x2 v3 nm_F v9 I8) fun I32 =>
    nm_l ((16 : Int32) * x1) fun v33 =>
    nm_s1 (f_X12_laysOwn_L182 x1 x2 v3 nm_F v33 I32) fun I48 =>
    f_X12_laysOwn_L2 x1 n2 (x2 + 1) I48)
def f_X12_laysOwn (x1 : Int32) (I : nm_I) : Option (nm_I) :=
nm_s1 (f_X12_laysOwn_L2 x1 nm_F (0 : Int32) I) fun I52 =>
some I52
set_option maxHeartbeats 4000000 in
set_option maxRecDepth 100000 in
theorem k_X12_laysOwn {l : Launch} {D : va_G} {Y : nm_Y} {s0 : Nat} {X : va_W} {ad : Nat → Nat}  {x1 : Int32} {I : nm_I} {M0 : nm_I} (hf : f_X12_laysOwn x1 I = some M0) :
    nm_Met l yX12_laysOwn cX12_laysOwn 5 none { frames := 2, cells := 0, slots := 0, locals := 57 } [.ref (ad 0), .int x1] D Y s0 (nm_W Y X moN ad (I, nJ0, moZ)) (nm_Qv D s0 (nm_W Y X moN ad (M0, nJ0, moZ))) 0 0 := by
  refine nm_of (by decide) (Nat.le_of_ble_eq_true rfl) ?_
  intro p e R s m args below meth c Q ls hx hb hr hlocks hml hown hts hs0 hK hZ hRf hRl hRc hRs hQ hP hD hl
  have hH : nm_H D Y (fun q => s0 ≤ q) s.heap X moN ad (I, nJ0, moZ) s.heap [] := ⟨hP, hD, va_S.rf⟩
  have hl : lv_has ls 5 [(0, .ref (ad 0)), (1, .int x1)] := hl
  unfold f_X12_laysOwn at hf
  refine lv_iconst (v := 0) hx hb dX12_laysOwn_0 (by decide) ?_
  refine lv_istore_n (lv' := [(2, .int (0 : Int32)), (0, .ref (ad 0)), (1, .int x1)]) hx hb dX12_laysOwn_1 rfl hl (by decide) rfl (fun ls hl => ?_)
  have hL2 : ∀ (n2 : Nat) (x2 : Int32) (I1 : nm_I) (H : Heap) (locs : List Loc) (ls : Array Slot) (o2 : nm_I), nm_H D Y (fun q => s0 ≤ q) s.heap X moN ad (I1, nJ0, moZ) H locs → lv_has ls 5 [(0, .ref (ad 0)), (1, .int x1), (2, .int x2)] → f_X12_laysOwn_L2 x1 n2 x2 I1 = some o2 → (∀ (H : Heap) (locs : List Loc) (ls : Array Slot), nm_H D Y (fun q => s0 ≤ q) s.heap X moN ad (o2, nJ0, moZ) H locs → lv_has ls 5 [] → W p l e R s m args below meth c H locs 0 0 Q (F0 m 278 ls [])) → W p l e R s m args below meth c H locs 0 0 Q (F0 m 2 ls []) := by
    intro n2
    induction n2 with
    | zero =>
      intro x2 I1 H locs ls o2 hH hl hf hX2
      cases hf
    | succ n2 ih2 =>
      intro x2 I1 H locs ls o2 hH hl hf hX2
      rw [f_X12_laysOwn_L2] at hf
      refine lv_iload_n hx hb dX12_laysOwn_2 rfl (lv_at hl 2 rfl) ?_
      refine lv_bipush (v := 8) hx hb dX12_laysOwn_3 (by decide) ?_
      refine lv_icmp_ge (tgt := 278) hx hb dX12_laysOwn_5 (by decide) (fun c2 => ?_) (fun c2 => ?_)
      · have hf := nm_it c2 hf
        cases hf
        exact hX2 _ _ _ hH (lv_sub hl [] rfl)
      · have hf := nm_ie c2 hf
        refine lv_iload_n hx hb dX12_laysOwn_8 rfl (lv_at hl 1 rfl) ?_
        refine lv_iload_n hx hb dX12_laysOwn_9 rfl (lv_at hl 2 rfl) ?_
        refine nm_calli (nm_runS (X := X) (nl := moN) (k_X12_flatAt (hf := (rfl : f_X12_flatAt x1 x2 = _))) hx hb hml hown hts hs0 hK hZ hH tw_1281 tw_1279 tw_1280 tw_9 hd_X12_flatAt rfl rfl ⟨Nat.le_trans (Nat.le_of_ble_eq_true rfl) hRf, Nat.le_trans (Nat.le_of_ble_eq_true rfl) hRl⟩ rfl hl.1 rfl (Nat.le_of_ble_eq_true rfl) dX12_laysOwn_10 ⟨Nat.zero_le _, Nat.zero_le _⟩) hH (fun H locs hH => ?_)
        have hH : nm_H D Y (fun q => s0 ≤ q) s.heap X moN ad (I1, nJ0, moZ) H locs := hH
        obtain ⟨v3, ev3, hf⟩ := nm_let hf
        refine nm_topi ev3 ?_
        refine lv_istore_n (lv' := [(3, .int v3), (0, .ref (ad 0)), (1, .int x1), (2, .int x2)]) hx hb dX12_laysOwn_13 rfl hl (by decide) rfl (fun ls hl => ?_)
        refine lv_iconst (v := 0) hx hb dX12_laysOwn_14 (by decide) ?_
        refine lv_istore (lv' := [(4, .int (0 : Int32)), (3, .int v3), (0, .ref (ad 0)), (1, .int x1), (2, .int x2)]) hx hb dX12_laysOwn_15 hl (by decide) rfl (fun ls hl => ?_)
        have hL17 : ∀ (n17 : Nat) (x4 : Int32) (I4 : nm_I) (H : Heap) (locs : List Loc) (ls : Array Slot) (o17 : nm_I), nm_H D Y (fun q => s0 ≤ q) s.heap X moN ad (I4, nJ0, moZ) H locs → lv_has ls 5 [(0, .ref (ad 0)), (1, .int x1), (2, .int x2), (3, .int v3), (4, .int x4)] → f_X12_laysOwn_L17 v3 n17 x4 I4 = some o17 → (∀ (H : Heap) (locs : List Loc) (ls : Array Slot), nm_H D Y (fun q => s0 ≤ q) s.heap X moN ad (o17, nJ0, moZ) H locs → lv_has ls 5 [(0, .ref (ad 0)), (1, .int x1), (2, .int x2), (3, .int v3)] → W p l e R s m args below meth c H locs 0 0 Q (F0 m 41 ls [])) → W p l e R s m args below meth c H locs 0 0 Q (F0 m 17 ls []) := by
          intro n17
          induction n17 with
          | zero =>
            intro x4 I4 H locs ls o17 hH hl hf hX17
            cases hf
          | succ n17 ih17 =>
            intro x4 I4 H locs ls o17 hH hl hf hX17
            rw [f_X12_laysOwn_L17] at hf
            refine lv_iload hx hb dX12_laysOwn_17 (lv_at hl 4 rfl) ?_
            refine lv_sipush (v := 4096) hx hb dX12_laysOwn_19 (by decide) ?_
            refine lv_icmp_ge (tgt := 41) hx hb dX12_laysOwn_22 (by decide) (fun c5 => ?_) (fun c5 => ?_)
            · have hf := nm_it c5 hf
              cases hf
              exact hX17 _ _ _ hH (lv_sub hl [0, 1, 2, 3] rfl)
            · have hf := nm_ie c5 hf
              refine lv_aload_n hx hb dX12_laysOwn_25 rfl (lv_at hl 0 rfl) ?_
              refine gf_12_12 hK hx hb hts hown hH mo_n0 mo_k0 (hts _ tw_968) (fun _ h9 => h9) dX12_laysOwn_26 ?_
              refine lv_iload_n hx hb dX12_laysOwn_29 rfl (lv_at hl 3 rfl) ?_
              refine lv_iload hx hb dX12_laysOwn_30 (lv_at hl 4 rfl) ?_
              refine lv_iadd hx hb dX12_laysOwn_32 ?_
              refine lv_iconst (v := 0) hx hb dX12_laysOwn_33 (by decide) ?_
              obtain ⟨hi6, hf⟩ := nm_chk hf
              obtain ⟨I7, eI7, hf⟩ := nm_let hf
              refine nm_zast hx hb hK hH mo_n13 mo_k13 mo_l13 hi6 dX12_laysOwn_34 (fun H locs hH => ?_)
              have hH : nm_H D Y (fun q => s0 ≤ q) s.heap X moN ad (I7, nJ0, moZ) H locs := by rw [eI7]; exact hH
              refine lv_iinc (v := x4 + 1) (lv' := [(4, .int (x4 + 1)), (0, .ref (ad 0)), (1, .int x1), (2, .int x2), (3, .int v3)]) hx hb dX12_laysOwn_35 hl (k := 4) rfl rfl (by decide) rfl (fun ls hl => ?_)
              refine lv_goto (tgt := 17) hx hb dX12_laysOwn_38 (by decide) ?_
              exact ih17 (x4 + 1) I7 _ _ _ _ hH (lv_sub hl [1, 2, 3, 4, 0] rfl) hf hX17
        obtain ⟨I8, hl51, hf⟩ := nm_sd1 hf
        refine hL17 nm_F (0 : Int32) I1 _ _ _ _ hH (lv_sub hl [2, 3, 4, 1, 0] rfl) hl51 (fun H locs ls hH hl => ?_)
        have hl : lv_has ls 5 [(0, .ref (ad 0)), (1, .int x1), (2, .int x2), (3, .int v3)] := hl
        have hH : nm_H D Y (fun q => s0 ≤ q) s.heap X moN ad (I8, nJ0, moZ) H locs := hH
        refine lv_bipush (v := 16) hx hb dX12_laysOwn_41 (by decide) ?_
        refine lv_iload_n hx hb dX12_laysOwn_43 rfl (lv_at hl 1 rfl) ?_
        refine lv_imul hx hb dX12_laysOwn_44 ?_
        obtain ⟨v9, ev9, hf⟩ := nm_let hf
        refine nm_topi ev9 ?_
        refine lv_istore (lv' := [(4, .int v9), (0, .ref (ad 0)), (1, .int x1), (2, .int x2), (3, .int v3)]) hx hb dX12_laysOwn_45 hl (by decide) rfl (fun ls hl => ?_)
        have hL47 : ∀ (n47 : Nat) (x4 : Int32) (I10 : nm_I) (H : Heap) (locs : List Loc) (ls : Array Slot) (o47 : nm_I), nm_H D Y (fun q => s0 ≤ q) s.heap X moN ad (I10, nJ0, moZ) H locs → lv_has ls 5 [(0, .ref (ad 0)), (1, .int x1), (2, .int x2), (3, .int v3), (4, .int x4)] → f_X12_laysOwn_L47 x1 x2 v3 n47 x4 I10 = some o47 → (∀ (H : Heap) (locs : List Loc) (ls : Array Slot), nm_H D Y (fun q => s0 ≤ q) s.heap X moN ad (o47, nJ0, moZ) H locs → lv_has ls 5 [(0, .ref (ad 0)), (1, .int x1), (2, .int x2), (3, .int v3)] → W p l e R s m args below meth c H locs 0 0 Q (F0 m 176 ls [])) → W p l e R s m args below meth c H locs 0 0 Q (F0 m 47 ls []) := by
          intro n47
          induction n47 with
          | zero =>
            intro x4 I10 H locs ls o47 hH hl hf hX47
            cases hf
          | succ n47 ih47 =>
            intro x4 I10 H locs ls o47 hH hl hf hX47
            rw [f_X12_laysOwn_L47] at hf
            refine lv_iload hx hb dX12_laysOwn_47 (lv_at hl 4 rfl) ?_
            refine lv_bipush (v := 16) hx hb dX12_laysOwn_49 (by decide) ?_
            refine lv_iload_n hx hb dX12_laysOwn_51 rfl (lv_at hl 1 rfl) ?_
            refine lv_imul hx hb dX12_laysOwn_52 ?_
            refine lv_aload_n hx hb dX12_laysOwn_53 rfl (lv_at hl 0 rfl) ?_
            refine gf_12_7 hK hx hb hts hown hH mo_n0 mo_k0 (hts _ tw_963) (fun _ h9 => h9) dX12_laysOwn_54 ?_
            refine lv_iload_n hx hb dX12_laysOwn_57 rfl (lv_at hl 1 rfl) ?_
            obtain ⟨hi11, hf⟩ := nm_chk hf
            refine nm_iald hx hb hK hH mo_n8 mo_k8 mo_l8 hi11 dX12_laysOwn_58 ?_
            refine lv_iadd hx hb dX12_laysOwn_59 ?_
            refine lv_icmp_ge (tgt := 176) hx hb dX12_laysOwn_60 (by decide) (fun c12 => ?_) (fun c12 => ?_)
            · have hf := nm_it c12 hf
              cases hf
              exact hX47 _ _ _ hH (lv_sub hl [0, 1, 2, 3] rfl)
            · have hf := nm_ie c12 hf
              refine lv_aload_n hx hb dX12_laysOwn_63 rfl (lv_at hl 0 rfl) ?_
              refine gf_12_1 hK hx hb hts hown hH mo_n0 mo_k0 (hts _ tw_957) (fun _ h9 => h9) dX12_laysOwn_64 ?_
              refine lv_iload hx hb dX12_laysOwn_67 (lv_at hl 4 rfl) ?_
              obtain ⟨hi13, hf⟩ := nm_chk hf
              refine nm_iald hx hb hK hH mo_n2 mo_k2 mo_l2 hi13 dX12_laysOwn_69 ?_
              refine lv_iload_n hx hb dX12_laysOwn_70 rfl (lv_at hl 2 rfl) ?_
              have hJ170 : ∀ (I14 : nm_I) (H : Heap) (locs : List Loc) (ls : Array Slot), nm_H D Y (fun q => s0 ≤ q) s.heap X moN ad (I14, nJ0, moZ) H locs → lv_has ls 5 [(0, .ref (ad 0)), (1, .int x1), (2, .int x2), (3, .int v3), (4, .int x4)] → f_X12_laysOwn_J170 x4 I14 (f_X12_laysOwn_L47 x1 x2 v3 n47) = some o47 → W p l e R s m args below meth c H locs 0 0 Q (F0 m 170 ls []) := by
                intro I14 H locs ls hH hl hf
                unfold f_X12_laysOwn_J170 at hf
                refine lv_iinc (v := x4 + 1) (lv' := [(4, .int (x4 + 1)), (0, .ref (ad 0)), (1, .int x1), (2, .int x2), (3, .int v3)]) hx hb dX12_laysOwn_170 hl (k := 4) rfl rfl (by decide) rfl (fun ls hl => ?_)
                refine lv_goto (tgt := 47) hx hb dX12_laysOwn_173 (by decide) ?_
                exact ih47 (x4 + 1) I14 _ _ _ _ hH (lv_sub hl [1, 2, 3, 4, 0] rfl) hf hX47
              refine lv_icmp_eq (tgt := 77) hx hb dX12_laysOwn_71 (by decide) (fun c15 => ?_) (fun c15 => ?_)
              · have hf := nm_it c15 hf
                refine lv_aload_n hx hb dX12_laysOwn_77 rfl (lv_at hl 0 rfl) ?_
                refine gf_12_0 hK hx hb hts hown hH mo_n0 mo_k0 (hts _ tw_956) (fun _ h9 => h9) dX12_laysOwn_78 ?_
                refine lv_iload hx hb dX12_laysOwn_81 (lv_at hl 4 rfl) ?_
                obtain ⟨hi16, hf⟩ := nm_chk hf
                refine nm_iald hx hb hK hH mo_n1 mo_k1 mo_l1 hi16 dX12_laysOwn_83 ?_
                have hJ133 : ∀ (I17 : nm_I) (H : Heap) (locs : List Loc) (ls : Array Slot), nm_H D Y (fun q => s0 ≤ q) s.heap X moN ad (I17, nJ0, moZ) H locs → lv_has ls 5 [(0, .ref (ad 0)), (1, .int x1), (2, .int x2), (3, .int v3), (4, .int x4)] → f_X12_laysOwn_J133 v3 x4 I17 (f_X12_laysOwn_L47 x1 x2 v3 n47) = some o47 → W p l e R s m args below meth c H locs 0 0 Q (F0 m 133 ls []) := by
                  intro I17 H locs ls hH hl hf
                  unfold f_X12_laysOwn_J133 at hf
                  refine lv_aload_n hx hb dX12_laysOwn_133 rfl (lv_at hl 0 rfl) ?_
                  refine gf_12_0 hK hx hb hts hown hH mo_n0 mo_k0 (hts _ tw_956) (fun _ h9 => h9) dX12_laysOwn_134 ?_
                  refine lv_iload hx hb dX12_laysOwn_137 (lv_at hl 4 rfl) ?_
                  obtain ⟨hi18, hf⟩ := nm_chk hf
                  refine nm_iald hx hb hK hH mo_n1 mo_k1 mo_l1 hi18 dX12_laysOwn_139 ?_
                  refine lv_iconst (v := 2) hx hb dX12_laysOwn_140 (by decide) ?_
                  refine lv_icmp_ne (tgt := 170) hx hb dX12_laysOwn_141 (by decide) (fun c19 => ?_) (fun c19 => ?_)
                  · have hf := nm_ie c19 hf
                    exact hJ170  I17 _ _ _ hH (lv_sub hl [0, 1, 2, 3, 4] rfl) hf
                  · have hf := nm_it c19 hf
                    refine lv_aload_n hx hb dX12_laysOwn_144 rfl (lv_at hl 0 rfl) ?_
                    refine lv_iload_n hx hb dX12_laysOwn_145 rfl (lv_at hl 3 rfl) ?_
                    refine lv_aload_n hx hb dX12_laysOwn_146 rfl (lv_at hl 0 rfl) ?_
                    refine gf_12_2 hK hx hb hts hown hH mo_n0 mo_k0 (hts _ tw_958) (fun _ h9 => h9) dX12_laysOwn_147 ?_
                    refine lv_iload hx hb dX12_laysOwn_150 (lv_at hl 4 rfl) ?_
                    obtain ⟨hi20, hf⟩ := nm_chk hf
                    refine nm_iald hx hb hK hH mo_n3 mo_k3 mo_l3 hi20 dX12_laysOwn_152 ?_
                    refine lv_aload_n hx hb dX12_laysOwn_153 rfl (lv_at hl 0 rfl) ?_
                    refine gf_12_3 hK hx hb hts hown hH mo_n0 mo_k0 (hts _ tw_959) (fun _ h9 => h9) dX12_laysOwn_154 ?_
                    refine lv_iload hx hb dX12_laysOwn_157 (lv_at hl 4 rfl) ?_
                    obtain ⟨hi21, hf⟩ := nm_chk hf
                    refine nm_iald hx hb hK hH mo_n4 mo_k4 mo_l4 hi21 dX12_laysOwn_159 ?_
                    refine lv_aload_n hx hb dX12_laysOwn_160 rfl (lv_at hl 0 rfl) ?_
                    refine gf_12_4 hK hx hb hts hown hH mo_n0 mo_k0 (hts _ tw_960) (fun _ h9 => h9) dX12_laysOwn_161 ?_
                    refine lv_iload hx hb dX12_laysOwn_164 (lv_at hl 4 rfl) ?_
                    obtain ⟨hi22, hf⟩ := nm_chk hf
                    refine nm_iald hx hb hK hH mo_n5 mo_k5 mo_l5 hi22 dX12_laysOwn_166 ?_
                    obtain ⟨I23, hc24, hf⟩ := nm_sd1 hf
                    refine nm_callv (nm_runV (X := X) (nl := moN) (k_X12_laysPath (hf := hc24)) hx hb hml hown hts hs0 hK hZ hH tw_1289 tw_1286 tw_1288 (sw_X12_laysPath) tw_9 hd_X12_laysPath mo_n0 mo_k0 (by decide) rfl rfl rfl ⟨Nat.le_trans (Nat.le_of_ble_eq_true rfl) hRf, Nat.le_trans (Nat.le_of_ble_eq_true rfl) hRl⟩ rfl hl.1 rfl (Nat.le_of_ble_eq_true rfl) dX12_laysOwn_167 ⟨Nat.zero_le _, Nat.zero_le _⟩) hH (fun H locs hH => ?_)
                    have hH : nm_H D Y (fun q => s0 ≤ q) s.heap X moN ad (I23, nJ0, moZ) H locs := hH
                    exact hJ170  I23 _ _ _ hH (lv_sub hl [0, 1, 2, 3, 4] rfl) hf
                refine lv_if_ne (tgt := 133) hx hb dX12_laysOwn_84 (by decide) (fun c25 => ?_) (fun c25 => ?_)
                · have hf := nm_ie c25 hf
                  exact hJ133  I10 _ _ _ hH (lv_sub hl [0, 1, 2, 3, 4] rfl) hf
                · have hf := nm_it c25 hf
                  refine lv_aload_n hx hb dX12_laysOwn_87 rfl (lv_at hl 0 rfl) ?_
                  refine lv_iload_n hx hb dX12_laysOwn_88 rfl (lv_at hl 3 rfl) ?_
                  refine lv_aload_n hx hb dX12_laysOwn_89 rfl (lv_at hl 0 rfl) ?_
                  refine gf_12_2 hK hx hb hts hown hH mo_n0 mo_k0 (hts _ tw_958) (fun _ h9 => h9) dX12_laysOwn_90 ?_
                  refine lv_iload hx hb dX12_laysOwn_93 (lv_at hl 4 rfl) ?_
                  obtain ⟨hi26, hf⟩ := nm_chk hf
                  refine nm_iald hx hb hK hH mo_n3 mo_k3 mo_l3 hi26 dX12_laysOwn_95 ?_
                  refine lv_bipush (v := 64) hx hb dX12_laysOwn_96 (by decide) ?_
                  refine lv_irem hx hb dX12_laysOwn_98 (by decide) ?_
                  refine lv_aload_n hx hb dX12_laysOwn_99 rfl (lv_at hl 0 rfl) ?_
                  refine gf_12_2 hK hx hb hts hown hH mo_n0 mo_k0 (hts _ tw_958) (fun _ h9 => h9) dX12_laysOwn_100 ?_
                  refine lv_iload hx hb dX12_laysOwn_103 (lv_at hl 4 rfl) ?_
                  obtain ⟨hi27, hf⟩ := nm_chk hf
                  refine nm_iald hx hb hK hH mo_n3 mo_k3 mo_l3 hi27 dX12_laysOwn_105 ?_
                  refine lv_bipush (v := 64) hx hb dX12_laysOwn_106 (by decide) ?_
                  refine lv_idiv hx hb dX12_laysOwn_108 (by decide) ?_
                  refine lv_aload_n hx hb dX12_laysOwn_109 rfl (lv_at hl 0 rfl) ?_
                  refine gf_12_3 hK hx hb hts hown hH mo_n0 mo_k0 (hts _ tw_959) (fun _ h9 => h9) dX12_laysOwn_110 ?_
                  refine lv_iload hx hb dX12_laysOwn_113 (lv_at hl 4 rfl) ?_
                  obtain ⟨hi28, hf⟩ := nm_chk hf
                  refine nm_iald hx hb hK hH mo_n4 mo_k4 mo_l4 hi28 dX12_laysOwn_115 ?_
                  refine lv_bipush (v := 100) hx hb dX12_laysOwn_116 (by decide) ?_
                  refine lv_idiv hx hb dX12_laysOwn_118 (by decide) ?_
                  refine lv_aload_n hx hb dX12_laysOwn_119 rfl (lv_at hl 0 rfl) ?_
                  refine gf_12_3 hK hx hb hts hown hH mo_n0 mo_k0 (hts _ tw_959) (fun _ h9 => h9) dX12_laysOwn_120 ?_
                  refine lv_iload hx hb dX12_laysOwn_123 (lv_at hl 4 rfl) ?_
                  obtain ⟨hi29, hf⟩ := nm_chk hf
                  refine nm_iald hx hb hK hH mo_n4 mo_k4 mo_l4 hi29 dX12_laysOwn_125 ?_
                  refine lv_bipush (v := 100) hx hb dX12_laysOwn_126 (by decide) ?_
                  refine lv_irem hx hb dX12_laysOwn_128 (by decide) ?_
                  refine lv_iconst (v := 1) hx hb dX12_laysOwn_129 (by decide) ?_
                  obtain ⟨I30, hc31, hf⟩ := nm_sd1 hf
                  refine nm_callv (nm_runV (X := X) (nl := moN) (k_X12_fill (hf := hc31)) hx hb hml hown hts hs0 hK hZ hH tw_1285 tw_1282 tw_1284 (sw_X12_fill) tw_9 hd_X12_fill mo_n0 mo_k0 (by decide) rfl rfl rfl ⟨Nat.le_trans (Nat.le_of_ble_eq_true rfl) hRf, Nat.le_trans (Nat.le_of_ble_eq_true rfl) hRl⟩ rfl hl.1 rfl (Nat.le_of_ble_eq_true rfl) dX12_laysOwn_130 ⟨Nat.zero_le _, Nat.zero_le _⟩) hH (fun H locs hH => ?_)
                  have hH : nm_H D Y (fun q => s0 ≤ q) s.heap X moN ad (I30, nJ0, moZ) H locs := hH
                  exact hJ133  I30 _ _ _ hH (lv_sub hl [0, 1, 2, 3, 4] rfl) hf
              · have hf := nm_ie c15 hf
                refine lv_goto (tgt := 170) hx hb dX12_laysOwn_74 (by decide) ?_
                exact hJ170  I10 _ _ _ hH (lv_sub hl [0, 1, 2, 3, 4] rfl) hf
        obtain ⟨I32, hl50, hf⟩ := nm_sd1 hf
        refine hL47 nm_F v9 I8 _ _ _ _ hH (lv_sub hl [1, 2, 3, 4, 0] rfl) hl50 (fun H locs ls hH hl => ?_)
        have hl : lv_has ls 5 [(0, .ref (ad 0)), (1, .int x1), (2, .int x2), (3, .int v3)] := hl
        have hH : nm_H D Y (fun q => s0 ≤ q) s.heap X moN ad (I32, nJ0, moZ) H locs := hH
        refine lv_bipush (v := 16) hx hb dX12_laysOwn_176 (by decide) ?_
        refine lv_iload_n hx hb dX12_laysOwn_178 rfl (lv_at hl 1 rfl) ?_
        refine lv_imul hx hb dX12_laysOwn_179 ?_
        obtain ⟨v33, ev33, hf⟩ := nm_let hf
        refine nm_topi ev33 ?_
        refine lv_istore (lv' := [(4, .int v33), (0, .ref (ad 0)), (1, .int x1), (2, .int x2), (3, .int v3)]) hx hb dX12_laysOwn_180 hl (by decide) rfl (fun ls hl => ?_)
        have hL182 : ∀ (n182 : Nat) (x4 : Int32) (I34 : nm_I) (H : Heap) (locs : List Loc) (ls : Array Slot) (o182 : nm_I), nm_H D Y (fun q => s0 ≤ q) s.heap X moN ad (I34, nJ0, moZ) H locs → lv_has ls 5 [(0, .ref (ad 0)), (1, .int x1), (2, .int x2), (3, .int v3), (4, .int x4)] → f_X12_laysOwn_L182 x1 x2 v3 n182 x4 I34 = some o182 → (∀ (H : Heap) (locs : List Loc) (ls : Array Slot), nm_H D Y (fun q => s0 ≤ q) s.heap X moN ad (o182, nJ0, moZ) H locs → lv_has ls 5 [(0, .ref (ad 0)), (1, .int x1), (2, .int x2)] → W p l e R s m args below meth c H locs 0 0 Q (F0 m 272 ls [])) → W p l e R s m args below meth c H locs 0 0 Q (F0 m 182 ls []) := by
          intro n182
          induction n182 with
          | zero =>
            intro x4 I34 H locs ls o182 hH hl hf hX182
            cases hf
          | succ n182 ih182 =>
            intro x4 I34 H locs ls o182 hH hl hf hX182
            rw [f_X12_laysOwn_L182] at hf
            refine lv_iload hx hb dX12_laysOwn_182 (lv_at hl 4 rfl) ?_
            refine lv_bipush (v := 16) hx hb dX12_laysOwn_184 (by decide) ?_
            refine lv_iload_n hx hb dX12_laysOwn_186 rfl (lv_at hl 1 rfl) ?_
            refine lv_imul hx hb dX12_laysOwn_187 ?_
            refine lv_aload_n hx hb dX12_laysOwn_188 rfl (lv_at hl 0 rfl) ?_
            refine gf_12_7 hK hx hb hts hown hH mo_n0 mo_k0 (hts _ tw_963) (fun _ h9 => h9) dX12_laysOwn_189 ?_
            refine lv_iload_n hx hb dX12_laysOwn_192 rfl (lv_at hl 1 rfl) ?_
            obtain ⟨hi35, hf⟩ := nm_chk hf
            refine nm_iald hx hb hK hH mo_n8 mo_k8 mo_l8 hi35 dX12_laysOwn_193 ?_
            refine lv_iadd hx hb dX12_laysOwn_194 ?_
            refine lv_icmp_ge (tgt := 272) hx hb dX12_laysOwn_195 (by decide) (fun c36 => ?_) (fun c36 => ?_)
            · have hf := nm_it c36 hf
              cases hf
              exact hX182 _ _ _ hH (lv_sub hl [0, 1, 2] rfl)
            · have hf := nm_ie c36 hf
              refine lv_aload_n hx hb dX12_laysOwn_198 rfl (lv_at hl 0 rfl) ?_
              refine gf_12_0 hK hx hb hts hown hH mo_n0 mo_k0 (hts _ tw_956) (fun _ h9 => h9) dX12_laysOwn_199 ?_
              refine lv_iload hx hb dX12_laysOwn_202 (lv_at hl 4 rfl) ?_
              obtain ⟨hi37, hf⟩ := nm_chk hf
              refine nm_iald hx hb hK hH mo_n1 mo_k1 mo_l1 hi37 dX12_laysOwn_204 ?_
              refine lv_iconst (v := 1) hx hb dX12_laysOwn_205 (by decide) ?_
              have hJ266 : ∀ (I38 : nm_I) (H : Heap) (locs : List Loc) (ls : Array Slot), nm_H D Y (fun q => s0 ≤ q) s.heap X moN ad (I38, nJ0, moZ) H locs → lv_has ls 5 [(0, .ref (ad 0)), (1, .int x1), (2, .int x2), (3, .int v3), (4, .int x4)] → f_X12_laysOwn_J266 x4 I38 (f_X12_laysOwn_L182 x1 x2 v3 n182) = some o182 → W p l e R s m args below meth c H locs 0 0 Q (F0 m 266 ls []) := by
                intro I38 H locs ls hH hl hf
                unfold f_X12_laysOwn_J266 at hf
                refine lv_iinc (v := x4 + 1) (lv' := [(4, .int (x4 + 1)), (0, .ref (ad 0)), (1, .int x1), (2, .int x2), (3, .int v3)]) hx hb dX12_laysOwn_266 hl (k := 4) rfl rfl (by decide) rfl (fun ls hl => ?_)
                refine lv_goto (tgt := 182) hx hb dX12_laysOwn_269 (by decide) ?_
                exact ih182 (x4 + 1) I38 _ _ _ _ hH (lv_sub hl [1, 2, 3, 4, 0] rfl) hf hX182
              refine lv_icmp_ne (tgt := 266) hx hb dX12_laysOwn_206 (by decide) (fun c39 => ?_) (fun c39 => ?_)
              · have hf := nm_ie c39 hf
                exact hJ266  I34 _ _ _ hH (lv_sub hl [0, 1, 2, 3, 4] rfl) hf
              · have hf := nm_it c39 hf
                refine lv_aload_n hx hb dX12_laysOwn_209 rfl (lv_at hl 0 rfl) ?_
                refine gf_12_1 hK hx hb hts hown hH mo_n0 mo_k0 (hts _ tw_957) (fun _ h9 => h9) dX12_laysOwn_210 ?_
                refine lv_iload hx hb dX12_laysOwn_213 (lv_at hl 4 rfl) ?_
                obtain ⟨hi40, hf⟩ := nm_chk hf
                refine nm_iald hx hb hK hH mo_n2 mo_k2 mo_l2 hi40 dX12_laysOwn_215 ?_
                refine lv_iload_n hx hb dX12_laysOwn_216 rfl (lv_at hl 2 rfl) ?_
                refine lv_icmp_ne (tgt := 266) hx hb dX12_laysOwn_217 (by decide) (fun c41 => ?_) (fun c41 => ?_)
                · have hf := nm_ie c41 hf
                  exact hJ266  I34 _ _ _ hH (lv_sub hl [0, 1, 2, 3, 4] rfl) hf
                · have hf := nm_it c41 hf
                  refine lv_aload_n hx hb dX12_laysOwn_220 rfl (lv_at hl 0 rfl) ?_
                  refine lv_iload_n hx hb dX12_laysOwn_221 rfl (lv_at hl 3 rfl) ?_
                  refine lv_aload_n hx hb dX12_laysOwn_222 rfl (lv_at hl 0 rfl) ?_
                  refine gf_12_2 hK hx hb hts hown hH mo_n0 mo_k0 (hts _ tw_958) (fun _ h9 => h9) dX12_laysOwn_223 ?_
                  refine lv_iload hx hb dX12_laysOwn_226 (lv_at hl 4 rfl) ?_
                  obtain ⟨hi42, hf⟩ := nm_chk hf
                  refine nm_iald hx hb hK hH mo_n3 mo_k3 mo_l3 hi42 dX12_laysOwn_228 ?_
                  refine lv_bipush (v := 64) hx hb dX12_laysOwn_229 (by decide) ?_
                  refine lv_irem hx hb dX12_laysOwn_231 (by decide) ?_
                  refine lv_aload_n hx hb dX12_laysOwn_232 rfl (lv_at hl 0 rfl) ?_
                  refine gf_12_2 hK hx hb hts hown hH mo_n0 mo_k0 (hts _ tw_958) (fun _ h9 => h9) dX12_laysOwn_233 ?_
                  refine lv_iload hx hb dX12_laysOwn_236 (lv_at hl 4 rfl) ?_
                  obtain ⟨hi43, hf⟩ := nm_chk hf
                  refine nm_iald hx hb hK hH mo_n3 mo_k3 mo_l3 hi43 dX12_laysOwn_238 ?_
                  refine lv_bipush (v := 64) hx hb dX12_laysOwn_239 (by decide) ?_
                  refine lv_idiv hx hb dX12_laysOwn_241 (by decide) ?_
                  refine lv_aload_n hx hb dX12_laysOwn_242 rfl (lv_at hl 0 rfl) ?_
                  refine gf_12_3 hK hx hb hts hown hH mo_n0 mo_k0 (hts _ tw_959) (fun _ h9 => h9) dX12_laysOwn_243 ?_
                  refine lv_iload hx hb dX12_laysOwn_246 (lv_at hl 4 rfl) ?_
                  obtain ⟨hi44, hf⟩ := nm_chk hf
                  refine nm_iald hx hb hK hH mo_n4 mo_k4 mo_l4 hi44 dX12_laysOwn_248 ?_
                  refine lv_bipush (v := 100) hx hb dX12_laysOwn_249 (by decide) ?_
                  refine lv_idiv hx hb dX12_laysOwn_251 (by decide) ?_
                  refine lv_aload_n hx hb dX12_laysOwn_252 rfl (lv_at hl 0 rfl) ?_
                  refine gf_12_3 hK hx hb hts hown hH mo_n0 mo_k0 (hts _ tw_959) (fun _ h9 => h9) dX12_laysOwn_253 ?_
                  refine lv_iload hx hb dX12_laysOwn_256 (lv_at hl 4 rfl) ?_
                  obtain ⟨hi45, hf⟩ := nm_chk hf
                  refine nm_iald hx hb hK hH mo_n4 mo_k4 mo_l4 hi45 dX12_laysOwn_258 ?_
                  refine lv_bipush (v := 100) hx hb dX12_laysOwn_259 (by decide) ?_
                  refine lv_irem hx hb dX12_laysOwn_261 (by decide) ?_
                  refine lv_iconst (v := 0) hx hb dX12_laysOwn_262 (by decide) ?_
                  obtain ⟨I46, hc47, hf⟩ := nm_sd1 hf
                  refine nm_callv (nm_runV (X := X) (nl := moN) (k_X12_fill (hf := hc47)) hx hb hml hown hts hs0 hK hZ hH tw_1285 tw_1282 tw_1284 (sw_X12_fill) tw_9 hd_X12_fill mo_n0 mo_k0 (by decide) rfl rfl rfl ⟨Nat.le_trans (Nat.le_of_ble_eq_true rfl) hRf, Nat.le_trans (Nat.le_of_ble_eq_true rfl) hRl⟩ rfl hl.1 rfl (Nat.le_of_ble_eq_true rfl) dX12_laysOwn_263 ⟨Nat.zero_le _, Nat.zero_le _⟩) hH (fun H locs hH => ?_)
                  have hH : nm_H D Y (fun q => s0 ≤ q) s.heap X moN ad (I46, nJ0, moZ) H locs := hH
                  exact hJ266  I46 _ _ _ hH (lv_sub hl [0, 1, 2, 3, 4] rfl) hf
        obtain ⟨I48, hl49, hf⟩ := nm_sd1 hf
        refine hL182 nm_F v33 I32 _ _ _ _ hH (lv_sub hl [1, 2, 3, 4, 0] rfl) hl49 (fun H locs ls hH hl => ?_)
        have hl : lv_has ls 5 [(0, .ref (ad 0)), (1, .int x1), (2, .int x2)] := hl
        have hH : nm_H D Y (fun q => s0 ≤ q) s.heap X moN ad (I48, nJ0, moZ) H locs := hH
        refine lv_iinc (v := x2 + 1) (lv' := [(2, .int (x2 + 1)), (0, .ref (ad 0)), (1, .int x1)]) hx hb dX12_laysOwn_272 hl (k := 2) rfl rfl (by decide) rfl (fun ls hl => ?_)
        refine lv_goto (tgt := 2) hx hb dX12_laysOwn_275 (by decide) ?_
        exact ih2 (x2 + 1) I48 _ _ _ _ hH (lv_sub hl [1, 2, 0] rfl) hf hX2
  obtain ⟨I52, hl53, hf⟩ := nm_sd1 hf
  refine hL2 nm_F (0 : Int32) I _ _ _ _ hH (lv_sub hl [1, 2, 0] rfl) hl53 (fun H locs ls hH hl => ?_)
  have hl : lv_has ls 5 [] := hl
  have hH : nm_H D Y (fun q => s0 ≤ q) s.heap X moN ad (I52, nJ0, moZ) H locs := hH
  exact nm_vret hx hb hr hlocks hQ hH (congrArg (fun q => (q, nJ0, moZ)) (Option.some.inj hf)) dX12_laysOwn_278
