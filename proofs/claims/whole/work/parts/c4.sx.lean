theorem mw_18 : (Jvm.Cond.classLink "RulePlateLaw" (7 : Nat) "RulePlate") ∈ nm_T := nm_tb 18 (by decide +kernel) (by decide +kernel)
theorem mw_19 : (Jvm.Cond.instantiable "RulePlate" (9 : Nat)) ∈ nm_T := nm_tb 19 (by decide +kernel) (by decide +kernel)
theorem mw_20 : (Jvm.Cond.methodLink "RulePlateLaw" (9 : Nat) ({ cls := "RulePlate", name := "<init>", desc := "()V" } : Jvm.MethodName)) ∈ nm_T := nm_tb 20 (by decide +kernel) (by decide +kernel)
theorem mw_21 : (Jvm.Cond.instanceMethod ({ cls := "RulePlate", name := "<init>", desc := "()V" } : Jvm.MethodName)) ∈ nm_T := nm_tb 21 (by decide +kernel) (by decide +kernel)
theorem mw_22 : (Jvm.Cond.code ({ cls := "RulePlate", name := "<init>", desc := "()V" } : Jvm.MethodName) prog_1_method_1_code (2 : Nat) (Option.none : Option Jvm.ClassFile.FieldType)) ∈ nm_T := nm_tb 22 (by decide +kernel) (by decide +kernel)
theorem mw_948 : (Jvm.Cond.classLink "RulePlateLaw" (10 : Nat) "RulePlateModel") ∈ nm_T := nm_tb 948 (by decide +kernel) (by decide +kernel)
theorem mw_949 : (Jvm.Cond.instantiable "RulePlateModel" (80 : Nat)) ∈ nm_T := nm_tb 949 (by decide +kernel) (by decide +kernel)
theorem mw_950 : (Jvm.Cond.methodLink "RulePlateLaw" (12 : Nat) ({ cls := "RulePlateModel", name := "<init>", desc := "()V" } : Jvm.MethodName)) ∈ nm_T := nm_tb 950 (by decide +kernel) (by decide +kernel)
theorem mw_951 : (Jvm.Cond.instanceMethod ({ cls := "RulePlateModel", name := "<init>", desc := "()V" } : Jvm.MethodName)) ∈ nm_T := nm_tb 951 (by decide +kernel) (by decide +kernel)
theorem mw_952 : (Jvm.Cond.code ({ cls := "RulePlateModel", name := "<init>", desc := "()V" } : Jvm.MethodName) prog_14_method_1_code (2 : Nat) (Option.none : Option Jvm.ClassFile.FieldType)) ∈ nm_T := nm_tb 952 (by decide +kernel) (by decide +kernel)
theorem hd_X11_init : nm_hd yX11_init 0 := by decide +kernel
theorem hd_X12_init : nm_hd yX12_init 0 := by decide +kernel
theorem mk_fs0_11 : ∀ j, j < 9 → defaultValue (tyX11 j) = vp_V [.null, .null, .null, .null, .null, .null, .null, .long 0, .int 0] j := by
  intro j hj
  have h : j = 0 ∨ j = 1 ∨ j = 2 ∨ j = 3 ∨ j = 4 ∨ j = 5 ∨ j = 6 ∨ j = 7 ∨ j = 8 := by omega
  rcases h with rfl | rfl | rfl | rfl | rfl | rfl | rfl | rfl | rfl <;> rfl
theorem mk_fs0_12 : ∀ j, j < 80 → defaultValue (tyX12 j) = vp_V [.null, .null, .null, .null, .null, .null, .null, .null, .null, .null, .null, .null, .null, .null, .null, .null, .null, .int 0, .int 0, .null, .int 0, .int 0, .int 0, .null, .null, .null, .int 0, .null, .null, .null, .null, .null, .null, .int 0, .int 0, .null, .null, .null, .null, .int 0, .null, .null, .null, .null, .null, .null, .int 0, .int 0, .null, .null, .null, .null, .null, .int 0, .int 0, .int 0, .int 0, .int 0, .null, .null, .int 0, .null, .null, .null, .null, .int 0, .null, .null, .null, .null, .int 0, .int 0, .int 0, .null, .null, .null, .null, .null, .null, .int 0] j := by
  intro j hj
  have h : j = 0 ∨ j = 1 ∨ j = 2 ∨ j = 3 ∨ j = 4 ∨ j = 5 ∨ j = 6 ∨ j = 7 ∨ j = 8 ∨ j = 9 ∨ j = 10 ∨ j = 11 ∨ j = 12 ∨ j = 13 ∨ j = 14 ∨ j = 15 ∨ j = 16 ∨ j = 17 ∨ j = 18 ∨ j = 19 ∨ j = 20 ∨ j = 21 ∨ j = 22 ∨ j = 23 ∨ j = 24 ∨ j = 25 ∨ j = 26 ∨ j = 27 ∨ j = 28 ∨ j = 29 ∨ j = 30 ∨ j = 31 ∨ j = 32 ∨ j = 33 ∨ j = 34 ∨ j = 35 ∨ j = 36 ∨ j = 37 ∨ j = 38 ∨ j = 39 ∨ j = 40 ∨ j = 41 ∨ j = 42 ∨ j = 43 ∨ j = 44 ∨ j = 45 ∨ j = 46 ∨ j = 47 ∨ j = 48 ∨ j = 49 ∨ j = 50 ∨ j = 51 ∨ j = 52 ∨ j = 53 ∨ j = 54 ∨ j = 55 ∨ j = 56 ∨ j = 57 ∨ j = 58 ∨ j = 59 ∨ j = 60 ∨ j = 61 ∨ j = 62 ∨ j = 63 ∨ j = 64 ∨ j = 65 ∨ j = 66 ∨ j = 67 ∨ j = 68 ∨ j = 69 ∨ j = 70 ∨ j = 71 ∨ j = 72 ∨ j = 73 ∨ j = 74 ∨ j = 75 ∨ j = 76 ∨ j = 77 ∨ j = 78 ∨ j = 79 := by omega
  rcases h with rfl | rfl | rfl | rfl | rfl | rfl | rfl | rfl | rfl | rfl | rfl | rfl | rfl | rfl | rfl | rfl | rfl | rfl | rfl | rfl | rfl | rfl | rfl | rfl | rfl | rfl | rfl | rfl | rfl | rfl | rfl | rfl | rfl | rfl | rfl | rfl | rfl | rfl | rfl | rfl | rfl | rfl | rfl | rfl | rfl | rfl | rfl | rfl | rfl | rfl | rfl | rfl | rfl | rfl | rfl | rfl | rfl | rfl | rfl | rfl | rfl | rfl | rfl | rfl | rfl | rfl | rfl | rfl | rfl | rfl | rfl | rfl | rfl | rfl | rfl | rfl | rfl | rfl | rfl | rfl <;> rfl
theorem lw_KZ {p : Program} {s : State} {m : MethodId} {meth : Method} {c : Code} {b L : Nat} {xs : Nat → Int32} (C0 : lw_At p s m meth c b L xs) : ∃ (D : va_G) (Y : nm_Y), nm_K D Y s ∧ nm_Z s := by
  obtain ⟨hx, hb, hr, hml, hown, hts0, hX, hbl, hlocks, hgv⟩ := C0
  have hts : ∀ w ∈ nm_T, w.before #[Value.ref b] s = true := fun w h => hts0 w (nm_lw h)
  have hw : ∀ (i : Nat) (w : Cond), tables_1[i]? = some w → w.before #[Value.ref b] s = true := fun i w h => hts0 w (List.mem_append_right _ (List.mem_of_getElem? h))
  obtain ⟨c0, i0, h0⟩ := u_known (C := RX1) (T := TX1) (N := 6) (n := 6) hts inX1 (hts _ mw_255)
  obtain ⟨c1, i1, h1⟩ := u_known (C := RX2) (T := TX2) (N := 14) (n := 14) hts inX2 (hts _ mw_161)
  obtain ⟨c2, i2, h2⟩ := u_known (C := RX3) (T := TX3) (N := 8) (n := 8) hts inX3 (hts _ mw_29)
  obtain ⟨c3, i3, h3⟩ := u_known (C := RX4) (T := TX4) (N := 9) (n := 9) hts inX4 (hts _ mw_35)
  obtain ⟨c4, i4, h4⟩ := u_known (C := RX5) (T := TX5) (N := 4) (n := 4) hts inX5 (hts _ mw_403)
  obtain ⟨c5, i5, h5⟩ := u_known (C := RX6) (T := TX6) (N := 6) (n := 6) hts inX6 (hts _ mw_327)
  obtain ⟨c6, i6, h6⟩ := u_known (C := RX7) (T := TX7) (N := 9) (n := 9) hts inX7 (hts _ mw_424)
  obtain ⟨c7, i7, h7⟩ := u_known (C := RX8) (T := TX8) (N := 11) (n := 11) hts inX8 (hts _ mw_115)
  obtain ⟨c8, i8, h8⟩ := u_known (C := RX10) (T := TX10) (N := 9) (n := 9) hts inX10 (hts _ mw_218)
  obtain ⟨c9, i9, h9⟩ := u_known (C := RX11) (T := TX11) (N := 9) (n := 9) hts inX11 (hts _ mw_19)
  obtain ⟨c10, i10, h10⟩ := u_known (C := RX12) (T := TX12) (N := 80) (n := 80) hts inX12 (hts _ mw_949)
  obtain ⟨yI, kI, pI, a1, a2, a3⟩ := Cond.arrayClass_spec (hts _ tw_aI)
  obtain ⟨yJ, kJ, pJ, d1, d2, d3⟩ := Cond.arrayClass_spec (hts _ tw_aJ)
  obtain ⟨yZ, kZ, pZ, f1, f2, f3⟩ := Cond.arrayClass_spec (type := .boolean) (hts _ mw_1196)
  have oC : (Cond.arrayOver (.object "RulePlate$Cell")).before #[Value.ref b] s = true := (hw 27 _ (by decide +kernel))
  have oS : (Cond.arrayOver (.object "RulePlate$Shape")).before #[Value.ref b] s = true := (hw 261 _ (by decide +kernel))
  obtain ⟨pC, yC, kC, b1, b2, b3, b4, b5⟩ := Cond.arrayOver_spec oC
  obtain ⟨pS, yS, kS, g1, g2, g3, g4, g5⟩ := Cond.arrayOver_spec oS
  refine ⟨(fun k => [c0, c1, c2, c3, c4, c5, c6, c7, c8, c9, c10].getD k c0, fun k => [i0, i1, i2, i3, i4, i5, i6, i7, i8, i9, i10].getD k i0), (yI, yJ, yZ, yC, yS), ⟨?_, ?_⟩, ?_⟩
  · intro k q hq
    match k, hq with
    | 0, hq => cases hq; exact h0
    | 1, hq => cases hq; exact h1
    | 2, hq => cases hq; exact h2
    | 3, hq => cases hq; exact h3
    | 4, hq => cases hq; exact h4
    | 5, hq => cases hq; exact h5
    | 6, hq => cases hq; exact h6
    | 7, hq => cases hq; exact h7
    | 8, hq => cases hq; exact h8
    | 9, hq => cases hq; exact h9
    | 10, hq => cases hq; exact h10
    | k + 11, hq => cases hq
  · intro k q hq
    match k, hq with
    | 0, hq => cases hq; exact ⟨fun n z => ⟨(fun k h => by cases h), kI, a2, pI, a3⟩, a1⟩
    | 1, hq => cases hq; exact ⟨fun n z => ⟨(fun k h => by cases h), kJ, d2, pJ, d3⟩, d1⟩
    | 2, hq => cases hq; exact ⟨fun n z => ⟨(fun k h => by cases h), kZ, f2, pZ, f3⟩, f1⟩
    | 3, hq => cases hq; exact ⟨fun n z => ⟨(fun k h => by cases h), kC, b3, pC, b4⟩, kC, pC, b3, b4, b1, b5⟩
    | 4, hq => cases hq; exact ⟨fun n z => ⟨(fun k h => by cases h), kS, g3, pS, g4⟩, kS, pS, g3, g4, g1, g5⟩
    | k + 5, hq => cases hq
  · have hn := flat_of_before _ hgv
    exact ⟨⟨va_Nw.of rfl (hw 577 _ (by decide +kernel)), va_Nw.of rfl (hw 832 _ (by decide +kernel)), va_Nw.of rfl (hw 924 _ (by decide +kernel))⟩, ⟨va_Nw.of rfl (hw 116 _ (by decide +kernel)), va_Nw.of rfl (hw 162 _ (by decide +kernel)), va_Nw.of rfl (hw 219 _ (by decide +kernel)), va_Nw.of rfl (hw 256 _ (by decide +kernel)), va_AO.of oC, va_AO.of oS⟩, ⟨va_Nw.of rfl (hw 1506 _ (by decide +kernel)), va_Nw.of rfl (hw 1507 _ (by decide +kernel)), va_Nw.of rfl (hw 1508 _ (by decide +kernel))⟩, va_Nc.of (hn _ (by decide +kernel)), va_Nc.of (hn _ (by decide +kernel)), va_Nc.of (hn _ (by decide +kernel)), va_Nc.of (hn _ (by decide +kernel)), va_Nc.of (hn _ (by decide +kernel)), va_Nc.of (hn _ (by decide +kernel))⟩
set_option maxRecDepth 100000 in
theorem lw_loop {D : va_G} {Y : nm_Y} {p : Program} {e : Env} {s : State} {m : MethodId} {below : List Frame} {meth : Method} {c : Code} {l : Launch} {b L : Nat} {xs : Nat → Int32} (hC : lw_K D Y p s m c b L xs) (hr : meth.sig.returnType = ret) (hlocks : meth.locks = false) (hL3 : L ≤ 3072) :
    ∀ (j n : Nat) (nl : List Nat) (ad adM K : Nat → Nat) (S : ca) (I : nm_I) (H : Heap) (locs : List Loc) (cells slots : Nat) (ls : Array Slot), 6 * n ≤ L → L < 6 * (n + j) → lw_I D Y s b n n nl ad adM K S I H locs cells slots ls → W p l e room_1 s m #[Value.ref b] below meth c H locs cells slots (lw_Z below #[Value.ref b] s) (F0 m 18 ls []) := by
  intro j
  induction j with
  | zero =>
    intro n nl ad adM K S I H locs cells slots ls h1 h2
    exact absurd h2 (by omega)
  | succ j ih =>
    intro n nl ad adM K S I H locs cells slots ls h1 h2 hI
    obtain ⟨hx, hb, hml, hown, hts, hK, hZ, hX, hbl⟩ := id hC
    obtain ⟨hH, hL, hR, hc, hs, hl⟩ := id hI
    have hp0 := pt_RR hR
    have hbA : ¬ (fun q : Nat => s.heap.size ≤ q) b := Nat.not_le.mpr hbl
    have hS := hH.2.2
    refine lv_iload_n hx hb dL_law_18 rfl (lv_at hl 3 rfl) ?_
    refine lv_aload_n hx hb dL_law_19 rfl (lv_at hl 0 rfl) ?_
    refine va_slen hx hb hX hbl hbA hS dL_law_20 ?_
    refine lv_bipush (v := 6) hx hb dL_law_21 (by decide) ?_
    refine lv_isub hx hb dL_law_23 ?_
    have e6 : Int32.ofNat L - 6 = zI ((L : Int) - 6) := by
      rw [show Int32.ofNat L = zI (L : Int) from zI_nI L, show (6 : Int32) = zI 6 from rfl, zI_sub]
    refine lv_icmp_gt (tgt := 1379) hx hb dL_law_24 (by decide) (fun c9 => ?_) (fun c9 => ?_)
    · refine lv_iconst (v := 1) hx hb dL_law_1379 (by decide) ?_
      refine va_forget (fun q hq => hS.2.2 q hq) ?_
      refine W.widen (k := 600000) (n := 7302250) (by omega) (by omega) ?_
      exact lw_ret hx hb hr hlocks dL_law_1380
    · have hn : 6 * n + 6 ≤ L := by
        rcases Nat.lt_or_ge L (6 * n + 6) with q | q
        · refine absurd ?_ c9
          rw [e6]
          exact (zI_lt (by omega) (by omega) (by omega) (by omega)).mpr (by omega)
        · exact q
      have hin : vp_in (zI (6 * (n : Int))) L := by
        intro q
        rcases q with q | q
        · rw [show (0 : Int32) = zI 0 from rfl, zI_lt (by omega) (by omega) (by omega) (by omega)] at q
          omega
        · rw [zI_cl (by omega) (by omega)] at q
          omega
      refine lv_aload_n hx hb dL_law_27 rfl (lv_at hl 0 rfl) ?_
      refine lv_iload_n hx hb dL_law_28 rfl (lv_at hl 3 rfl) ?_
      refine va_sld hx hb hX hbl hbA hS hin dL_law_29 ?_
      refine lv_bipush (v := 63) hx hb dL_law_30 (by decide) ?_
      refine lv_iand hx hb dL_law_32 ?_
      have hk : ∀ (nl : List Nat) (ad adM K : Nat → Nat) (S : ca) (I : nm_I) (H : Heap) (locs : List Loc) (cells slots : Nat) (ls : Array Slot), lw_I D Y s b n (n + 1) nl ad adM K S I H locs cells slots ls → W p l e room_1 s m #[Value.ref b] below meth c H locs cells slots (lw_Z below #[Value.ref b] s) (F0 m 1373 ls []) := by
        intro nl ad adM K S I H locs cells slots ls hI
        obtain ⟨hH, hL, hR, hc, hs, hl⟩ := hI
        refine lv_iinc (v := zI (6 * ((n + 1 : Nat) : Int))) (lv' := [(3, .int (zI (6 * ((n + 1 : Nat) : Int)))), (0, .ref b), (1, .ref (ad 0)), (2, .ref (adM 0))]) hx hb dL_law_1373 hl (k := 3) rfl ?_ (by decide) rfl (fun ls hl => ?_)
        · rw [show Int32.ofInt 6 = zI 6 from rfl, zI_add]
          congr 1
        · refine lv_goto (tgt := 18) hx hb dL_law_1376 (by decide) ?_
          exact ih (n + 1) nl ad adM K S I H locs cells slots ls (by omega) (by omega) ⟨hH, hL, hR, hc, hs, lv_sub hl [1, 2, 3, 0] rfl⟩
      generalize (xs (zI (6 * (n : Int))).toNatClampNeg &&& 63 : Int32) = x
      by_cases h9 : x.toInt < 0 ∨ 32 < x.toInt
      · exact lv_tableOut (tgt := 1373) hx hb dL_law_33 h9 (by decide) (hk nl ad adM K S I H locs cells slots ls ⟨hH, hL, hR, by omega, by omega, hl⟩)
      · have h8 : x.toInt = 0 ∨ x.toInt = 1 ∨ x.toInt = 2 ∨ x.toInt = 3 ∨ x.toInt = 4 ∨ x.toInt = 5 ∨ x.toInt = 6 ∨ x.toInt = 7 ∨ x.toInt = 8 ∨ x.toInt = 9 ∨ x.toInt = 10 ∨ x.toInt = 11 ∨ x.toInt = 12 ∨ x.toInt = 13 ∨ x.toInt = 14 ∨ x.toInt = 15 ∨ x.toInt = 16 ∨ x.toInt = 17 ∨ x.toInt = 18 ∨ x.toInt = 19 ∨ x.toInt = 20 ∨ x.toInt = 21 ∨ x.toInt = 22 ∨ x.toInt = 23 ∨ x.toInt = 24 ∨ x.toInt = 25 ∨ x.toInt = 26 ∨ x.toInt = 27 ∨ x.toInt = 28 ∨ x.toInt = 29 ∨ x.toInt = 30 ∨ x.toInt = 31 ∨ x.toInt = 32 := by omega
        rcases h8 with h | h | h | h | h | h | h | h | h | h | h | h | h | h | h | h | h | h | h | h | h | h | h | h | h | h | h | h | h | h | h | h | h
        · exact lv_tableIn (off := 147) (tgt := 180) hx hb dL_law_33 (by omega) (by omega) (by rw [h]; rfl) (by decide) (lc_0 hC n nl ad adM K S I H locs cells slots ls hn hL3 hI hk)
        · exact lv_tableIn (off := 226) (tgt := 259) hx hb dL_law_33 (by omega) (by omega) (by rw [h]; rfl) (by decide) (lc_1 hC n nl ad adM K S I H locs cells slots ls hn hL3 hI hk)
        · exact lv_tableIn (off := 289) (tgt := 322) hx hb dL_law_33 (by omega) (by omega) (by rw [h]; rfl) (by decide) (lc_2 hC n nl ad adM K S I H locs cells slots ls hn hL3 hI hk)
        · exact lv_tableIn (off := 342) (tgt := 375) hx hb dL_law_33 (by omega) (by omega) (by rw [h]; rfl) (by decide) (lc_3 hC n nl ad adM K S I H locs cells slots ls hn hL3 hI hk)
        · exact lv_tableIn (off := 421) (tgt := 454) hx hb dL_law_33 (by omega) (by omega) (by rw [h]; rfl) (by decide) (lc_4 hC n nl ad adM K S I H locs cells slots ls hn hL3 hI hk)
        · exact lv_tableIn (off := 474) (tgt := 507) hx hb dL_law_33 (by omega) (by omega) (by rw [h]; rfl) (by decide) (lc_5 hC n nl ad adM K S I H locs cells slots ls hn hL3 hI hk)
        · exact lv_tableIn (off := 497) (tgt := 530) hx hb dL_law_33 (by omega) (by omega) (by rw [h]; rfl) (by decide) (lc_6 hC n nl ad adM K S I H locs cells slots ls hn hL3 hI hk)
        · exact lv_tableIn (off := 540) (tgt := 573) hx hb dL_law_33 (by omega) (by omega) (by rw [h]; rfl) (by decide) (lc_7 hC n nl ad adM K S I H locs cells slots ls hn hL3 hI hk)
        · exact lv_tableIn (off := 593) (tgt := 626) hx hb dL_law_33 (by omega) (by omega) (by rw [h]; rfl) (by decide) (lc_8 hC n nl ad adM K S I H locs cells slots ls hn hL3 hI hk)
        · exact lv_tableIn (off := 616) (tgt := 649) hx hb dL_law_33 (by omega) (by omega) (by rw [h]; rfl) (by decide) (lc_9 hC n nl ad adM K S I H locs cells slots ls hn hL3 hI hk)
        · exact lv_tableIn (off := 639) (tgt := 672) hx hb dL_law_33 (by omega) (by omega) (by rw [h]; rfl) (by decide) (lc_10 hC n nl ad adM K S I H locs cells slots ls hn hL3 hI hk)
        · exact lv_tableIn (off := 672) (tgt := 705) hx hb dL_law_33 (by omega) (by omega) (by rw [h]; rfl) (by decide) (lc_11 hC n nl ad adM K S I H locs cells slots ls hn hL3 hI hk)
        · exact lv_tableIn (off := 705) (tgt := 738) hx hb dL_law_33 (by omega) (by omega) (by rw [h]; rfl) (by decide) (lc_12 hC n nl ad adM K S I H locs cells slots ls hn hL3 hI hk)
        · exact lv_tableIn (off := 758) (tgt := 791) hx hb dL_law_33 (by omega) (by omega) (by rw [h]; rfl) (by decide) (lc_13 hC n nl ad adM K S I H locs cells slots ls hn hL3 hI hk)
        · exact lv_tableIn (off := 771) (tgt := 804) hx hb dL_law_33 (by omega) (by omega) (by rw [h]; rfl) (by decide) (lc_14 hC n nl ad adM K S I H locs cells slots ls hn hL3 hI hk)
        · exact lv_tableIn (off := 804) (tgt := 837) hx hb dL_law_33 (by omega) (by omega) (by rw [h]; rfl) (by decide) (lc_15 hC n nl ad adM K S I H locs cells slots ls hn hL3 hI hk)
        · exact lv_tableIn (off := 837) (tgt := 870) hx hb dL_law_33 (by omega) (by omega) (by rw [h]; rfl) (by decide) (lc_16 hC n nl ad adM K S I H locs cells slots ls hn hL3 hI hk)
        · exact lv_tableIn (off := 886) (tgt := 919) hx hb dL_law_33 (by omega) (by omega) (by rw [h]; rfl) (by decide) (lc_17 hC n nl ad adM K S I H locs cells slots ls hn hL3 hI hk)
        · exact lv_tableIn (off := 929) (tgt := 962) hx hb dL_law_33 (by omega) (by omega) (by rw [h]; rfl) (by decide) (lc_18 hC n nl ad adM K S I H locs cells slots ls hn hL3 hI hk)
        · exact lv_tableIn (off := 972) (tgt := 1005) hx hb dL_law_33 (by omega) (by omega) (by rw [h]; rfl) (by decide) (lc_19 hC n nl ad adM K S I H locs cells slots ls hn hL3 hI hk)
        · exact lv_tableIn (off := 985) (tgt := 1018) hx hb dL_law_33 (by omega) (by omega) (by rw [h]; rfl) (by decide) (lc_20 hC n nl ad adM K S I H locs cells slots ls hn hL3 hI hk)
        · exact lv_tableIn (off := 1018) (tgt := 1051) hx hb dL_law_33 (by omega) (by omega) (by rw [h]; rfl) (by decide) (lc_21 hC n nl ad adM K S I H locs cells slots ls hn hL3 hI hk)
        · exact lv_tableIn (off := 1051) (tgt := 1084) hx hb dL_law_33 (by omega) (by omega) (by rw [h]; rfl) (by decide) (lc_22 hC n nl ad adM K S I H locs cells slots ls hn hL3 hI hk)
        · exact lv_tableIn (off := 1084) (tgt := 1117) hx hb dL_law_33 (by omega) (by omega) (by rw [h]; rfl) (by decide) (lc_23 hC n nl ad adM K S I H locs cells slots ls hn hL3 hI hk)
        · exact lv_tableIn (off := 1117) (tgt := 1150) hx hb dL_law_33 (by omega) (by omega) (by rw [h]; rfl) (by decide) (lc_24 hC n nl ad adM K S I H locs cells slots ls hn hL3 hI hk)
        · exact lv_tableIn (off := 1130) (tgt := 1163) hx hb dL_law_33 (by omega) (by omega) (by rw [h]; rfl) (by decide) (lc_25 hC n nl ad adM K S I H locs cells slots ls hn hL3 hI hk)
        · exact lv_tableIn (off := 1143) (tgt := 1176) hx hb dL_law_33 (by omega) (by omega) (by rw [h]; rfl) (by decide) (lc_26 hC n nl ad adM K S I H locs cells slots ls hn hL3 hI hk)
        · exact lv_tableIn (off := 1156) (tgt := 1189) hx hb dL_law_33 (by omega) (by omega) (by rw [h]; rfl) (by decide) (lc_27 hC n nl ad adM K S I H locs cells slots ls hn hL3 hI hk)
        · exact lv_tableIn (off := 1205) (tgt := 1238) hx hb dL_law_33 (by omega) (by omega) (by rw [h]; rfl) (by decide) (lc_28 hC n nl ad adM K S I H locs cells slots ls hn hL3 hI hk)
        · exact lv_tableIn (off := 1238) (tgt := 1271) hx hb dL_law_33 (by omega) (by omega) (by rw [h]; rfl) (by decide) (lc_29 hC n nl ad adM K S I H locs cells slots ls hn hL3 hI hk)
        · exact lv_tableIn (off := 1251) (tgt := 1284) hx hb dL_law_33 (by omega) (by omega) (by rw [h]; rfl) (by decide) (lc_30 hC n nl ad adM K S I H locs cells slots ls hn hL3 hI hk)
        · exact lv_tableIn (off := 1274) (tgt := 1307) hx hb dL_law_33 (by omega) (by omega) (by rw [h]; rfl) (by decide) (lc_31 hC n nl ad adM K S I H locs cells slots ls hn hL3 hI hk)
        · exact lv_tableIn (off := 1317) (tgt := 1350) hx hb dL_law_33 (by omega) (by omega) (by rw [h]; rfl) (by decide) (lc_32 hC n nl ad adM K S I H locs cells slots ls hn hL3 hI hk)
set_option maxRecDepth 100000 in
theorem whole_start {p : Program} {e : Env} {s : State} {m : MethodId} {below : List Frame} {meth : Method} {c : Code} (l : Launch) (hflags : l.flags = flags0) {b L : Nat} {xs : Nat → Int32} (hL : L ≤ 3072) (C0 : lw_At p s m meth c b L xs) : W p l e room_1 s m #[Value.ref b] below meth c s.heap [] 0 0 (lw_Z below #[Value.ref b] s) (entryFrame m ([Value.ref b] : List Value).toArray 4) := by
  obtain ⟨D, Y, hK, hZ⟩ := lw_KZ C0
  obtain ⟨hx, hb, hr, hml, hown, hts0, hX, hbl, hlocks, hgv⟩ := id C0
  have hts : ∀ w ∈ nm_T, w.before #[Value.ref b] s = true := fun w h => hts0 w (nm_lw h)
  have hC : lw_K D Y p s m c b L xs := ⟨hx, hb, hml, hown, hts, hK, hZ, hX, hbl⟩
  have hl := lv_entry ([.ref b]) (n := 4) (Nat.le_of_ble_eq_true rfl)
  rw [lg_entry_eq]
  generalize (lg_sl ([.ref b]) ++ List.replicate (4 - (lg_sl ([.ref b])).length) Slot.unset).toArray = ls at hl ⊢
  have hl : lv_has ls 4 [(0, .ref b)] := hl
  have hH : rw_H D s.heap.size s.heap ([] : va_W) s.heap [] := ⟨fun k q h => by simp at h, ⟨fun i j p q h => by simp at h, fun k q h => by simp at h⟩, va_S.rf⟩
  refine rw_new (ci := 9) (ws := []) hx hb hts inX11 tyX11 tyX11_ok hown mw_18 mw_19 tw_1 hK (Nat.le_refl _) hH rfl (fs := [.null, .null, .null, .null, .null, .null, .null, .long 0, .int 0]) mk_fs0_11 (Nat.le_of_ble_eq_true rfl) (Nat.le_of_ble_eq_true rfl) dL_law_0 (fun q H hH => ?_)
  refine lv_dup hx hb dL_law_3 rfl ?_
  refine rw_callv (rw_runI (k_X11_init (X := []) (q := q)) hx hb hml hown hts (Nat.le_refl _) hK hZ hH mw_22 mw_20 mw_21 tw_1 rfl hd_X11_init rfl rfl ⟨Nat.le_of_ble_eq_true rfl, Nat.le_of_ble_eq_true rfl⟩ rfl hl.1 rfl (Nat.le_of_ble_eq_true rfl) dL_law_4 ⟨Nat.le_of_ble_eq_true rfl, Nat.le_of_ble_eq_true rfl⟩) hH (fun u H locs hH => ?_)
  have hH : rw_H D s.heap.size s.heap (nm_w c_nl (c_ad q u) (nm_E Y (c_ad q u) c_C)) H locs := by rw [← c_world]; exact hH
  refine lv_astore_n (lv' := [(1, .ref q), (0, .ref b)]) hx hb dL_law_7 rfl hl (by decide) rfl (fun ls hl => ?_)
  refine rw_new (ci := 10) hx hb hts inX12 tyX12 tyX12_ok hown mw_948 mw_949 tw_9 hK (Nat.le_refl _) hH rfl (fs := [.null, .null, .null, .null, .null, .null, .null, .null, .null, .null, .null, .null, .null, .null, .null, .null, .null, .int 0, .int 0, .null, .int 0, .int 0, .int 0, .null, .null, .null, .int 0, .null, .null, .null, .null, .null, .null, .int 0, .int 0, .null, .null, .null, .null, .int 0, .null, .null, .null, .null, .null, .null, .int 0, .int 0, .null, .null, .null, .null, .null, .int 0, .int 0, .int 0, .int 0, .int 0, .null, .null, .int 0, .null, .null, .null, .null, .int 0, .null, .null, .null, .null, .int 0, .int 0, .int 0, .null, .null, .null, .null, .null, .null, .int 0]) mk_fs0_12 (Nat.le_of_ble_eq_true rfl) (Nat.le_of_ble_eq_true rfl) dL_law_8 (fun q2 H hH => ?_)
  refine lv_dup hx hb dL_law_11 rfl ?_
  refine rw_callv (rw_runI (k_X12_init (q := q2)) hx hb hml hown hts (Nat.le_refl _) hK hZ hH mw_952 mw_950 mw_951 tw_9 rfl hd_X12_init rfl rfl ⟨Nat.le_of_ble_eq_true rfl, Nat.le_of_ble_eq_true rfl⟩ rfl hl.1 rfl (Nat.le_of_ble_eq_true rfl) dL_law_12 ⟨Nat.le_of_ble_eq_true rfl, Nat.le_of_ble_eq_true rfl⟩) hH (fun v H locs hH => ?_)
  have hH : nm_H D Y (fun q => s.heap.size ≤ q) s.heap (nm_w c_nl (c_ad q u) (nm_E Y (c_ad q u) c_C)) moN (m_ad q2 v) m_C H locs := by
    unfold nm_H nm_W
    rw [← m_world]
    exact hH
  have hH := lw_swap hH
  refine lv_astore_n (lv' := [(2, .ref q2), (1, .ref q), (0, .ref b)]) hx hb dL_law_15 rfl hl (by decide) rfl (fun ls hl => ?_)
  refine lv_iconst (v := zI (6 * ((0 : Nat) : Int))) hx hb dL_law_16 rfl ?_
  refine lv_istore_n (lv' := [(3, .int (zI (6 * ((0 : Nat) : Int)))), (2, .ref q2), (1, .ref q), (0, .ref b)]) hx hb dL_law_17 rfl hl (by decide) rfl (fun ls hl => ?_)
  exact lw_loop hC hr hlocks hL (L / 6 + 1) 0 c_nl (c_ad q u) (m_ad q2 v) c_K ((c_I, nJ0), c_N) m_I H locs _ _ ls (by omega) (by omega) ⟨hH, c_L, RR_0, by omega, by omega, lv_sub hl [3, 2, 1, 0] rfl⟩
