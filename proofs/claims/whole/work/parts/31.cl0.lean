def f_J13_bitCount_95d88 (x0 : Int64) : Int32 :=
nm_l (x0 - ((nm_shr x0 (1 : Int32)) &&& (6148914691236517205 : Int64))) fun v1 =>
nm_l ((v1 &&& (3689348814741910323 : Int64)) + ((nm_shr v1 (2 : Int32)) &&& (3689348814741910323 : Int64))) fun v2 =>
nm_l ((v2 + (nm_shr v2 (4 : Int32))) &&& (1085102592571150095 : Int64)) fun v3 =>
nm_l (v3 + (nm_shr v3 (8 : Int32))) fun v4 =>
nm_l (v4 + (nm_shr v4 (16 : Int32))) fun v5 =>
nm_l (v5 + (nm_shr v5 (32 : Int32))) fun v6 =>
v6.toInt32 &&& (127 : Int32)
set_option maxHeartbeats 4000000 in
set_option maxRecDepth 100000 in
theorem k_J13_bitCount_95d88 {l : Launch} {D : va_G} {Y : nm_Y} {s0 : Nat} {X : va_W} {ad : Nat → Nat} {nl : List Nat} {N K : Nat → Nat} (hL : cl_L nl K) (hN : cl_N N) {x0 : Int64} {M : cm} {r0 : Int32} (hf : f_J13_bitCount_95d88 x0 = r0) :
    nm_Met l yJ13_bitCount_95d88 cJ13_bitCount_95d88 2 (some .int) { frames := 0, cells := 0, slots := 0, locals := 0 } [.long x0] D Y s0 (nm_W Y X nl ad (M.1, M.2, N, K)) (nm_Qi D s0 r0 (nm_W Y X nl ad (M.1, M.2, N, K))) 0 0 := by
  refine nm_of (by decide) (Nat.le_of_ble_eq_true rfl) ?_
  intro p e R s m args below meth c Q ls hx hb hr hlocks hml hown hts hs0 hK hZ hRf hRl hRc hRs hQ hP hD hl
  have hH : nm_H D Y (fun q => s0 ≤ q) s.heap X nl ad (M.1, M.2, N, K) s.heap [] := ⟨hP, hD, va_S.rf⟩
  have hl : lv_has ls 2 [(0, .long x0)] := hl
  unfold f_J13_bitCount_95d88 at hf
  refine lv_lload_n hx hb dJ13_bitCount_95d88_0 rfl (lv_at hl 0 rfl) ?_
  refine lv_lload_n hx hb dJ13_bitCount_95d88_1 rfl (lv_at hl 0 rfl) ?_
  refine lv_iconst (v := 1) hx hb dJ13_bitCount_95d88_2 (by decide) ?_
  refine lv_lushr (v := nm_shr x0 (1 : Int32)) hx hb dJ13_bitCount_95d88_3 rfl ?_
  refine lv_ldc2 hx hb hown (hts _ tw_612) dJ13_bitCount_95d88_4 ?_
  refine lv_land hx hb dJ13_bitCount_95d88_7 ?_
  refine lv_lsub hx hb dJ13_bitCount_95d88_8 ?_
  obtain ⟨v1, ev1, hf⟩ := nm_let hf
  refine nm_topl ev1 ?_
  refine lv_lstore_n (lv' := [(0, .long v1)]) hx hb dJ13_bitCount_95d88_9 rfl hl (by decide) rfl (fun ls hl => ?_)
  refine lv_lload_n hx hb dJ13_bitCount_95d88_10 rfl (lv_at hl 0 rfl) ?_
  refine lv_ldc2 hx hb hown (hts _ tw_613) dJ13_bitCount_95d88_11 ?_
  refine lv_land hx hb dJ13_bitCount_95d88_14 ?_
  refine lv_lload_n hx hb dJ13_bitCount_95d88_15 rfl (lv_at hl 0 rfl) ?_
  refine lv_iconst (v := 2) hx hb dJ13_bitCount_95d88_16 (by decide) ?_
  refine lv_lushr (v := nm_shr v1 (2 : Int32)) hx hb dJ13_bitCount_95d88_17 rfl ?_
  refine lv_ldc2 hx hb hown (hts _ tw_613) dJ13_bitCount_95d88_18 ?_
  refine lv_land hx hb dJ13_bitCount_95d88_21 ?_
  refine lv_ladd hx hb dJ13_bitCount_95d88_22 ?_
  obtain ⟨v2, ev2, hf⟩ := nm_let hf
  refine nm_topl ev2 ?_
  refine lv_lstore_n (lv' := [(0, .long v2)]) hx hb dJ13_bitCount_95d88_23 rfl hl (by decide) rfl (fun ls hl => ?_)
  refine lv_lload_n hx hb dJ13_bitCount_95d88_24 rfl (lv_at hl 0 rfl) ?_
  refine lv_lload_n hx hb dJ13_bitCount_95d88_25 rfl (lv_at hl 0 rfl) ?_
  refine lv_iconst (v := 4) hx hb dJ13_bitCount_95d88_26 (by decide) ?_
  refine lv_lushr (v := nm_shr v2 (4 : Int32)) hx hb dJ13_bitCount_95d88_27 rfl ?_
  refine lv_ladd hx hb dJ13_bitCount_95d88_28 ?_
  refine lv_ldc2 hx hb hown (hts _ tw_614) dJ13_bitCount_95d88_29 ?_
  refine lv_land hx hb dJ13_bitCount_95d88_32 ?_
  obtain ⟨v3, ev3, hf⟩ := nm_let hf
  refine nm_topl ev3 ?_
  refine lv_lstore_n (lv' := [(0, .long v3)]) hx hb dJ13_bitCount_95d88_33 rfl hl (by decide) rfl (fun ls hl => ?_)
  refine lv_lload_n hx hb dJ13_bitCount_95d88_34 rfl (lv_at hl 0 rfl) ?_
  refine lv_lload_n hx hb dJ13_bitCount_95d88_35 rfl (lv_at hl 0 rfl) ?_
  refine lv_bipush (v := 8) hx hb dJ13_bitCount_95d88_36 (by decide) ?_
  refine lv_lushr (v := nm_shr v3 (8 : Int32)) hx hb dJ13_bitCount_95d88_38 rfl ?_
  refine lv_ladd hx hb dJ13_bitCount_95d88_39 ?_
  obtain ⟨v4, ev4, hf⟩ := nm_let hf
  refine nm_topl ev4 ?_
  refine lv_lstore_n (lv' := [(0, .long v4)]) hx hb dJ13_bitCount_95d88_40 rfl hl (by decide) rfl (fun ls hl => ?_)
  refine lv_lload_n hx hb dJ13_bitCount_95d88_41 rfl (lv_at hl 0 rfl) ?_
  refine lv_lload_n hx hb dJ13_bitCount_95d88_42 rfl (lv_at hl 0 rfl) ?_
  refine lv_bipush (v := 16) hx hb dJ13_bitCount_95d88_43 (by decide) ?_
  refine lv_lushr (v := nm_shr v4 (16 : Int32)) hx hb dJ13_bitCount_95d88_45 rfl ?_
  refine lv_ladd hx hb dJ13_bitCount_95d88_46 ?_
  obtain ⟨v5, ev5, hf⟩ := nm_let hf
  refine nm_topl ev5 ?_
  refine lv_lstore_n (lv' := [(0, .long v5)]) hx hb dJ13_bitCount_95d88_47 rfl hl (by decide) rfl (fun ls hl => ?_)
  refine lv_lload_n hx hb dJ13_bitCount_95d88_48 rfl (lv_at hl 0 rfl) ?_
  refine lv_lload_n hx hb dJ13_bitCount_95d88_49 rfl (lv_at hl 0 rfl) ?_
  refine lv_bipush (v := 32) hx hb dJ13_bitCount_95d88_50 (by decide) ?_
  refine lv_lushr (v := nm_shr v5 (32 : Int32)) hx hb dJ13_bitCount_95d88_52 rfl ?_
  refine lv_ladd hx hb dJ13_bitCount_95d88_53 ?_
  obtain ⟨v6, ev6, hf⟩ := nm_let hf
  refine nm_topl ev6 ?_
  refine lv_lstore_n (lv' := [(0, .long v6)]) hx hb dJ13_bitCount_95d88_54 rfl hl (by decide) rfl (fun ls hl => ?_)
  refine lv_lload_n hx hb dJ13_bitCount_95d88_55 rfl (lv_at hl 0 rfl) ?_
  refine lv_l2i hx hb dJ13_bitCount_95d88_56 rfl ?_
  refine lv_bipush (v := 127) hx hb dJ13_bitCount_95d88_57 (by decide) ?_
  refine lv_iand hx hb dJ13_bitCount_95d88_59 ?_
  exact nm_iret hx hb hr hlocks hQ hH hf rfl dJ13_bitCount_95d88_60
def f_J7_fill_d0a16_L6 (a : Nat) (N : Nat → Nat) (x1 : Int64) (v1 : Int32) : Nat → Int32 → cm → Option (cm)
  | 0, _, _ => none
  | n6 + 1, x3, M2 =>
    (if v1 ≤ x3 then
    some M2
    else
    nm_c x3 (N a) (
    nm_l (M2.1, nm_upJ M2.2 a x3.toNatClampNeg x1) fun M5 =>
    f_J7_fill_d0a16_L6 a N x1 v1 n6 (x3 + 1) M5))
def f_J7_fill_d0a16 (a : Nat) (N : Nat → Nat) (x1 : Int64) (M : cm) : Option (cm) :=
nm_l (nI (N a)) fun v1 =>
nm_s1 (f_J7_fill_d0a16_L6 a N x1 v1 nm_F (0 : Int32) M) fun M6 =>
some M6
set_option maxHeartbeats 4000000 in
set_option maxRecDepth 100000 in
theorem k_J7_fill_d0a16 {l : Launch} {D : va_G} {Y : nm_Y} {s0 : Nat} {X : va_W} {ad : Nat → Nat} {nl : List Nat} {N K : Nat → Nat} (hL : cl_L nl K) (hN : cl_N N) {a : Nat} (ha : a ∈ nl) (hka : K a = 21) {x1 : Int64} {M : cm} {M0 : cm} (hf : f_J7_fill_d0a16 a N x1 M = some M0) :
    nm_Met l yJ7_fill_d0a16 cJ7_fill_d0a16 5 none { frames := 0, cells := 0, slots := 0, locals := 0 } [.ref (ad a), .long x1] D Y s0 (nm_W Y X nl ad (M.1, M.2, N, K)) (nm_Qv D s0 (nm_W Y X nl ad (M0.1, M0.2, N, K))) 0 0 := by
  refine nm_of (by decide) (Nat.le_of_ble_eq_true rfl) ?_
  intro p e R s m args below meth c Q ls hx hb hr hlocks hml hown hts hs0 hK hZ hRf hRl hRc hRs hQ hP hD hl
  have hH : nm_H D Y (fun q => s0 ≤ q) s.heap X nl ad (M.1, M.2, N, K) s.heap [] := ⟨hP, hD, va_S.rf⟩
  have hl : lv_has ls 5 [(0, .ref (ad a)), (1, .long x1)] := hl
  unfold f_J7_fill_d0a16 at hf
  refine lv_iconst (v := 0) hx hb dJ7_fill_d0a16_0 (by decide) ?_
  refine lv_istore_n (lv' := [(3, .int (0 : Int32)), (0, .ref (ad a)), (1, .long x1)]) hx hb dJ7_fill_d0a16_1 rfl hl (by decide) rfl (fun ls hl => ?_)
  refine lv_aload_n hx hb dJ7_fill_d0a16_2 rfl (lv_at hl 1 rfl) ?_
  refine nm_alen hx hb hK hH ha (Or.inr hka) rfl dJ7_fill_d0a16_3 ?_
  obtain ⟨v1, ev1, hf⟩ := nm_let hf
  refine nm_topi ev1 ?_
  refine lv_istore (lv' := [(4, .int v1), (3, .int (0 : Int32)), (0, .ref (ad a)), (1, .long x1)]) hx hb dJ7_fill_d0a16_4 hl (by decide) rfl (fun ls hl => ?_)
  have hL6 : ∀ (n6 : Nat) (x3 : Int32) (M2 : cm) (H : Heap) (locs : List Loc) (ls : Array Slot) (o6 : cm), nm_H D Y (fun q => s0 ≤ q) s.heap X nl ad (M2.1, M2.2, N, K) H locs → lv_has ls 5 [(0, .ref (ad a)), (1, .long x1), (3, .int x3), (4, .int v1)] → f_J7_fill_d0a16_L6 a N x1 v1 n6 x3 M2 = some o6 → (∀ (H : Heap) (locs : List Loc) (ls : Array Slot), nm_H D Y (fun q => s0 ≤ q) s.heap X nl ad (o6.1, o6.2, N, K) H locs → lv_has ls 5 [] → W p l e R s m args below meth c H locs 0 0 Q (F0 m 22 ls [])) → W p l e R s m args below meth c H locs 0 0 Q (F0 m 6 ls []) := by
    intro n6
    induction n6 with
    | zero =>
      intro x3 M2 H locs ls o6 hH hl hf hX6
      cases hf
    | succ n6 ih6 =>
      intro x3 M2 H locs ls o6 hH hl hf hX6
      rw [f_J7_fill_d0a16_L6] at hf
      refine lv_iload_n hx hb dJ7_fill_d0a16_6 rfl (lv_at hl 2 rfl) ?_
      refine lv_iload hx hb dJ7_fill_d0a16_7 (lv_at hl 3 rfl) ?_
      refine lv_icmp_ge (tgt := 22) hx hb dJ7_fill_d0a16_9 (by decide) (fun c3 => ?_) (fun c3 => ?_)
      · have hf := nm_it c3 hf
        cases hf
        exact hX6 _ _ _ hH (lv_sub hl [] rfl)
      · have hf := nm_ie c3 hf
        refine lv_aload_n hx hb dJ7_fill_d0a16_12 rfl (lv_at hl 0 rfl) ?_
        refine lv_iload_n hx hb dJ7_fill_d0a16_13 rfl (lv_at hl 2 rfl) ?_
        refine lv_lload_n hx hb dJ7_fill_d0a16_14 rfl (lv_at hl 1 rfl) ?_
        obtain ⟨hi4, hf⟩ := nm_chk hf
        obtain ⟨M5, eM5, hf⟩ := nm_let hf
        refine nm_last hx hb hK hH ha hka rfl hi4 dJ7_fill_d0a16_15 (fun H locs hH => ?_)
        have hH : nm_H D Y (fun q => s0 ≤ q) s.heap X nl ad (M5.1, M5.2, N, K) H locs := by rw [eM5]; exact hH
        refine lv_iinc (v := x3 + 1) (lv' := [(3, .int (x3 + 1)), (0, .ref (ad a)), (1, .long x1), (4, .int v1)]) hx hb dJ7_fill_d0a16_16 hl (k := 2) rfl rfl (by decide) rfl (fun ls hl => ?_)
        refine lv_goto (tgt := 6) hx hb dJ7_fill_d0a16_19 (by decide) ?_
        exact ih6 (x3 + 1) M5 _ _ _ _ hH (lv_sub hl [1, 2, 0, 3] rfl) hf hX6
  obtain ⟨M6, hl7, hf⟩ := nm_sd1 hf
  refine hL6 nm_F (0 : Int32) M _ _ _ _ hH (lv_sub hl [2, 3, 1, 0] rfl) hl7 (fun H locs ls hH hl => ?_)
  have hl : lv_has ls 5 [] := hl
  have hH : nm_H D Y (fun q => s0 ≤ q) s.heap X nl ad (M6.1, M6.2, N, K) H locs := hH
  exact nm_vret hx hb hr hlocks hQ hH (congrArg (fun q => (q.1, q.2, N, K)) (Option.some.inj hf)) dJ7_fill_d0a16_22
def f_J7_fill_53178_L5 (a : Nat) (N : Nat → Nat) (x1 : Int32) (v1 : Int32) : Nat → Int32 → cm → Option (cm)
  | 0, _, _ => none
  | n5 + 1, x2, M2 =>
    (if v1 ≤ x2 then
    some M2
    else
    nm_c x2 (N a) (
    nm_l (nm_up M2.1 a x2.toNatClampNeg x1, M2.2) fun M5 =>
    f_J7_fill_53178_L5 a N x1 v1 n5 (x2 + 1) M5))
def f_J7_fill_53178 (a : Nat) (N : Nat → Nat) (x1 : Int32) (M : cm) : Option (cm) :=
nm_l (nI (N a)) fun v1 =>
nm_s1 (f_J7_fill_53178_L5 a N x1 v1 nm_F (0 : Int32) M) fun M6 =>
some M6
set_option maxHeartbeats 4000000 in
set_option maxRecDepth 100000 in
theorem k_J7_fill_53178 {l : Launch} {D : va_G} {Y : nm_Y} {s0 : Nat} {X : va_W} {ad : Nat → Nat} {nl : List Nat} {N K : Nat → Nat} (hL : cl_L nl K) (hN : cl_N N) {a : Nat} (ha : a ∈ nl) (hka : K a = 20) {x1 : Int32} {M : cm} {M0 : cm} (hf : f_J7_fill_53178 a N x1 M = some M0) :
    nm_Met l yJ7_fill_53178 cJ7_fill_53178 4 none { frames := 0, cells := 0, slots := 0, locals := 0 } [.ref (ad a), .int x1] D Y s0 (nm_W Y X nl ad (M.1, M.2, N, K)) (nm_Qv D s0 (nm_W Y X nl ad (M0.1, M0.2, N, K))) 0 0 := by
  refine nm_of (by decide) (Nat.le_of_ble_eq_true rfl) ?_
  intro p e R s m args below meth c Q ls hx hb hr hlocks hml hown hts hs0 hK hZ hRf hRl hRc hRs hQ hP hD hl
  have hH : nm_H D Y (fun q => s0 ≤ q) s.heap X nl ad (M.1, M.2, N, K) s.heap [] := ⟨hP, hD, va_S.rf⟩
  have hl : lv_has ls 4 [(0, .ref (ad a)), (1, .int x1)] := hl
  unfold f_J7_fill_53178 at hf
  refine lv_iconst (v := 0) hx hb dJ7_fill_53178_0 (by decide) ?_
  refine lv_istore_n (lv' := [(2, .int (0 : Int32)), (0, .ref (ad a)), (1, .int x1)]) hx hb dJ7_fill_53178_1 rfl hl (by decide) rfl (fun ls hl => ?_)
  refine lv_aload_n hx hb dJ7_fill_53178_2 rfl (lv_at hl 1 rfl) ?_
  refine nm_alen hx hb hK hH ha (Or.inl hka) rfl dJ7_fill_53178_3 ?_
  obtain ⟨v1, ev1, hf⟩ := nm_let hf
  refine nm_topi ev1 ?_
  refine lv_istore_n (lv' := [(3, .int v1), (2, .int (0 : Int32)), (0, .ref (ad a)), (1, .int x1)]) hx hb dJ7_fill_53178_4 rfl hl (by decide) rfl (fun ls hl => ?_)
  have hL5 : ∀ (n5 : Nat) (x2 : Int32) (M2 : cm) (H : Heap) (locs : List Loc) (ls : Array Slot) (o5 : cm), nm_H D Y (fun q => s0 ≤ q) s.heap X nl ad (M2.1, M2.2, N, K) H locs → lv_has ls 4 [(0, .ref (ad a)), (1, .int x1), (2, .int x2), (3, .int v1)] → f_J7_fill_53178_L5 a N x1 v1 n5 x2 M2 = some o5 → (∀ (H : Heap) (locs : List Loc) (ls : Array Slot), nm_H D Y (fun q => s0 ≤ q) s.heap X nl ad (o5.1, o5.2, N, K) H locs → lv_has ls 4 [] → W p l e R s m args below meth c H locs 0 0 Q (F0 m 20 ls [])) → W p l e R s m args below meth c H locs 0 0 Q (F0 m 5 ls []) := by
    intro n5
    induction n5 with
    | zero =>
      intro x2 M2 H locs ls o5 hH hl hf hX5
      cases hf
    | succ n5 ih5 =>
      intro x2 M2 H locs ls o5 hH hl hf hX5
      rw [f_J7_fill_53178_L5] at hf
      refine lv_iload_n hx hb dJ7_fill_53178_5 rfl (lv_at hl 2 rfl) ?_
      refine lv_iload_n hx hb dJ7_fill_53178_6 rfl (lv_at hl 3 rfl) ?_
      refine lv_icmp_ge (tgt := 20) hx hb dJ7_fill_53178_7 (by decide) (fun c3 => ?_) (fun c3 => ?_)
      · have hf := nm_it c3 hf
        cases hf
        exact hX5 _ _ _ hH (lv_sub hl [] rfl)
      · have hf := nm_ie c3 hf
        refine lv_aload_n hx hb dJ7_fill_53178_10 rfl (lv_at hl 0 rfl) ?_
        refine lv_iload_n hx hb dJ7_fill_53178_11 rfl (lv_at hl 2 rfl) ?_
        refine lv_iload_n hx hb dJ7_fill_53178_12 rfl (lv_at hl 1 rfl) ?_
        obtain ⟨hi4, hf⟩ := nm_chk hf
        obtain ⟨M5, eM5, hf⟩ := nm_let hf
        refine nm_iast hx hb hK hH ha hka rfl hi4 dJ7_fill_53178_13 (fun H locs hH => ?_)
        have hH : nm_H D Y (fun q => s0 ≤ q) s.heap X nl ad (M5.1, M5.2, N, K) H locs := by rw [eM5]; exact hH
        refine lv_iinc (v := x2 + 1) (lv' := [(2, .int (x2 + 1)), (0, .ref (ad a)), (1, .int x1), (3, .int v1)]) hx hb dJ7_fill_53178_14 hl (k := 2) rfl rfl (by decide) rfl (fun ls hl => ?_)
        refine lv_goto (tgt := 5) hx hb dJ7_fill_53178_17 (by decide) ?_
        exact ih5 (x2 + 1) M5 _ _ _ _ hH (lv_sub hl [1, 2, 0, 3] rfl) hf hX5
  obtain ⟨M6, hl7, hf⟩ := nm_sd1 hf
  refine hL5 nm_F (0 : Int32) M _ _ _ _ hH (lv_sub hl [2, 3, 1, 0] rfl) hl7 (fun H locs ls hH hl => ?_)
  have hl : lv_has ls 4 [] := hl
  have hH : nm_H D Y (fun q => s0 ≤ q) s.heap X nl ad (M6.1, M6.2, N, K) H locs := hH
  exact nm_vret hx hb hr hlocks hQ hH (congrArg (fun q => (q.1, q.2, N, K)) (Option.some.inj hf)) dJ7_fill_53178_20
def f_X0_span (x0 : Int32) (x1 : Int32) : Int64 :=
(if x1 < (64 : Int32) then
nm_shl ((nm_shl (1 : Int64) x1) - (1 : Int64)) x0
else
(-1 : Int64))
set_option maxHeartbeats 4000000 in
set_option maxRecDepth 100000 in
theorem k_X0_span {l : Launch} {D : va_G} {Y : nm_Y} {s0 : Nat} {X : va_W} {ad : Nat → Nat} {nl : List Nat} {N K : Nat → Nat} (hL : cl_L nl K) (hN : cl_N N) {x0 : Int32} {x1 : Int32} {M : cm} {r0 : Int64} (hf : f_X0_span x0 x1 = r0) :
    nm_Met l yX0_span cX0_span 2 (some .long) { frames := 0, cells := 0, slots := 0, locals := 0 } [.int x0, .int x1] D Y s0 (nm_W Y X nl ad (M.1, M.2, N, K)) (nm_Ql D s0 r0 (nm_W Y X nl ad (M.1, M.2, N, K))) 0 0 := by
  refine nm_of (by decide) (Nat.le_of_ble_eq_true rfl) ?_
  intro p e R s m args below meth c Q ls hx hb hr hlocks hml hown hts hs0 hK hZ hRf hRl hRc hRs hQ hP hD hl
  have hH : nm_H D Y (fun q => s0 ≤ q) s.heap X nl ad (M.1, M.2, N, K) s.heap [] := ⟨hP, hD, va_S.rf⟩
  have hl : lv_has ls 2 [(0, .int x0), (1, .int x1)] := hl
  unfold f_X0_span at hf
  refine lv_iload_n hx hb dX0_span_0 rfl (lv_at hl 1 rfl) ?_
  refine lv_bipush (v := 64) hx hb dX0_span_1 (by decide) ?_
  refine lv_icmp_lt (tgt := 12) hx hb dX0_span_3 (by decide) (fun c1 => ?_) (fun c1 => ?_)
  · have hf := nm_it c1 hf
    refine lv_lconst (v := 1) hx hb dX0_span_12 (by decide) ?_
    refine lv_iload_n hx hb dX0_span_13 rfl (lv_at hl 1 rfl) ?_
    refine lv_lshl (v := nm_shl (1 : Int64) x1) hx hb dX0_span_14 rfl ?_
    refine lv_lconst (v := 1) hx hb dX0_span_15 (by decide) ?_
    refine lv_lsub hx hb dX0_span_16 ?_
    refine lv_iload_n hx hb dX0_span_17 rfl (lv_at hl 0 rfl) ?_
    refine lv_lshl (v := nm_shl ((nm_shl (1 : Int64) x1) - (1 : Int64)) x0) hx hb dX0_span_18 rfl ?_
    exact nm_lret hx hb hr hlocks hQ hH hf rfl dX0_span_19
  · have hf := nm_ie c1 hf
    refine lv_ldc2 hx hb hown (hts _ tw_379) dX0_span_6 ?_
    refine lv_goto (tgt := 19) hx hb dX0_span_9 (by decide) ?_
    exact nm_lret hx hb hr hlocks hQ hH hf rfl dX0_span_19
def f_X0_heads (x0 : Int64) : Int64 :=
x0 &&& ((nm_shl x0 (1 : Int32)) ^^^ (-1 : Int64))
set_option maxHeartbeats 4000000 in
set_option maxRecDepth 100000 in
theorem k_X0_heads {l : Launch} {D : va_G} {Y : nm_Y} {s0 : Nat} {X : va_W} {ad : Nat → Nat} {nl : List Nat} {N K : Nat → Nat} (hL : cl_L nl K) (hN : cl_N N) {x0 : Int64} {M : cm} {r0 : Int64} (hf : f_X0_heads x0 = r0) :
    nm_Met l yX0_heads cX0_heads 2 (some .long) { frames := 0, cells := 0, slots := 0, locals := 0 } [.long x0] D Y s0 (nm_W Y X nl ad (M.1, M.2, N, K)) (nm_Ql D s0 r0 (nm_W Y X nl ad (M.1, M.2, N, K))) 0 0 := by
  refine nm_of (by decide) (Nat.le_of_ble_eq_true rfl) ?_
  intro p e R s m args below meth c Q ls hx hb hr hlocks hml hown hts hs0 hK hZ hRf hRl hRc hRs hQ hP hD hl
  have hH : nm_H D Y (fun q => s0 ≤ q) s.heap X nl ad (M.1, M.2, N, K) s.heap [] := ⟨hP, hD, va_S.rf⟩
  have hl : lv_has ls 2 [(0, .long x0)] := hl
  unfold f_X0_heads at hf
  refine lv_lload_n hx hb dX0_heads_0 rfl (lv_at hl 0 rfl) ?_
  refine lv_lload_n hx hb dX0_heads_1 rfl (lv_at hl 0 rfl) ?_
  refine lv_iconst (v := 1) hx hb dX0_heads_2 (by decide) ?_
  refine lv_lshl (v := nm_shl x0 (1 : Int32)) hx hb dX0_heads_3 rfl ?_
  refine lv_ldc2 hx hb hown (hts _ tw_379) dX0_heads_4 ?_
  refine lv_lxor hx hb dX0_heads_7 ?_
  refine lv_land hx hb dX0_heads_8 ?_
  exact nm_lret hx hb hr hlocks hQ hH hf rfl dX0_heads_9
def f_X0_lowest (x0 : Int64) : Int32 :=
f_J13_bitCount_95d88 ((x0 &&& (-x0)) - (1 : Int64))
set_option maxHeartbeats 4000000 in
set_option maxRecDepth 100000 in
theorem k_X0_lowest {l : Launch} {D : va_G} {Y : nm_Y} {s0 : Nat} {X : va_W} {ad : Nat → Nat} {nl : List Nat} {N K : Nat → Nat} (hL : cl_L nl K) (hN : cl_N N) {x0 : Int64} {M : cm} {r0 : Int32} (hf : f_X0_lowest x0 = r0) :
    nm_Met l yX0_lowest cX0_lowest 2 (some .int) { frames := 1, cells := 0, slots := 0, locals := 21 } [.long x0] D Y s0 (nm_W Y X nl ad (M.1, M.2, N, K)) (nm_Qi D s0 r0 (nm_W Y X nl ad (M.1, M.2, N, K))) 0 0 := by
  refine nm_of (by decide) (Nat.le_of_ble_eq_true rfl) ?_
  intro p e R s m args below meth c Q ls hx hb hr hlocks hml hown hts hs0 hK hZ hRf hRl hRc hRs hQ hP hD hl
  have hH : nm_H D Y (fun q => s0 ≤ q) s.heap X nl ad (M.1, M.2, N, K) s.heap [] := ⟨hP, hD, va_S.rf⟩
  have hl : lv_has ls 2 [(0, .long x0)] := hl
  unfold f_X0_lowest at hf
  refine lv_lload_n hx hb dX0_lowest_0 rfl (lv_at hl 0 rfl) ?_
  refine lv_lload_n hx hb dX0_lowest_1 rfl (lv_at hl 0 rfl) ?_
  refine lv_lneg hx hb dX0_lowest_2 ?_
  refine lv_land hx hb dX0_lowest_3 ?_
  refine lv_lconst (v := 1) hx hb dX0_lowest_4 (by decide) ?_
  refine lv_lsub hx hb dX0_lowest_5 ?_
  refine nm_calli (nm_runS (X := X) (nl := nl) (k_J13_bitCount_95d88 hL hN (hf := (rfl : f_J13_bitCount_95d88 ((x0 &&& (-x0)) - (1 : Int64)) = _))) hx hb hml hown hts hs0 hK hZ hH tw_611 tw_626 tw_610 tw_17 hd_J13_bitCount_95d88 rfl rfl ⟨Nat.le_trans (Nat.le_of_ble_eq_true rfl) hRf, Nat.le_trans (Nat.le_of_ble_eq_true rfl) hRl⟩ rfl hl.1 rfl (Nat.le_of_ble_eq_true rfl) dX0_lowest_6 ⟨Nat.zero_le _, Nat.zero_le _⟩) hH (fun H locs hH => ?_)
  have hH : nm_H D Y (fun q => s0 ≤ q) s.heap X nl ad (M.1, M.2, N, K) H locs := hH
  exact nm_iret hx hb hr hlocks hQ hH hf rfl dX0_lowest_9
def f_X0_stretch (x0 : Int64) (x2 : Int32) : Int32 :=
f_X0_lowest ((nm_shr x0 x2) ^^^ (-1 : Int64))
set_option maxHeartbeats 4000000 in
set_option maxRecDepth 100000 in
theorem k_X0_stretch {l : Launch} {D : va_G} {Y : nm_Y} {s0 : Nat} {X : va_W} {ad : Nat → Nat} {nl : List Nat} {N K : Nat → Nat} (hL : cl_L nl K) (hN : cl_N N) {x0 : Int64} {x2 : Int32} {M : cm} {r0 : Int32} (hf : f_X0_stretch x0 x2 = r0) :
    nm_Met l yX0_stretch cX0_stretch 3 (some .int) { frames := 2, cells := 0, slots := 0, locals := 42 } [.long x0, .int x2] D Y s0 (nm_W Y X nl ad (M.1, M.2, N, K)) (nm_Qi D s0 r0 (nm_W Y X nl ad (M.1, M.2, N, K))) 0 0 := by
  refine nm_of (by decide) (Nat.le_of_ble_eq_true rfl) ?_
  intro p e R s m args below meth c Q ls hx hb hr hlocks hml hown hts hs0 hK hZ hRf hRl hRc hRs hQ hP hD hl
  have hH : nm_H D Y (fun q => s0 ≤ q) s.heap X nl ad (M.1, M.2, N, K) s.heap [] := ⟨hP, hD, va_S.rf⟩
  have hl : lv_has ls 3 [(0, .long x0), (2, .int x2)] := hl
  unfold f_X0_stretch at hf
  refine lv_lload_n hx hb dX0_stretch_0 rfl (lv_at hl 0 rfl) ?_
  refine lv_iload_n hx hb dX0_stretch_1 rfl (lv_at hl 1 rfl) ?_
  refine lv_lushr (v := nm_shr x0 x2) hx hb dX0_stretch_2 rfl ?_
  refine lv_ldc2 hx hb hown (hts _ tw_379) dX0_stretch_3 ?_
  refine lv_lxor hx hb dX0_stretch_6 ?_
  refine nm_calli (nm_runS (X := X) (nl := nl) (k_X0_lowest hL hN (hf := (rfl : f_X0_lowest ((nm_shr x0 x2) ^^^ (-1 : Int64)) = _))) hx hb hml hown hts hs0 hK hZ hH tw_625 tw_650 tw_624 tw_13 hd_X0_lowest rfl rfl ⟨Nat.le_trans (Nat.le_of_ble_eq_true rfl) hRf, Nat.le_trans (Nat.le_of_ble_eq_true rfl) hRl⟩ rfl hl.1 rfl (Nat.le_of_ble_eq_true rfl) dX0_stretch_7 ⟨Nat.zero_le _, Nat.zero_le _⟩) hH (fun H locs hH => ?_)
  have hH : nm_H D Y (fun q => s0 ≤ q) s.heap X nl ad (M.1, M.2, N, K) H locs := hH
  exact nm_iret hx hb hr hlocks hQ hH hf rfl dX0_stretch_10
def f_X0_moved (x0 : Int64) (x2 : Int32) : Int64 :=
(if x2 ≤ (-64 : Int32) then
(0 : Int64)
else
(if x2 < (64 : Int32) then
(if x2 < 0 then
nm_shr x0 (-x2)
else
nm_shl x0 x2)
else
(0 : Int64)))
set_option maxHeartbeats 4000000 in
set_option maxRecDepth 100000 in
theorem k_X0_moved {l : Launch} {D : va_G} {Y : nm_Y} {s0 : Nat} {X : va_W} {ad : Nat → Nat} {nl : List Nat} {N K : Nat → Nat} (hL : cl_L nl K) (hN : cl_N N) {x0 : Int64} {x2 : Int32} {M : cm} {r0 : Int64} (hf : f_X0_moved x0 x2 = r0) :
    nm_Met l yX0_moved cX0_moved 3 (some .long) { frames := 0, cells := 0, slots := 0, locals := 0 } [.long x0, .int x2] D Y s0 (nm_W Y X nl ad (M.1, M.2, N, K)) (nm_Ql D s0 r0 (nm_W Y X nl ad (M.1, M.2, N, K))) 0 0 := by
  refine nm_of (by decide) (Nat.le_of_ble_eq_true rfl) ?_
  intro p e R s m args below meth c Q ls hx hb hr hlocks hml hown hts hs0 hK hZ hRf hRl hRc hRs hQ hP hD hl
  have hH : nm_H D Y (fun q => s0 ≤ q) s.heap X nl ad (M.1, M.2, N, K) s.heap [] := ⟨hP, hD, va_S.rf⟩
  have hl : lv_has ls 3 [(0, .long x0), (2, .int x2)] := hl
  unfold f_X0_moved at hf
  refine lv_iload_n hx hb dX0_moved_0 rfl (lv_at hl 1 rfl) ?_
  refine lv_bipush (v := -64) hx hb dX0_moved_1 (by decide) ?_
  refine lv_icmp_le (tgt := 12) hx hb dX0_moved_3 (by decide) (fun c1 => ?_) (fun c1 => ?_)
  · have hf := nm_it c1 hf
    refine lv_lconst (v := 0) hx hb dX0_moved_12 (by decide) ?_
    exact nm_lret hx hb hr hlocks hQ hH hf rfl dX0_moved_13
  · have hf := nm_ie c1 hf
    refine lv_iload_n hx hb dX0_moved_6 rfl (lv_at hl 1 rfl) ?_
    refine lv_bipush (v := 64) hx hb dX0_moved_7 (by decide) ?_
    refine lv_icmp_lt (tgt := 14) hx hb dX0_moved_9 (by decide) (fun c2 => ?_) (fun c2 => ?_)
    · have hf := nm_it c2 hf
      refine lv_iload_n hx hb dX0_moved_14 rfl (lv_at hl 1 rfl) ?_
      refine lv_if_lt (tgt := 24) hx hb dX0_moved_15 (by decide) (fun c3 => ?_) (fun c3 => ?_)
      · have hf := nm_it c3 hf
        refine lv_lload_n hx hb dX0_moved_24 rfl (lv_at hl 0 rfl) ?_
        refine lv_iload_n hx hb dX0_moved_25 rfl (lv_at hl 1 rfl) ?_
        refine lv_ineg hx hb dX0_moved_26 ?_
        refine lv_lushr (v := nm_shr x0 (-x2)) hx hb dX0_moved_27 rfl ?_
        exact nm_lret hx hb hr hlocks hQ hH hf rfl dX0_moved_28
      · have hf := nm_ie c3 hf
        refine lv_lload_n hx hb dX0_moved_18 rfl (lv_at hl 0 rfl) ?_
        refine lv_iload_n hx hb dX0_moved_19 rfl (lv_at hl 1 rfl) ?_
        refine lv_lshl (v := nm_shl x0 x2) hx hb dX0_moved_20 rfl ?_
        refine lv_goto (tgt := 28) hx hb dX0_moved_21 (by decide) ?_
        exact nm_lret hx hb hr hlocks hQ hH hf rfl dX0_moved_28
    · have hf := nm_ie c2 hf
      refine lv_lconst (v := 0) hx hb dX0_moved_12 (by decide) ?_
      exact nm_lret hx hb hr hlocks hQ hH hf rfl dX0_moved_13
def f_X0_gaps_L12  : Nat → Int64 → Int32 → Option (Int64)
  | 0, _, _ => none
  | n12 + 1, x4, x6 =>
    (if (64 : Int32) ≤ x6 then
    some x4
    else
    nm_l (x4 ||| (nm_shr x4 x6)) fun v3 =>
    nm_l (x6 * (2 : Int32)) fun v4 =>
    f_X0_gaps_L12 n12 v3 v4)
def f_X0_gaps (x0 : Int64) : Option Int64 :=
nm_l (-(x0 &&& (-x0))) fun v1 =>
nm_s1 (f_X0_gaps_L12 nm_F x0 (1 : Int32)) fun y5 =>
some (((x0 ^^^ (-1 : Int64)) &&& v1) &&& y5)
set_option maxHeartbeats 4000000 in
set_option maxRecDepth 100000 in
theorem k_X0_gaps {l : Launch} {D : va_G} {Y : nm_Y} {s0 : Nat} {X : va_W} {ad : Nat → Nat} {nl : List Nat} {N K : Nat → Nat} (hL : cl_L nl K) (hN : cl_N N) {x0 : Int64} {M : cm} {r0 : Int64} (hf : f_X0_gaps x0 = some r0) :
    nm_Met l yX0_gaps cX0_gaps 7 (some .long) { frames := 0, cells := 0, slots := 0, locals := 0 } [.long x0] D Y s0 (nm_W Y X nl ad (M.1, M.2, N, K)) (nm_Ql D s0 r0 (nm_W Y X nl ad (M.1, M.2, N, K))) 0 0 := by
  refine nm_of (by decide) (Nat.le_of_ble_eq_true rfl) ?_
  intro p e R s m args below meth c Q ls hx hb hr hlocks hml hown hts hs0 hK hZ hRf hRl hRc hRs hQ hP hD hl
  have hH : nm_H D Y (fun q => s0 ≤ q) s.heap X nl ad (M.1, M.2, N, K) s.heap [] := ⟨hP, hD, va_S.rf⟩
  have hl : lv_has ls 7 [(0, .long x0)] := hl
  unfold f_X0_gaps at hf
  refine lv_lload_n hx hb dX0_gaps_0 rfl (lv_at hl 0 rfl) ?_
  refine lv_lload_n hx hb dX0_gaps_1 rfl (lv_at hl 0 rfl) ?_
  refine lv_lneg hx hb dX0_gaps_2 ?_
  refine lv_land hx hb dX0_gaps_3 ?_
  refine lv_lneg hx hb dX0_gaps_4 ?_
  obtain ⟨v1, ev1, hf⟩ := nm_let hf
  refine nm_topl ev1 ?_
  refine lv_lstore_n (lv' := [(2, .long v1), (0, .long x0)]) hx hb dX0_gaps_5 rfl hl (by decide) rfl (fun ls hl => ?_)
  refine lv_lload_n hx hb dX0_gaps_6 rfl (lv_at hl 1 rfl) ?_
  refine lv_lstore (lv' := [(4, .long x0), (2, .long v1), (0, .long x0)]) hx hb dX0_gaps_7 hl (by decide) rfl (fun ls hl => ?_)
  refine lv_iconst (v := 1) hx hb dX0_gaps_9 (by decide) ?_
  refine lv_istore (lv' := [(6, .int (1 : Int32)), (4, .long x0), (2, .long v1), (0, .long x0)]) hx hb dX0_gaps_10 hl (by decide) rfl (fun ls hl => ?_)
  have hL12 : ∀ (n12 : Nat) (x4 : Int64) (x6 : Int32) (H : Heap) (locs : List Loc) (ls : Array Slot) (o12 : Int64), nm_H D Y (fun q => s0 ≤ q) s.heap X nl ad (M.1, M.2, N, K) H locs → lv_has ls 7 [(0, .long x0), (2, .long v1), (4, .long x4), (6, .int x6)] → f_X0_gaps_L12 n12 x4 x6 = some o12 → (∀ (H : Heap) (locs : List Loc) (ls : Array Slot), nm_H D Y (fun q => s0 ≤ q) s.heap X nl ad (M.1, M.2, N, K) H locs → lv_has ls 7 [(0, .long x0), (2, .long v1), (4, .long o12)] → W p l e R s m args below meth c H locs 0 0 Q (F0 m 38 ls [])) → W p l e R s m args below meth c H locs 0 0 Q (F0 m 12 ls []) := by
    intro n12
    induction n12 with
    | zero =>
      intro x4 x6 H locs ls o12 hH hl hf hX12
      cases hf
    | succ n12 ih12 =>
      intro x4 x6 H locs ls o12 hH hl hf hX12
      rw [f_X0_gaps_L12] at hf
      refine lv_iload hx hb dX0_gaps_12 (lv_at hl 3 rfl) ?_
      refine lv_bipush (v := 64) hx hb dX0_gaps_14 (by decide) ?_
      refine lv_icmp_ge (tgt := 38) hx hb dX0_gaps_16 (by decide) (fun c2 => ?_) (fun c2 => ?_)
      · have hf := nm_it c2 hf
        cases hf
        exact hX12 _ _ _ hH (lv_sub hl [0, 1, 2] rfl)
      · have hf := nm_ie c2 hf
        refine lv_lload hx hb dX0_gaps_19 (lv_at hl 2 rfl) ?_
        refine lv_lload hx hb dX0_gaps_21 (lv_at hl 2 rfl) ?_
        refine lv_iload hx hb dX0_gaps_23 (lv_at hl 3 rfl) ?_
        refine lv_lushr (v := nm_shr x4 x6) hx hb dX0_gaps_25 rfl ?_
        refine lv_lor hx hb dX0_gaps_26 ?_
        obtain ⟨v3, ev3, hf⟩ := nm_let hf
        refine nm_topl ev3 ?_
        refine lv_lstore (lv' := [(4, .long v3), (0, .long x0), (2, .long v1), (6, .int x6)]) hx hb dX0_gaps_27 hl (by decide) rfl (fun ls hl => ?_)
        refine lv_iload hx hb dX0_gaps_29 (lv_at hl 3 rfl) ?_
        refine lv_iconst (v := 2) hx hb dX0_gaps_31 (by decide) ?_
        refine lv_imul hx hb dX0_gaps_32 ?_
        obtain ⟨v4, ev4, hf⟩ := nm_let hf
        refine nm_topi ev4 ?_
        refine lv_istore (lv' := [(6, .int v4), (4, .long v3), (0, .long x0), (2, .long v1)]) hx hb dX0_gaps_33 hl (by decide) rfl (fun ls hl => ?_)
        refine lv_goto (tgt := 12) hx hb dX0_gaps_35 (by decide) ?_
        exact ih12 v3 v4 _ _ _ _ hH (lv_sub hl [2, 3, 1, 0] rfl) hf hX12
  obtain ⟨y5, hl6, hf⟩ := nm_sd1 hf
  refine hL12 nm_F x0 (1 : Int32) _ _ _ _ hH (lv_sub hl [3, 2, 1, 0] rfl) hl6 (fun H locs ls hH hl => ?_)
  have hl : lv_has ls 7 [(0, .long x0), (2, .long v1), (4, .long y5)] := hl
  have hH : nm_H D Y (fun q => s0 ≤ q) s.heap X nl ad (M.1, M.2, N, K) H locs := hH
  refine lv_lload_n hx hb dX0_gaps_38 rfl (lv_at hl 0 rfl) ?_
  refine lv_ldc2 hx hb hown (hts _ tw_379) dX0_gaps_39 ?_
  refine lv_lxor hx hb dX0_gaps_42 ?_
  refine lv_lload_n hx hb dX0_gaps_43 rfl (lv_at hl 1 rfl) ?_
  refine lv_land hx hb dX0_gaps_44 ?_
  refine lv_lload hx hb dX0_gaps_45 (lv_at hl 2 rfl) ?_
  refine lv_land hx hb dX0_gaps_47 ?_
  exact nm_lret hx hb hr hlocks hQ hH (Option.some.inj hf) rfl dX0_gaps_48
def f_X0_reversed (x0 : Int64) : Int64 :=
nm_l ((nm_shl (x0 &&& (6148914691236517205 : Int64)) (1 : Int32)) ||| ((nm_shr x0 (1 : Int32)) &&& (6148914691236517205 : Int64))) fun v1 =>
nm_l ((nm_shl (v1 &&& (3689348814741910323 : Int64)) (2 : Int32)) ||| ((nm_shr v1 (2 : Int32)) &&& (3689348814741910323 : Int64))) fun v2 =>
nm_l ((nm_shl (v2 &&& (1085102592571150095 : Int64)) (4 : Int32)) ||| ((nm_shr v2 (4 : Int32)) &&& (1085102592571150095 : Int64))) fun v3 =>
nm_l ((nm_shl (v3 &&& (71777214294589695 : Int64)) (8 : Int32)) ||| ((nm_shr v3 (8 : Int32)) &&& (71777214294589695 : Int64))) fun v4 =>
nm_l ((nm_shl (v4 &&& (281470681808895 : Int64)) (16 : Int32)) ||| ((nm_shr v4 (16 : Int32)) &&& (281470681808895 : Int64))) fun v5 =>
(nm_shl v5 (32 : Int32)) ||| (nm_shr v5 (32 : Int32))
set_option maxHeartbeats 4000000 in
set_option maxRecDepth 100000 in
theorem k_X0_reversed {l : Launch} {D : va_G} {Y : nm_Y} {s0 : Nat} {X : va_W} {ad : Nat → Nat} {nl : List Nat} {N K : Nat → Nat} (hL : cl_L nl K) (hN : cl_N N) {x0 : Int64} {M : cm} {r0 : Int64} (hf : f_X0_reversed x0 = r0) :
    nm_Met l yX0_reversed cX0_reversed 4 (some .long) { frames := 0, cells := 0, slots := 0, locals := 0 } [.long x0] D Y s0 (nm_W Y X nl ad (M.1, M.2, N, K)) (nm_Ql D s0 r0 (nm_W Y X nl ad (M.1, M.2, N, K))) 0 0 := by
  refine nm_of (by decide) (Nat.le_of_ble_eq_true rfl) ?_
  intro p e R s m args below meth c Q ls hx hb hr hlocks hml hown hts hs0 hK hZ hRf hRl hRc hRs hQ hP hD hl
  have hH : nm_H D Y (fun q => s0 ≤ q) s.heap X nl ad (M.1, M.2, N, K) s.heap [] := ⟨hP, hD, va_S.rf⟩
  have hl : lv_has ls 4 [(0, .long x0)] := hl
  unfold f_X0_reversed at hf
  refine lv_lload_n hx hb dX0_reversed_0 rfl (lv_at hl 0 rfl) ?_
  refine lv_lstore_n (lv' := [(2, .long x0), (0, .long x0)]) hx hb dX0_reversed_1 rfl hl (by decide) rfl (fun ls hl => ?_)
  refine lv_lload_n hx hb dX0_reversed_2 rfl (lv_at hl 0 rfl) ?_
  refine lv_ldc2 hx hb hown (hts _ tw_532) dX0_reversed_3 ?_
  refine lv_land hx hb dX0_reversed_6 ?_
  refine lv_iconst (v := 1) hx hb dX0_reversed_7 (by decide) ?_
  refine lv_lshl (v := nm_shl (x0 &&& (6148914691236517205 : Int64)) (1 : Int32)) hx hb dX0_reversed_8 rfl ?_
  refine lv_lload_n hx hb dX0_reversed_9 rfl (lv_at hl 0 rfl) ?_
  refine lv_iconst (v := 1) hx hb dX0_reversed_10 (by decide) ?_
  refine lv_lushr (v := nm_shr x0 (1 : Int32)) hx hb dX0_reversed_11 rfl ?_
  refine lv_ldc2 hx hb hown (hts _ tw_532) dX0_reversed_12 ?_
  refine lv_land hx hb dX0_reversed_15 ?_
  refine lv_lor hx hb dX0_reversed_16 ?_
  obtain ⟨v1, ev1, hf⟩ := nm_let hf
  refine nm_topl ev1 ?_
  refine lv_lstore_n (lv' := [(2, .long v1), (0, .long x0)]) hx hb dX0_reversed_17 rfl hl (by decide) rfl (fun ls hl => ?_)
  refine lv_lload_n hx hb dX0_reversed_18 rfl (lv_at hl 0 rfl) ?_
  refine lv_ldc2 hx hb hown (hts _ tw_533) dX0_reversed_19 ?_
  refine lv_land hx hb dX0_reversed_22 ?_
  refine lv_iconst (v := 2) hx hb dX0_reversed_23 (by decide) ?_
  refine lv_lshl (v := nm_shl (v1 &&& (3689348814741910323 : Int64)) (2 : Int32)) hx hb dX0_reversed_24 rfl ?_
  refine lv_lload_n hx hb dX0_reversed_25 rfl (lv_at hl 0 rfl) ?_
  refine lv_iconst (v := 2) hx hb dX0_reversed_26 (by decide) ?_
  refine lv_lushr (v := nm_shr v1 (2 : Int32)) hx hb dX0_reversed_27 rfl ?_
  refine lv_ldc2 hx hb hown (hts _ tw_533) dX0_reversed_28 ?_
  refine lv_land hx hb dX0_reversed_31 ?_
  refine lv_lor hx hb dX0_reversed_32 ?_
  obtain ⟨v2, ev2, hf⟩ := nm_let hf
  refine nm_topl ev2 ?_
  refine lv_lstore_n (lv' := [(2, .long v2), (0, .long x0)]) hx hb dX0_reversed_33 rfl hl (by decide) rfl (fun ls hl => ?_)
  refine lv_lload_n hx hb dX0_reversed_34 rfl (lv_at hl 0 rfl) ?_
  refine lv_ldc2 hx hb hown (hts _ tw_534) dX0_reversed_35 ?_
  refine lv_land hx hb dX0_reversed_38 ?_
  refine lv_iconst (v := 4) hx hb dX0_reversed_39 (by decide) ?_
  refine lv_lshl (v := nm_shl (v2 &&& (1085102592571150095 : Int64)) (4 : Int32)) hx hb dX0_reversed_40 rfl ?_
  refine lv_lload_n hx hb dX0_reversed_41 rfl (lv_at hl 0 rfl) ?_
  refine lv_iconst (v := 4) hx hb dX0_reversed_42 (by decide) ?_
  refine lv_lushr (v := nm_shr v2 (4 : Int32)) hx hb dX0_reversed_43 rfl ?_
  refine lv_ldc2 hx hb hown (hts _ tw_534) dX0_reversed_44 ?_
  refine lv_land hx hb dX0_reversed_47 ?_
  refine lv_lor hx hb dX0_reversed_48 ?_
  obtain ⟨v3, ev3, hf⟩ := nm_let hf
  refine nm_topl ev3 ?_
  refine lv_lstore_n (lv' := [(2, .long v3), (0, .long x0)]) hx hb dX0_reversed_49 rfl hl (by decide) rfl (fun ls hl => ?_)
  refine lv_lload_n hx hb dX0_reversed_50 rfl (lv_at hl 0 rfl) ?_
  refine lv_ldc2 hx hb hown (hts _ tw_535) dX0_reversed_51 ?_
  refine lv_land hx hb dX0_reversed_54 ?_
  refine lv_bipush (v := 8) hx hb dX0_reversed_55 (by decide) ?_
  refine lv_lshl (v := nm_shl (v3 &&& (71777214294589695 : Int64)) (8 : Int32)) hx hb dX0_reversed_57 rfl ?_
  refine lv_lload_n hx hb dX0_reversed_58 rfl (lv_at hl 0 rfl) ?_
  refine lv_bipush (v := 8) hx hb dX0_reversed_59 (by decide) ?_
  refine lv_lushr (v := nm_shr v3 (8 : Int32)) hx hb dX0_reversed_61 rfl ?_
  refine lv_ldc2 hx hb hown (hts _ tw_535) dX0_reversed_62 ?_
  refine lv_land hx hb dX0_reversed_65 ?_
  refine lv_lor hx hb dX0_reversed_66 ?_
  obtain ⟨v4, ev4, hf⟩ := nm_let hf
  refine nm_topl ev4 ?_
  refine lv_lstore_n (lv' := [(2, .long v4), (0, .long x0)]) hx hb dX0_reversed_67 rfl hl (by decide) rfl (fun ls hl => ?_)
  refine lv_lload_n hx hb dX0_reversed_68 rfl (lv_at hl 0 rfl) ?_
  refine lv_ldc2 hx hb hown (hts _ tw_536) dX0_reversed_69 ?_
  refine lv_land hx hb dX0_reversed_72 ?_
  refine lv_bipush (v := 16) hx hb dX0_reversed_73 (by decide) ?_
  refine lv_lshl (v := nm_shl (v4 &&& (281470681808895 : Int64)) (16 : Int32)) hx hb dX0_reversed_75 rfl ?_
  refine lv_lload_n hx hb dX0_reversed_76 rfl (lv_at hl 0 rfl) ?_
  refine lv_bipush (v := 16) hx hb dX0_reversed_77 (by decide) ?_
  refine lv_lushr (v := nm_shr v4 (16 : Int32)) hx hb dX0_reversed_79 rfl ?_
  refine lv_ldc2 hx hb hown (hts _ tw_536) dX0_reversed_80 ?_
  refine lv_land hx hb dX0_reversed_83 ?_
  refine lv_lor hx hb dX0_reversed_84 ?_
  obtain ⟨v5, ev5, hf⟩ := nm_let hf
  refine nm_topl ev5 ?_
  refine lv_lstore_n (lv' := [(2, .long v5), (0, .long x0)]) hx hb dX0_reversed_85 rfl hl (by decide) rfl (fun ls hl => ?_)
  refine lv_lload_n hx hb dX0_reversed_86 rfl (lv_at hl 0 rfl) ?_
  refine lv_bipush (v := 32) hx hb dX0_reversed_87 (by decide) ?_
  refine lv_lshl (v := nm_shl v5 (32 : Int32)) hx hb dX0_reversed_89 rfl ?_
  refine lv_lload_n hx hb dX0_reversed_90 rfl (lv_at hl 0 rfl) ?_
  refine lv_bipush (v := 32) hx hb dX0_reversed_91 (by decide) ?_
  refine lv_lushr (v := nm_shr v5 (32 : Int32)) hx hb dX0_reversed_93 rfl ?_
  refine lv_lor hx hb dX0_reversed_94 ?_
  exact nm_lret hx hb hr hlocks hQ hH hf rfl dX0_reversed_95
def f_X0_transpose_J69 (a : Nat) (N : Nat → Nat) (x4 : Int32) (M5 : cm) (k : Int32 → cm → Option (cm)) : Option (cm) :=
k (x4 + 1) M5
def f_X0_transpose_L14 (a : Nat) (N : Nat → Nat) (x1 : Int64) (x3 : Int32) : Nat → Int32 → cm → Option (cm)
  | 0, _, _ => none
  | n14 + 1, x4, M3 =>
    (if (64 : Int32) ≤ (x4 + x3) then
    some M3
    else
    (if (x4 &&& x3) = 0 then
    nm_c x4 (N a) (
    nm_c (x4 + x3) (N a) (
    nm_l (((nm_shr (M3.2 a x4.toNatClampNeg) x3) ^^^ (M3.2 a (x4 + x3).toNatClampNeg)) &&& x1) fun v9 =>
    nm_c x4 (N a) (
    nm_c x4 (N a) (
    nm_l ((M3.1, nm_upJ M3.2 a x4.toNatClampNeg ((M3.2 a x4.toNatClampNeg) ^^^ (nm_shl v9 x3)))) fun M12 =>
    nm_c (x4 + x3) (N a) (
    nm_c (x4 + x3) (N a) (
    nm_l ((M12.1, nm_upJ M12.2 a ((x4 + x3).toNatClampNeg) ((M12.2 a (x4 + x3).toNatClampNeg) ^^^ v9))) fun M15 =>
    f_X0_transpose_J69 a N x4 M15 (f_X0_transpose_L14 a N x1 x3 n14)))))))
    else
    f_X0_transpose_J69 a N x4 M3 (f_X0_transpose_L14 a N x1 x3 n14)))
def f_X0_transpose_L7 (a : Nat) (N : Nat → Nat) : Nat → Int64 → Int32 → cm → Option (cm)
  | 0, _, _, _ => none
  | n7 + 1, x1, x3, M1 =>
    (if x3 ≤ 0 then
    some M1
    else
    nm_s1 (f_X0_transpose_L14 a N x1 x3 nm_F (0 : Int32) M1) fun M16 =>
    nm_l (x1 ^^^ (nm_shl x1 (x3 / (2 : Int32)))) fun v17 =>
    nm_l (x3 / (2 : Int32)) fun v18 =>
    f_X0_transpose_L7 a N n7 v17 v18 M16)
def f_X0_transpose (a : Nat) (N : Nat → Nat) (M : cm) : Option (cm) :=
nm_s1 (f_X0_transpose_L7 a N nm_F (4294967295 : Int64) (32 : Int32) M) fun M20 =>
some M20
set_option maxHeartbeats 4000000 in
set_option maxRecDepth 100000 in
theorem k_X0_transpose {l : Launch} {D : va_G} {Y : nm_Y} {s0 : Nat} {X : va_W} {ad : Nat → Nat} {nl : List Nat} {N K : Nat → Nat} (hL : cl_L nl K) (hN : cl_N N) {a : Nat} (ha : a ∈ nl) (hka : K a = 21) {M : cm} {M0 : cm} (hf : f_X0_transpose a N M = some M0) :
    nm_Met l yX0_transpose cX0_transpose 7 none { frames := 0, cells := 0, slots := 0, locals := 0 } [.ref (ad a)] D Y s0 (nm_W Y X nl ad (M.1, M.2, N, K)) (nm_Qv D s0 (nm_W Y X nl ad (M0.1, M0.2, N, K))) 0 0 := by
  refine nm_of (by decide) (Nat.le_of_ble_eq_true rfl) ?_
  intro p e R s m args below meth c Q ls hx hb hr hlocks hml hown hts hs0 hK hZ hRf hRl hRc hRs hQ hP hD hl
  have hH : nm_H D Y (fun q => s0 ≤ q) s.heap X nl ad (M.1, M.2, N, K) s.heap [] := ⟨hP, hD, va_S.rf⟩
  have hl : lv_has ls 7 [(0, .ref (ad a))] := hl
  unfold f_X0_transpose at hf
  refine lv_ldc2 hx hb hown (hts _ tw_540) dX0_transpose_0 ?_
  refine lv_lstore_n (lv' := [(1, .long (4294967295 : Int64)), (0, .ref (ad a))]) hx hb dX0_transpose_3 rfl hl (by decide) rfl (fun ls hl => ?_)
  refine lv_bipush (v := 32) hx hb dX0_transpose_4 (by decide) ?_
  refine lv_istore_n (lv' := [(3, .int (32 : Int32)), (1, .long (4294967295 : Int64)), (0, .ref (ad a))]) hx hb dX0_transpose_6 rfl hl (by decide) rfl (fun ls hl => ?_)
  have hL7 : ∀ (n7 : Nat) (x1 : Int64) (x3 : Int32) (M1 : cm) (H : Heap) (locs : List Loc) (ls : Array Slot) (o7 : cm), nm_H D Y (fun q => s0 ≤ q) s.heap X nl ad (M1.1, M1.2, N, K) H locs → lv_has ls 7 [(0, .ref (ad a)), (1, .long x1), (3, .int x3)] → f_X0_transpose_L7 a N n7 x1 x3 M1 = some o7 → (∀ (H : Heap) (locs : List Loc) (ls : Array Slot), nm_H D Y (fun q => s0 ≤ q) s.heap X nl ad (o7.1, o7.2, N, K) H locs → lv_has ls 7 [] → W p l e R s m args below meth c H locs 0 0 Q (F0 m 90 ls [])) → W p l e R s m args below meth c H locs 0 0 Q (F0 m 7 ls []) := by
    intro n7
    induction n7 with
    | zero =>
      intro x1 x3 M1 H locs ls o7 hH hl hf hX7
      cases hf
    | succ n7 ih7 =>
      intro x1 x3 M1 H locs ls o7 hH hl hf hX7
      rw [f_X0_transpose_L7] at hf
      refine lv_iload_n hx hb dX0_transpose_7 rfl (lv_at hl 2 rfl) ?_
      refine lv_if_le (tgt := 90) hx hb dX0_transpose_8 (by decide) (fun c2 => ?_) (fun c2 => ?_)
      · have hf := nm_it c2 hf
        cases hf
        exact hX7 _ _ _ hH (lv_sub hl [] rfl)
      · have hf := nm_ie c2 hf
        refine lv_iconst (v := 0) hx hb dX0_transpose_11 (by decide) ?_
        refine lv_istore (lv' := [(4, .int (0 : Int32)), (0, .ref (ad a)), (1, .long x1), (3, .int x3)]) hx hb dX0_transpose_12 hl (by decide) rfl (fun ls hl => ?_)
        have hL14 : ∀ (n14 : Nat) (x4 : Int32) (M3 : cm) (H : Heap) (locs : List Loc) (ls : Array Slot) (o14 : cm), nm_H D Y (fun q => s0 ≤ q) s.heap X nl ad (M3.1, M3.2, N, K) H locs → lv_has ls 7 [(0, .ref (ad a)), (1, .long x1), (3, .int x3), (4, .int x4)] → f_X0_transpose_L14 a N x1 x3 n14 x4 M3 = some o14 → (∀ (H : Heap) (locs : List Loc) (ls : Array Slot), nm_H D Y (fun q => s0 ≤ q) s.heap X nl ad (o14.1, o14.2, N, K) H locs → lv_has ls 7 [(0, .ref (ad a)), (1, .long x1), (3, .int x3)] → W p l e R s m args below meth c H locs 0 0 Q (F0 m 75 ls [])) → W p l e R s m args below meth c H locs 0 0 Q (F0 m 14 ls []) := by
          intro n14
          induction n14 with
          | zero =>
            intro x4 M3 H locs ls o14 hH hl hf hX14
            cases hf
          | succ n14 ih14 =>
            intro x4 M3 H locs ls o14 hH hl hf hX14
            rw [f_X0_transpose_L14] at hf
            refine lv_iload hx hb dX0_transpose_14 (lv_at hl 3 rfl) ?_
            refine lv_iload_n hx hb dX0_transpose_16 rfl (lv_at hl 2 rfl) ?_
            refine lv_iadd hx hb dX0_transpose_17 ?_
            refine lv_bipush (v := 64) hx hb dX0_transpose_18 (by decide) ?_
            refine lv_icmp_ge (tgt := 75) hx hb dX0_transpose_20 (by decide) (fun c4 => ?_) (fun c4 => ?_)
            · have hf := nm_it c4 hf
              cases hf
              exact hX14 _ _ _ hH (lv_sub hl [0, 1, 2] rfl)
            · have hf := nm_ie c4 hf
              refine lv_iload hx hb dX0_transpose_23 (lv_at hl 3 rfl) ?_
              refine lv_iload_n hx hb dX0_transpose_25 rfl (lv_at hl 2 rfl) ?_
              refine lv_iand hx hb dX0_transpose_26 ?_
              have hJ69 : ∀ (M5 : cm) (H : Heap) (locs : List Loc) (ls : Array Slot), nm_H D Y (fun q => s0 ≤ q) s.heap X nl ad (M5.1, M5.2, N, K) H locs → lv_has ls 7 [(0, .ref (ad a)), (1, .long x1), (3, .int x3), (4, .int x4)] → f_X0_transpose_J69 a N x4 M5 (f_X0_transpose_L14 a N x1 x3 n14) = some o14 → W p l e R s m args below meth c H locs 0 0 Q (F0 m 69 ls []) := by
                intro M5 H locs ls hH hl hf
                unfold f_X0_transpose_J69 at hf
                refine lv_iinc (v := x4 + 1) (lv' := [(4, .int (x4 + 1)), (0, .ref (ad a)), (1, .long x1), (3, .int x3)]) hx hb dX0_transpose_69 hl (k := 3) rfl rfl (by decide) rfl (fun ls hl => ?_)
                refine lv_goto (tgt := 14) hx hb dX0_transpose_72 (by decide) ?_
                exact ih14 (x4 + 1) M5 _ _ _ _ hH (lv_sub hl [1, 2, 3, 0] rfl) hf hX14
              refine lv_if_ne (tgt := 69) hx hb dX0_transpose_27 (by decide) (fun c6 => ?_) (fun c6 => ?_)
              · have hf := nm_ie c6 hf
                exact hJ69  M3 _ _ _ hH (lv_sub hl [0, 1, 2, 3] rfl) hf
              · have hf := nm_it c6 hf
                refine lv_aload_n hx hb dX0_transpose_30 rfl (lv_at hl 0 rfl) ?_
                refine lv_iload hx hb dX0_transpose_31 (lv_at hl 3 rfl) ?_
                obtain ⟨hi7, hf⟩ := nm_chk hf
                refine nm_lald hx hb hK hH ha hka rfl hi7 dX0_transpose_33 ?_
                refine lv_iload_n hx hb dX0_transpose_34 rfl (lv_at hl 2 rfl) ?_
                refine lv_lushr (v := nm_shr (M3.2 a x4.toNatClampNeg) x3) hx hb dX0_transpose_35 rfl ?_
                refine lv_aload_n hx hb dX0_transpose_36 rfl (lv_at hl 0 rfl) ?_
                refine lv_iload hx hb dX0_transpose_37 (lv_at hl 3 rfl) ?_
                refine lv_iload_n hx hb dX0_transpose_39 rfl (lv_at hl 2 rfl) ?_
                refine lv_iadd hx hb dX0_transpose_40 ?_
                obtain ⟨hi8, hf⟩ := nm_chk hf
                refine nm_lald hx hb hK hH ha hka rfl hi8 dX0_transpose_41 ?_
                refine lv_lxor hx hb dX0_transpose_42 ?_
                refine lv_lload_n hx hb dX0_transpose_43 rfl (lv_at hl 1 rfl) ?_
                refine lv_land hx hb dX0_transpose_44 ?_
                obtain ⟨v9, ev9, hf⟩ := nm_let hf
                refine nm_topl ev9 ?_
                refine lv_lstore (lv' := [(5, .long v9), (0, .ref (ad a)), (1, .long x1), (3, .int x3), (4, .int x4)]) hx hb dX0_transpose_45 hl (by decide) rfl (fun ls hl => ?_)
                refine lv_aload_n hx hb dX0_transpose_47 rfl (lv_at hl 1 rfl) ?_
                refine lv_iload hx hb dX0_transpose_48 (lv_at hl 4 rfl) ?_
                refine lv_dup2_11 hx hb dX0_transpose_50 rfl rfl ?_
                obtain ⟨hi10, hf⟩ := nm_chk hf
                refine nm_lald hx hb hK hH ha hka rfl hi10 dX0_transpose_51 ?_
                refine lv_lload hx hb dX0_transpose_52 (lv_at hl 0 rfl) ?_
                refine lv_iload_n hx hb dX0_transpose_54 rfl (lv_at hl 3 rfl) ?_
                refine lv_lshl (v := nm_shl v9 x3) hx hb dX0_transpose_55 rfl ?_
                refine lv_lxor hx hb dX0_transpose_56 ?_
                obtain ⟨hi11, hf⟩ := nm_chk hf
                obtain ⟨M12, eM12, hf⟩ := nm_let hf
                refine nm_last hx hb hK hH ha hka rfl hi11 dX0_transpose_57 (fun H locs hH => ?_)
                have hH : nm_H D Y (fun q => s0 ≤ q) s.heap X nl ad (M12.1, M12.2, N, K) H locs := by rw [eM12]; exact hH
                refine lv_aload_n hx hb dX0_transpose_58 rfl (lv_at hl 1 rfl) ?_
                refine lv_iload hx hb dX0_transpose_59 (lv_at hl 4 rfl) ?_
                refine lv_iload_n hx hb dX0_transpose_61 rfl (lv_at hl 3 rfl) ?_
                refine lv_iadd hx hb dX0_transpose_62 ?_
                refine lv_dup2_11 hx hb dX0_transpose_63 rfl rfl ?_
                obtain ⟨hi13, hf⟩ := nm_chk hf
                refine nm_lald hx hb hK hH ha hka rfl hi13 dX0_transpose_64 ?_
                refine lv_lload hx hb dX0_transpose_65 (lv_at hl 0 rfl) ?_
                refine lv_lxor hx hb dX0_transpose_67 ?_
                obtain ⟨hi14, hf⟩ := nm_chk hf
                obtain ⟨M15, eM15, hf⟩ := nm_let hf
                refine nm_last hx hb hK hH ha hka rfl hi14 dX0_transpose_68 (fun H locs hH => ?_)
                have hH : nm_H D Y (fun q => s0 ≤ q) s.heap X nl ad (M15.1, M15.2, N, K) H locs := by rw [eM15]; exact hH
                exact hJ69  M15 _ _ _ hH (lv_sub hl [1, 2, 3, 4] rfl) hf
        obtain ⟨M16, hl19, hf⟩ := nm_sd1 hf
        refine hL14 nm_F (0 : Int32) M1 _ _ _ _ hH (lv_sub hl [1, 2, 3, 0] rfl) hl19 (fun H locs ls hH hl => ?_)
        have hl : lv_has ls 7 [(0, .ref (ad a)), (1, .long x1), (3, .int x3)] := hl
        have hH : nm_H D Y (fun q => s0 ≤ q) s.heap X nl ad (M16.1, M16.2, N, K) H locs := hH
        refine lv_lload_n hx hb dX0_transpose_75 rfl (lv_at hl 1 rfl) ?_
        refine lv_lload_n hx hb dX0_transpose_76 rfl (lv_at hl 1 rfl) ?_
        refine lv_iload_n hx hb dX0_transpose_77 rfl (lv_at hl 2 rfl) ?_
        refine lv_iconst (v := 2) hx hb dX0_transpose_78 (by decide) ?_
        refine lv_idiv hx hb dX0_transpose_79 (by decide) ?_
        refine lv_lshl (v := nm_shl x1 (x3 / (2 : Int32))) hx hb dX0_transpose_80 rfl ?_
        refine lv_lxor hx hb dX0_transpose_81 ?_
        obtain ⟨v17, ev17, hf⟩ := nm_let hf
        refine nm_topl ev17 ?_
        refine lv_lstore_n (lv' := [(1, .long v17), (0, .ref (ad a)), (3, .int x3)]) hx hb dX0_transpose_82 rfl hl (by decide) rfl (fun ls hl => ?_)
        refine lv_iload_n hx hb dX0_transpose_83 rfl (lv_at hl 2 rfl) ?_
        refine lv_iconst (v := 2) hx hb dX0_transpose_84 (by decide) ?_
        refine lv_idiv hx hb dX0_transpose_85 (by decide) ?_
        obtain ⟨v18, ev18, hf⟩ := nm_let hf
        refine nm_topi ev18 ?_
        refine lv_istore_n (lv' := [(3, .int v18), (1, .long v17), (0, .ref (ad a))]) hx hb dX0_transpose_86 rfl hl (by decide) rfl (fun ls hl => ?_)
        refine lv_goto (tgt := 7) hx hb dX0_transpose_87 (by decide) ?_
        exact ih7 v17 v18 M16 _ _ _ _ hH (lv_sub hl [2, 1, 0] rfl) hf hX7
  obtain ⟨M20, hl21, hf⟩ := nm_sd1 hf
  refine hL7 nm_F (4294967295 : Int64) (32 : Int32) M _ _ _ _ hH (lv_sub hl [2, 1, 0] rfl) hl21 (fun H locs ls hH hl => ?_)
  have hl : lv_has ls 7 [] := hl
  have hH : nm_H D Y (fun q => s0 ≤ q) s.heap X nl ad (M20.1, M20.2, N, K) H locs := hH
  exact nm_vret hx hb hr hlocks hQ hH (congrArg (fun q => (q.1, q.2, N, K)) (Option.some.inj hf)) dX0_transpose_90
def f_X0_spread_J100 (a : Nat) (N : Nat → Nat) (x9 : Int32) (t100_0 : Int64) (M1 : cm) (k : Int64 → Int32 → Option (Int64)) : Option (Int64) :=
k t100_0 (x9 + 1)
def f_X0_spread_J74 (a : Nat) (N : Nat → Nat) (x5 : Int32) (x7 : Int64) (x9 : Int32) (t49_0 : Int64) (t74_0 : Int64) (M1 : cm) (k : Int64 → Int32 → Option (Int64)) : Option (Int64) :=
(if x5 = 0 then
f_X0_spread_J100 a N x9 ((x7 &&& t49_0) &&& t74_0) M1 k
else
f_X0_spread_J100 a N x9 ((x7 ||| t49_0) ||| t74_0) M1 k)
def f_X0_spread_J49 (a : Nat) (N : Nat → Nat) (x1 : Int32) (x5 : Int32) (x6 : Int32) (x7 : Int64) (x9 : Int32) (t49_0 : Int64) (M1 : cm) (k : Int64 → Int32 → Option (Int64)) : Option (Int64) :=
(if (x6 + x9) < (64 : Int32) then
nm_c ((x1 + x6) + x9) 1024 (
f_X0_spread_J74 a N x5 x7 x9 t49_0 (M1.2 101 ((x1 + x6) + x9).toNatClampNeg) M1 k)
else
f_X0_spread_J74 a N x5 x7 x9 t49_0 (0 : Int64) M1 k)
def f_X0_spread_L21 (a : Nat) (N : Nat → Nat) (x1 : Int32) (x4 : Int32) (x5 : Int32) (x6 : Int32) (M1 : cm) : Nat → Int64 → Int32 → Option (Int64)
  | 0, _, _ => none
  | n21 + 1, x7, x9 =>
    (if x4 < x9 then
    some x7
    else
    (if 0 ≤ (x6 - x9) then
    nm_c ((x1 + x6) - x9) 1024 (
    f_X0_spread_J49 a N x1 x5 x6 x7 x9 (M1.2 101 ((x1 + x6) - x9).toNatClampNeg) M1 (f_X0_spread_L21 a N x1 x4 x5 x6 M1 n21))
    else
    f_X0_spread_J49 a N x1 x5 x6 x7 x9 (0 : Int64) M1 (f_X0_spread_L21 a N x1 x4 x5 x6 M1 n21)))
def f_X0_spread_J150 (a : Nat) (N : Nat → Nat) (x9 : Int32) (t150_0 : Int64) (M1 : cm) (k : Int64 → Int32 → Option (Int64)) : Option (Int64) :=
k t150_0 (x9 + 1)
def f_X0_spread_L111 (a : Nat) (N : Nat → Nat) (x4 : Int32) (x5 : Int32) (M1 : cm) : Nat → Int64 → Int32 → Option (Int64)
  | 0, _, _ => none
  | n111 + 1, x7, x9 =>
    (if x4 < x9 then
    some x7
    else
    (if x5 = 0 then
    f_X0_spread_J150 a N x9 ((x7 &&& (nm_shl x7 (1 : Int32))) &&& (nm_shr x7 (1 : Int32))) M1 (f_X0_spread_L111 a N x4 x5 M1 n111)
    else
    f_X0_spread_J150 a N x9 ((x7 ||| (nm_shl x7 (1 : Int32))) ||| (nm_shr x7 (1 : Int32))) M1 (f_X0_spread_L111 a N x4 x5 M1 n111)))
def f_X0_spread_L3 (a : Nat) (N : Nat → Nat) (x1 : Int32) (x3 : Int32) (x4 : Int32) (x5 : Int32) : Nat → Int32 → cm → Option (cm)
  | 0, _, _ => none
  | n3 + 1, x6, M1 =>
    (if (64 : Int32) ≤ x6 then
    some M1
    else
    nm_c (x1 + x6) 1024 (
    nm_l (M1.2 101 (x1 + x6).toNatClampNeg) fun v4 =>
    nm_s1 (f_X0_spread_L21 a N x1 x4 x5 x6 M1 nm_F v4 (1 : Int32)) fun y11 =>
    nm_s1 (f_X0_spread_L111 a N x4 x5 M1 nm_F y11 (1 : Int32)) fun y14 =>
    nm_c (x3 + x6) (N a) (
    nm_l ((M1.1, nm_upJ M1.2 a ((x3 + x6).toNatClampNeg) y14)) fun M16 =>
    f_X0_spread_L3 a N x1 x3 x4 x5 n3 (x6 + 1) M16)))
def f_X0_spread (a : Nat) (N : Nat → Nat) (x1 : Int32) (x3 : Int32) (x4 : Int32) (x5 : Int32) (M : cm) : Option (cm) :=
nm_s1 (f_X0_spread_L3 a N x1 x3 x4 x5 nm_F (0 : Int32) M) fun M19 =>
some M19
set_option maxHeartbeats 4000000 in
set_option maxRecDepth 100000 in
theorem k_X0_spread {l : Launch} {D : va_G} {Y : nm_Y} {s0 : Nat} {X : va_W} {ad : Nat → Nat} {nl : List Nat} {N K : Nat → Nat} (hL : cl_L nl K) (hN : cl_N N) {a : Nat} (ha : a ∈ nl) (hka : K a = 21) {x1 : Int32} {x3 : Int32} {x4 : Int32} {x5 : Int32} {M : cm} {M0 : cm} (hf : f_X0_spread a N x1 x3 x4 x5 M = some M0) :
    nm_Met l yX0_spread cX0_spread 14 none { frames := 0, cells := 0, slots := 0, locals := 0 } [.ref (ad 101), .int x1, .ref (ad a), .int x3, .int x4, .int x5] D Y s0 (nm_W Y X nl ad (M.1, M.2, N, K)) (nm_Qv D s0 (nm_W Y X nl ad (M0.1, M0.2, N, K))) 0 0 := by
  refine nm_of (by decide) (Nat.le_of_ble_eq_true rfl) ?_
  intro p e R s m args below meth c Q ls hx hb hr hlocks hml hown hts hs0 hK hZ hRf hRl hRc hRs hQ hP hD hl
  have hH : nm_H D Y (fun q => s0 ≤ q) s.heap X nl ad (M.1, M.2, N, K) s.heap [] := ⟨hP, hD, va_S.rf⟩
  have hl : lv_has ls 14 [(0, .ref (ad 101)), (1, .int x1), (2, .ref (ad a)), (3, .int x3), (4, .int x4), (5, .int x5)] := hl
  unfold f_X0_spread at hf
  refine lv_iconst (v := 0) hx hb dX0_spread_0 (by decide) ?_
  refine lv_istore (lv' := [(6, .int (0 : Int32)), (0, .ref (ad 101)), (1, .int x1), (2, .ref (ad a)), (3, .int x3), (4, .int x4), (5, .int x5)]) hx hb dX0_spread_1 hl (by decide) rfl (fun ls hl => ?_)
  have hL3 : ∀ (n3 : Nat) (x6 : Int32) (M1 : cm) (H : Heap) (locs : List Loc) (ls : Array Slot) (o3 : cm), nm_H D Y (fun q => s0 ≤ q) s.heap X nl ad (M1.1, M1.2, N, K) H locs → lv_has ls 14 [(0, .ref (ad 101)), (1, .int x1), (2, .ref (ad a)), (3, .int x3), (4, .int x4), (5, .int x5), (6, .int x6)] → f_X0_spread_L3 a N x1 x3 x4 x5 n3 x6 M1 = some o3 → (∀ (H : Heap) (locs : List Loc) (ls : Array Slot), nm_H D Y (fun q => s0 ≤ q) s.heap X nl ad (o3.1, o3.2, N, K) H locs → lv_has ls 14 [] → W p l e R s m args below meth c H locs 0 0 Q (F0 m 172 ls [])) → W p l e R s m args below meth c H locs 0 0 Q (F0 m 3 ls []) := by
    intro n3
    induction n3 with
    | zero =>
      intro x6 M1 H locs ls o3 hH hl hf hX3
      cases hf
    | succ n3 ih3 =>
      intro x6 M1 H locs ls o3 hH hl hf hX3
      rw [f_X0_spread_L3] at hf
      refine lv_iload hx hb dX0_spread_3 (lv_at hl 6 rfl) ?_
      refine lv_bipush (v := 64) hx hb dX0_spread_5 (by decide) ?_
      refine lv_icmp_ge (tgt := 172) hx hb dX0_spread_7 (by decide) (fun c2 => ?_) (fun c2 => ?_)
      · have hf := nm_it c2 hf
        cases hf
        exact hX3 _ _ _ hH (lv_sub hl [] rfl)
      · have hf := nm_ie c2 hf
        refine lv_aload_n hx hb dX0_spread_10 rfl (lv_at hl 0 rfl) ?_
        refine lv_iload_n hx hb dX0_spread_11 rfl (lv_at hl 1 rfl) ?_
        refine lv_iload hx hb dX0_spread_12 (lv_at hl 6 rfl) ?_
        refine lv_iadd hx hb dX0_spread_14 ?_
        obtain ⟨hi3, hf⟩ := nm_chk hf
        refine nm_lald hx hb hK hH (cl_n101 hL) (cl_k101 hL) (cl_l101 hN) hi3 dX0_spread_15 ?_
        obtain ⟨v4, ev4, hf⟩ := nm_let hf
        refine nm_topl ev4 ?_
        refine lv_lstore (lv' := [(7, .long v4), (0, .ref (ad 101)), (1, .int x1), (2, .ref (ad a)), (3, .int x3), (4, .int x4), (5, .int x5), (6, .int x6)]) hx hb dX0_spread_16 hl (by decide) rfl (fun ls hl => ?_)
        refine lv_iconst (v := 1) hx hb dX0_spread_18 (by decide) ?_
        refine lv_istore (lv' := [(9, .int (1 : Int32)), (7, .long v4), (0, .ref (ad 101)), (1, .int x1), (2, .ref (ad a)), (3, .int x3), (4, .int x4), (5, .int x5), (6, .int x6)]) hx hb dX0_spread_19 hl (by decide) rfl (fun ls hl => ?_)
        have hL21 : ∀ (n21 : Nat) (x7 : Int64) (x9 : Int32) (H : Heap) (locs : List Loc) (ls : Array Slot) (o21 : Int64), nm_H D Y (fun q => s0 ≤ q) s.heap X nl ad (M1.1, M1.2, N, K) H locs → lv_has ls 14 [(0, .ref (ad 101)), (1, .int x1), (2, .ref (ad a)), (3, .int x3), (4, .int x4), (5, .int x5), (6, .int x6), (7, .long x7), (9, .int x9)] → f_X0_spread_L21 a N x1 x4 x5 x6 M1 n21 x7 x9 = some o21 → (∀ (H : Heap) (locs : List Loc) (ls : Array Slot), nm_H D Y (fun q => s0 ≤ q) s.heap X nl ad (M1.1, M1.2, N, K) H locs → lv_has ls 14 [(0, .ref (ad 101)), (1, .int x1), (2, .ref (ad a)), (3, .int x3), (4, .int x4), (5, .int x5), (6, .int x6), (7, .long o21)] → W p l e R s m args below meth c H locs 0 0 Q (F0 m 108 ls [])) → W p l e R s m args below meth c H locs 0 0 Q (F0 m 21 ls []) := by
          intro n21
          induction n21 with
          | zero =>
            intro x7 x9 H locs ls o21 hH hl hf hX21
            cases hf
          | succ n21 ih21 =>
            intro x7 x9 H locs ls o21 hH hl hf hX21
            rw [f_X0_spread_L21] at hf
            refine lv_iload hx hb dX0_spread_21 (lv_at hl 8 rfl) ?_
            refine lv_iload hx hb dX0_spread_23 (lv_at hl 4 rfl) ?_
            refine lv_icmp_gt (tgt := 108) hx hb dX0_spread_25 (by decide) (fun c5 => ?_) (fun c5 => ?_)
            · have hf := nm_it c5 hf
              cases hf
              exact hX21 _ _ _ hH (lv_sub hl [0, 1, 2, 3, 4, 5, 6, 7] rfl)
            · have hf := nm_ie c5 hf
              refine lv_iload hx hb dX0_spread_28 (lv_at hl 6 rfl) ?_
              refine lv_iload hx hb dX0_spread_30 (lv_at hl 8 rfl) ?_
              refine lv_isub hx hb dX0_spread_32 ?_
              have hJ49 : ∀ (t49_0 : Int64) (H : Heap) (locs : List Loc) (ls : Array Slot), nm_H D Y (fun q => s0 ≤ q) s.heap X nl ad (M1.1, M1.2, N, K) H locs → lv_has ls 14 [(0, .ref (ad 101)), (1, .int x1), (2, .ref (ad a)), (3, .int x3), (4, .int x4), (5, .int x5), (6, .int x6), (7, .long x7), (9, .int x9)] → f_X0_spread_J49 a N x1 x5 x6 x7 x9 t49_0 M1 (f_X0_spread_L21 a N x1 x4 x5 x6 M1 n21) = some o21 → W p l e R s m args below meth c H locs 0 0 Q (F0 m 49 ls [.long t49_0]) := by
                intro t49_0 H locs ls hH hl hf
                unfold f_X0_spread_J49 at hf
                refine lv_lstore (lv' := [(10, .long t49_0), (0, .ref (ad 101)), (1, .int x1), (2, .ref (ad a)), (3, .int x3), (4, .int x4), (5, .int x5), (6, .int x6), (7, .long x7), (9, .int x9)]) hx hb dX0_spread_49 hl (by decide) rfl (fun ls hl => ?_)
                refine lv_iload hx hb dX0_spread_51 (lv_at hl 7 rfl) ?_
                refine lv_iload hx hb dX0_spread_53 (lv_at hl 9 rfl) ?_
                refine lv_iadd hx hb dX0_spread_55 ?_
                refine lv_bipush (v := 64) hx hb dX0_spread_56 (by decide) ?_
                have hJ74 : ∀ (t74_0 : Int64) (H : Heap) (locs : List Loc) (ls : Array Slot), nm_H D Y (fun q => s0 ≤ q) s.heap X nl ad (M1.1, M1.2, N, K) H locs → lv_has ls 14 [(0, .ref (ad 101)), (1, .int x1), (2, .ref (ad a)), (3, .int x3), (4, .int x4), (5, .int x5), (6, .int x6), (7, .long x7), (9, .int x9), (10, .long t49_0)] → f_X0_spread_J74 a N x5 x7 x9 t49_0 t74_0 M1 (f_X0_spread_L21 a N x1 x4 x5 x6 M1 n21) = some o21 → W p l e R s m args below meth c H locs 0 0 Q (F0 m 74 ls [.long t74_0]) := by
                  intro t74_0 H locs ls hH hl hf
                  unfold f_X0_spread_J74 at hf
                  refine lv_lstore (lv' := [(12, .long t74_0), (0, .ref (ad 101)), (1, .int x1), (2, .ref (ad a)), (3, .int x3), (4, .int x4), (5, .int x5), (6, .int x6), (7, .long x7), (9, .int x9), (10, .long t49_0)]) hx hb dX0_spread_74 hl (by decide) rfl (fun ls hl => ?_)
                  refine lv_iload hx hb dX0_spread_76 (lv_at hl 6 rfl) ?_
                  have hJ100 : ∀ (t100_0 : Int64) (H : Heap) (locs : List Loc) (ls : Array Slot), nm_H D Y (fun q => s0 ≤ q) s.heap X nl ad (M1.1, M1.2, N, K) H locs → lv_has ls 14 [(0, .ref (ad 101)), (1, .int x1), (2, .ref (ad a)), (3, .int x3), (4, .int x4), (5, .int x5), (6, .int x6), (9, .int x9)] → f_X0_spread_J100 a N x9 t100_0 M1 (f_X0_spread_L21 a N x1 x4 x5 x6 M1 n21) = some o21 → W p l e R s m args below meth c H locs 0 0 Q (F0 m 100 ls [.long t100_0]) := by
                    intro t100_0 H locs ls hH hl hf
                    unfold f_X0_spread_J100 at hf
                    refine lv_lstore (lv' := [(7, .long t100_0), (0, .ref (ad 101)), (1, .int x1), (2, .ref (ad a)), (3, .int x3), (4, .int x4), (5, .int x5), (6, .int x6), (9, .int x9)]) hx hb dX0_spread_100 hl (by decide) rfl (fun ls hl => ?_)
                    refine lv_iinc (v := x9 + 1) (lv' := [(9, .int (x9 + 1)), (7, .long t100_0), (0, .ref (ad 101)), (1, .int x1), (2, .ref (ad a)), (3, .int x3), (4, .int x4), (5, .int x5), (6, .int x6)]) hx hb dX0_spread_102 hl (k := 8) rfl rfl (by decide) rfl (fun ls hl => ?_)
                    refine lv_goto (tgt := 21) hx hb dX0_spread_105 (by decide) ?_
                    exact ih21 t100_0 (x9 + 1) _ _ _ _ hH (lv_sub hl [2, 3, 4, 5, 6, 7, 8, 1, 0] rfl) hf hX21
                  refine lv_if_eq (tgt := 92) hx hb dX0_spread_78 (by decide) (fun c6 => ?_) (fun c6 => ?_)
                  · have hf := nm_it c6 hf
                    refine lv_lload hx hb dX0_spread_92 (lv_at hl 8 rfl) ?_
                    refine lv_lload hx hb dX0_spread_94 (lv_at hl 10 rfl) ?_
                    refine lv_land hx hb dX0_spread_96 ?_
                    refine lv_lload hx hb dX0_spread_97 (lv_at hl 0 rfl) ?_
                    refine lv_land hx hb dX0_spread_99 ?_
                    exact hJ100 ((x7 &&& t49_0) &&& t74_0) _ _ _ hH (lv_sub hl [1, 2, 3, 4, 5, 6, 7, 9] rfl) hf
                  · have hf := nm_ie c6 hf
                    refine lv_lload hx hb dX0_spread_81 (lv_at hl 8 rfl) ?_
                    refine lv_lload hx hb dX0_spread_83 (lv_at hl 10 rfl) ?_
                    refine lv_lor hx hb dX0_spread_85 ?_
                    refine lv_lload hx hb dX0_spread_86 (lv_at hl 0 rfl) ?_
                    refine lv_lor hx hb dX0_spread_88 ?_
                    refine lv_goto (tgt := 100) hx hb dX0_spread_89 (by decide) ?_
                    exact hJ100 ((x7 ||| t49_0) ||| t74_0) _ _ _ hH (lv_sub hl [1, 2, 3, 4, 5, 6, 7, 9] rfl) hf
                refine lv_icmp_lt (tgt := 65) hx hb dX0_spread_58 (by decide) (fun c7 => ?_) (fun c7 => ?_)
                · have hf := nm_it c7 hf
                  refine lv_aload_n hx hb dX0_spread_65 rfl (lv_at hl 1 rfl) ?_
                  refine lv_iload_n hx hb dX0_spread_66 rfl (lv_at hl 2 rfl) ?_
                  refine lv_iload hx hb dX0_spread_67 (lv_at hl 7 rfl) ?_
                  refine lv_iadd hx hb dX0_spread_69 ?_
                  refine lv_iload hx hb dX0_spread_70 (lv_at hl 9 rfl) ?_
                  refine lv_iadd hx hb dX0_spread_72 ?_
                  obtain ⟨hi8, hf⟩ := nm_chk hf
                  refine nm_lald hx hb hK hH (cl_n101 hL) (cl_k101 hL) (cl_l101 hN) hi8 dX0_spread_73 ?_
                  exact hJ74 (M1.2 101 ((x1 + x6) + x9).toNatClampNeg) _ _ _ hH (lv_sub hl [1, 2, 3, 4, 5, 6, 7, 8, 9, 0] rfl) hf
                · have hf := nm_ie c7 hf
                  refine lv_lconst (v := 0) hx hb dX0_spread_61 (by decide) ?_
                  refine lv_goto (tgt := 74) hx hb dX0_spread_62 (by decide) ?_
                  exact hJ74 (0 : Int64) _ _ _ hH (lv_sub hl [1, 2, 3, 4, 5, 6, 7, 8, 9, 0] rfl) hf
              refine lv_if_ge (tgt := 40) hx hb dX0_spread_33 (by decide) (fun c9 => ?_) (fun c9 => ?_)
              · have hf := nm_it c9 hf
                refine lv_aload_n hx hb dX0_spread_40 rfl (lv_at hl 0 rfl) ?_
                refine lv_iload_n hx hb dX0_spread_41 rfl (lv_at hl 1 rfl) ?_
                refine lv_iload hx hb dX0_spread_42 (lv_at hl 6 rfl) ?_
                refine lv_iadd hx hb dX0_spread_44 ?_
                refine lv_iload hx hb dX0_spread_45 (lv_at hl 8 rfl) ?_
                refine lv_isub hx hb dX0_spread_47 ?_
                obtain ⟨hi10, hf⟩ := nm_chk hf
                refine nm_lald hx hb hK hH (cl_n101 hL) (cl_k101 hL) (cl_l101 hN) hi10 dX0_spread_48 ?_
                exact hJ49 (M1.2 101 ((x1 + x6) - x9).toNatClampNeg) _ _ _ hH (lv_sub hl [0, 1, 2, 3, 4, 5, 6, 7, 8] rfl) hf
              · have hf := nm_ie c9 hf
                refine lv_lconst (v := 0) hx hb dX0_spread_36 (by decide) ?_
                refine lv_goto (tgt := 49) hx hb dX0_spread_37 (by decide) ?_
                exact hJ49 (0 : Int64) _ _ _ hH (lv_sub hl [0, 1, 2, 3, 4, 5, 6, 7, 8] rfl) hf
        obtain ⟨y11, hl18, hf⟩ := nm_sd1 hf
        refine hL21 nm_F v4 (1 : Int32) _ _ _ _ hH (lv_sub hl [2, 3, 4, 5, 6, 7, 8, 1, 0] rfl) hl18 (fun H locs ls hH hl => ?_)
        have hl : lv_has ls 14 [(0, .ref (ad 101)), (1, .int x1), (2, .ref (ad a)), (3, .int x3), (4, .int x4), (5, .int x5), (6, .int x6), (7, .long y11)] := hl
        have hH : nm_H D Y (fun q => s0 ≤ q) s.heap X nl ad (M1.1, M1.2, N, K) H locs := hH
        refine lv_iconst (v := 1) hx hb dX0_spread_108 (by decide) ?_
        refine lv_istore (lv' := [(9, .int (1 : Int32)), (0, .ref (ad 101)), (1, .int x1), (2, .ref (ad a)), (3, .int x3), (4, .int x4), (5, .int x5), (6, .int x6), (7, .long y11)]) hx hb dX0_spread_109 hl (by decide) rfl (fun ls hl => ?_)
        have hL111 : ∀ (n111 : Nat) (x7 : Int64) (x9 : Int32) (H : Heap) (locs : List Loc) (ls : Array Slot) (o111 : Int64), nm_H D Y (fun q => s0 ≤ q) s.heap X nl ad (M1.1, M1.2, N, K) H locs → lv_has ls 14 [(0, .ref (ad 101)), (1, .int x1), (2, .ref (ad a)), (3, .int x3), (4, .int x4), (5, .int x5), (6, .int x6), (7, .long x7), (9, .int x9)] → f_X0_spread_L111 a N x4 x5 M1 n111 x7 x9 = some o111 → (∀ (H : Heap) (locs : List Loc) (ls : Array Slot), nm_H D Y (fun q => s0 ≤ q) s.heap X nl ad (M1.1, M1.2, N, K) H locs → lv_has ls 14 [(0, .ref (ad 101)), (1, .int x1), (2, .ref (ad a)), (3, .int x3), (4, .int x4), (5, .int x5), (6, .int x6), (7, .long o111)] → W p l e R s m args below meth c H locs 0 0 Q (F0 m 158 ls [])) → W p l e R s m args below meth c H locs 0 0 Q (F0 m 111 ls []) := by
          intro n111
          induction n111 with
          | zero =>
            intro x7 x9 H locs ls o111 hH hl hf hX111
            cases hf
          | succ n111 ih111 =>
            intro x7 x9 H locs ls o111 hH hl hf hX111
            rw [f_X0_spread_L111] at hf
            refine lv_iload hx hb dX0_spread_111 (lv_at hl 8 rfl) ?_
            refine lv_iload hx hb dX0_spread_113 (lv_at hl 4 rfl) ?_
            refine lv_icmp_gt (tgt := 158) hx hb dX0_spread_115 (by decide) (fun c12 => ?_) (fun c12 => ?_)
            · have hf := nm_it c12 hf
              cases hf
              exact hX111 _ _ _ hH (lv_sub hl [0, 1, 2, 3, 4, 5, 6, 7] rfl)
            · have hf := nm_ie c12 hf
              refine lv_iload hx hb dX0_spread_118 (lv_at hl 5 rfl) ?_
              have hJ150 : ∀ (t150_0 : Int64) (H : Heap) (locs : List Loc) (ls : Array Slot), nm_H D Y (fun q => s0 ≤ q) s.heap X nl ad (M1.1, M1.2, N, K) H locs → lv_has ls 14 [(0, .ref (ad 101)), (1, .int x1), (2, .ref (ad a)), (3, .int x3), (4, .int x4), (5, .int x5), (6, .int x6), (9, .int x9)] → f_X0_spread_J150 a N x9 t150_0 M1 (f_X0_spread_L111 a N x4 x5 M1 n111) = some o111 → W p l e R s m args below meth c H locs 0 0 Q (F0 m 150 ls [.long t150_0]) := by
                intro t150_0 H locs ls hH hl hf
                unfold f_X0_spread_J150 at hf
                refine lv_lstore (lv' := [(7, .long t150_0), (0, .ref (ad 101)), (1, .int x1), (2, .ref (ad a)), (3, .int x3), (4, .int x4), (5, .int x5), (6, .int x6), (9, .int x9)]) hx hb dX0_spread_150 hl (by decide) rfl (fun ls hl => ?_)
                refine lv_iinc (v := x9 + 1) (lv' := [(9, .int (x9 + 1)), (7, .long t150_0), (0, .ref (ad 101)), (1, .int x1), (2, .ref (ad a)), (3, .int x3), (4, .int x4), (5, .int x5), (6, .int x6)]) hx hb dX0_spread_152 hl (k := 8) rfl rfl (by decide) rfl (fun ls hl => ?_)
                refine lv_goto (tgt := 111) hx hb dX0_spread_155 (by decide) ?_
                exact ih111 t150_0 (x9 + 1) _ _ _ _ hH (lv_sub hl [2, 3, 4, 5, 6, 7, 8, 1, 0] rfl) hf hX111
              refine lv_if_eq (tgt := 138) hx hb dX0_spread_120 (by decide) (fun c13 => ?_) (fun c13 => ?_)
              · have hf := nm_it c13 hf
                refine lv_lload hx hb dX0_spread_138 (lv_at hl 7 rfl) ?_
                refine lv_lload hx hb dX0_spread_140 (lv_at hl 7 rfl) ?_
                refine lv_iconst (v := 1) hx hb dX0_spread_142 (by decide) ?_
                refine lv_lshl (v := nm_shl x7 (1 : Int32)) hx hb dX0_spread_143 rfl ?_
                refine lv_land hx hb dX0_spread_144 ?_
                refine lv_lload hx hb dX0_spread_145 (lv_at hl 7 rfl) ?_
                refine lv_iconst (v := 1) hx hb dX0_spread_147 (by decide) ?_
                refine lv_lushr (v := nm_shr x7 (1 : Int32)) hx hb dX0_spread_148 rfl ?_
                refine lv_land hx hb dX0_spread_149 ?_
                exact hJ150 ((x7 &&& (nm_shl x7 (1 : Int32))) &&& (nm_shr x7 (1 : Int32))) _ _ _ hH (lv_sub hl [0, 1, 2, 3, 4, 5, 6, 8] rfl) hf
              · have hf := nm_ie c13 hf
                refine lv_lload hx hb dX0_spread_123 (lv_at hl 7 rfl) ?_
                refine lv_lload hx hb dX0_spread_125 (lv_at hl 7 rfl) ?_
                refine lv_iconst (v := 1) hx hb dX0_spread_127 (by decide) ?_
                refine lv_lshl (v := nm_shl x7 (1 : Int32)) hx hb dX0_spread_128 rfl ?_
                refine lv_lor hx hb dX0_spread_129 ?_
                refine lv_lload hx hb dX0_spread_130 (lv_at hl 7 rfl) ?_
                refine lv_iconst (v := 1) hx hb dX0_spread_132 (by decide) ?_
                refine lv_lushr (v := nm_shr x7 (1 : Int32)) hx hb dX0_spread_133 rfl ?_
                refine lv_lor hx hb dX0_spread_134 ?_
                refine lv_goto (tgt := 150) hx hb dX0_spread_135 (by decide) ?_
                exact hJ150 ((x7 ||| (nm_shl x7 (1 : Int32))) ||| (nm_shr x7 (1 : Int32))) _ _ _ hH (lv_sub hl [0, 1, 2, 3, 4, 5, 6, 8] rfl) hf
        obtain ⟨y14, hl17, hf⟩ := nm_sd1 hf
        refine hL111 nm_F y11 (1 : Int32) _ _ _ _ hH (lv_sub hl [1, 2, 3, 4, 5, 6, 7, 8, 0] rfl) hl17 (fun H locs ls hH hl => ?_)
        have hl : lv_has ls 14 [(0, .ref (ad 101)), (1, .int x1), (2, .ref (ad a)), (3, .int x3), (4, .int x4), (5, .int x5), (6, .int x6), (7, .long y14)] := hl
        have hH : nm_H D Y (fun q => s0 ≤ q) s.heap X nl ad (M1.1, M1.2, N, K) H locs := hH
        refine lv_aload_n hx hb dX0_spread_158 rfl (lv_at hl 2 rfl) ?_
        refine lv_iload_n hx hb dX0_spread_159 rfl (lv_at hl 3 rfl) ?_
        refine lv_iload hx hb dX0_spread_160 (lv_at hl 6 rfl) ?_
        refine lv_iadd hx hb dX0_spread_162 ?_
        refine lv_lload hx hb dX0_spread_163 (lv_at hl 7 rfl) ?_
        obtain ⟨hi15, hf⟩ := nm_chk hf
        obtain ⟨M16, eM16, hf⟩ := nm_let hf
        refine nm_last hx hb hK hH ha hka rfl hi15 dX0_spread_165 (fun H locs hH => ?_)
        have hH : nm_H D Y (fun q => s0 ≤ q) s.heap X nl ad (M16.1, M16.2, N, K) H locs := by rw [eM16]; exact hH
        refine lv_iinc (v := x6 + 1) (lv' := [(6, .int (x6 + 1)), (0, .ref (ad 101)), (1, .int x1), (2, .ref (ad a)), (3, .int x3), (4, .int x4), (5, .int x5), (7, .long y14)]) hx hb dX0_spread_166 hl (k := 6) rfl rfl (by decide) rfl (fun ls hl => ?_)
        refine lv_goto (tgt := 3) hx hb dX0_spread_169 (by decide) ?_
        exact ih3 (x6 + 1) M16 _ _ _ _ hH (lv_sub hl [1, 2, 3, 4, 5, 6, 0] rfl) hf hX3
  obtain ⟨M19, hl20, hf⟩ := nm_sd1 hf
  refine hL3 nm_F (0 : Int32) M _ _ _ _ hH (lv_sub hl [1, 2, 3, 4, 5, 6, 0] rfl) hl20 (fun H locs ls hH hl => ?_)
  have hl : lv_has ls 14 [] := hl
  have hH : nm_H D Y (fun q => s0 ≤ q) s.heap X nl ad (M19.1, M19.2, N, K) H locs := hH
  exact nm_vret hx hb hr hlocks hQ hH (congrArg (fun q => (q.1, q.2, N, K)) (Option.some.inj hf)) dX0_spread_172
def f_X4_stretchAt (o : Nat) (N : Nat → Nat) (x1 : Int32) (x2 : Int32) (M : cm) : Option Int32 :=
nm_c x1 (N (o + 1)) (
nm_c x1 (N (o + 1)) (
nm_l ((M.2 (o + 1) x1.toNatClampNeg) &&& ((nm_shl (M.2 (o + 1) x1.toNatClampNeg) (1 : Int32)) ^^^ (-1 : Int64))) fun v3 =>
nm_c x1 (N (o + 5)) (
some (((M.1 (o + 5) x1.toNatClampNeg) + (f_J13_bitCount_95d88 (v3 &&& (nm_shr (-1 : Int64) ((63 : Int32) - x2))))) - (1 : Int32)))))
set_option maxHeartbeats 4000000 in
set_option maxRecDepth 100000 in
theorem k_X4_stretchAt {l : Launch} {D : va_G} {Y : nm_Y} {s0 : Nat} {X : va_W} {ad : Nat → Nat} {nl : List Nat} {N K : Nat → Nat} (hL : cl_L nl K) (hN : cl_N N) {o : Nat} (ho : cl_o o) {x1 : Int32} {x2 : Int32} {M : cm} {r0 : Int32} (hf : f_X4_stretchAt o N x1 x2 M = some r0) :
    nm_Met l yX4_stretchAt cX4_stretchAt 5 (some .int) { frames := 1, cells := 0, slots := 0, locals := 21 } [.ref (ad o), .int x1, .int x2] D Y s0 (nm_W Y X nl ad (M.1, M.2, N, K)) (nm_Qi D s0 r0 (nm_W Y X nl ad (M.1, M.2, N, K))) 0 0 := by
  refine nm_of (by decide) (Nat.le_of_ble_eq_true rfl) ?_
  intro p e R s m args below meth c Q ls hx hb hr hlocks hml hown hts hs0 hK hZ hRf hRl hRc hRs hQ hP hD hl
  have hH : nm_H D Y (fun q => s0 ≤ q) s.heap X nl ad (M.1, M.2, N, K) s.heap [] := ⟨hP, hD, va_S.rf⟩
  have hl : lv_has ls 5 [(0, .ref (ad o)), (1, .int x1), (2, .int x2)] := hl
  unfold f_X4_stretchAt at hf
  refine lv_aload_n hx hb dX4_stretchAt_0 rfl (lv_at hl 0 rfl) ?_
  refine gf_4_0 hK hx hb hts hown hH (cl_no0 hL ho) (cl_ko0 hL ho) (hts _ tw_40) (fun _ h9 => h9) dX4_stretchAt_1 ?_
  refine lv_iload_n hx hb dX4_stretchAt_4 rfl (lv_at hl 1 rfl) ?_
  obtain ⟨hi1, hf⟩ := nm_chk hf
  refine nm_lald hx hb hK hH (cl_no1 hL ho) (cl_ko1 hL ho) rfl hi1 dX4_stretchAt_5 ?_
  refine lv_aload_n hx hb dX4_stretchAt_6 rfl (lv_at hl 0 rfl) ?_
  refine gf_4_0 hK hx hb hts hown hH (cl_no0 hL ho) (cl_ko0 hL ho) (hts _ tw_40) (fun _ h9 => h9) dX4_stretchAt_7 ?_
  refine lv_iload_n hx hb dX4_stretchAt_10 rfl (lv_at hl 1 rfl) ?_
  obtain ⟨hi2, hf⟩ := nm_chk hf
  refine nm_lald hx hb hK hH (cl_no1 hL ho) (cl_ko1 hL ho) rfl hi2 dX4_stretchAt_11 ?_
  refine lv_iconst (v := 1) hx hb dX4_stretchAt_12 (by decide) ?_
  refine lv_lshl (v := nm_shl (M.2 (o + 1) x1.toNatClampNeg) (1 : Int32)) hx hb dX4_stretchAt_13 rfl ?_
  refine lv_ldc2 hx hb hown (hts _ tw_631) dX4_stretchAt_14 ?_
  refine lv_lxor hx hb dX4_stretchAt_17 ?_
  refine lv_land hx hb dX4_stretchAt_18 ?_
  obtain ⟨v3, ev3, hf⟩ := nm_let hf
  refine nm_topl ev3 ?_
  refine lv_lstore_n (lv' := [(3, .long v3), (0, .ref (ad o)), (1, .int x1), (2, .int x2)]) hx hb dX4_stretchAt_19 rfl hl (by decide) rfl (fun ls hl => ?_)
  refine lv_aload_n hx hb dX4_stretchAt_20 rfl (lv_at hl 1 rfl) ?_
  refine gf_4_5 hK hx hb hts hown hH (cl_no0 hL ho) (cl_ko0 hL ho) (hts _ tw_55) (fun _ h9 => h9) dX4_stretchAt_21 ?_
  refine lv_iload_n hx hb dX4_stretchAt_24 rfl (lv_at hl 2 rfl) ?_
  obtain ⟨hi4, hf⟩ := nm_chk hf
  refine nm_iald hx hb hK hH (cl_no5 hL ho) (cl_ko5 hL ho) rfl hi4 dX4_stretchAt_25 ?_
  refine lv_lload_n hx hb dX4_stretchAt_26 rfl (lv_at hl 0 rfl) ?_
  refine lv_ldc2 hx hb hown (hts _ tw_631) dX4_stretchAt_27 ?_
  refine lv_bipush (v := 63) hx hb dX4_stretchAt_30 (by decide) ?_
  refine lv_iload_n hx hb dX4_stretchAt_32 rfl (lv_at hl 3 rfl) ?_
  refine lv_isub hx hb dX4_stretchAt_33 ?_
  refine lv_lushr (v := nm_shr (-1 : Int64) ((63 : Int32) - x2)) hx hb dX4_stretchAt_34 rfl ?_
  refine lv_land hx hb dX4_stretchAt_35 ?_
  refine nm_calli (nm_runS (X := X) (nl := nl) (k_J13_bitCount_95d88 hL hN (hf := (rfl : f_J13_bitCount_95d88 (v3 &&& (nm_shr (-1 : Int64) ((63 : Int32) - x2))) = _))) hx hb hml hown hts hs0 hK hZ hH tw_611 tw_609 tw_610 tw_17 hd_J13_bitCount_95d88 rfl rfl ⟨Nat.le_trans (Nat.le_of_ble_eq_true rfl) hRf, Nat.le_trans (Nat.le_of_ble_eq_true rfl) hRl⟩ rfl hl.1 rfl (Nat.le_of_ble_eq_true rfl) dX4_stretchAt_36 ⟨Nat.zero_le _, Nat.zero_le _⟩) hH (fun H locs hH => ?_)
  have hH : nm_H D Y (fun q => s0 ≤ q) s.heap X nl ad (M.1, M.2, N, K) H locs := hH
  refine lv_iadd hx hb dX4_stretchAt_39 ?_
  refine lv_iconst (v := 1) hx hb dX4_stretchAt_40 (by decide) ?_
  refine lv_isub hx hb dX4_stretchAt_41 ?_
  exact nm_iret hx hb hr hlocks hQ hH (Option.some.inj hf) rfl dX4_stretchAt_42
def f_X4_root_L4 (o : Nat) (N : Nat → Nat) : Nat → Int32 → Int32 → cm → Option (Int32 × cm)
  | 0, _, _, _ => none
  | n4 + 1, x2, x3, M1 =>
    (if (M1.1 o 7) ≤ x3 then
    some (x2, M1)
    else
    nm_c x2 (N (o + 6)) (
    (if (M1.1 (o + 6) x2.toNatClampNeg) = x2 then
    some (x2, M1)
    else
    nm_c x2 (N (o + 6)) (
    nm_c (M1.1 (o + 6) x2.toNatClampNeg) (N (o + 6)) (
    nm_c x2 (N (o + 6)) (
    nm_l ((nm_up M1.1 (o + 6) x2.toNatClampNeg (M1.1 (o + 6) (M1.1 (o + 6) x2.toNatClampNeg).toNatClampNeg), M1.2)) fun M8 =>
    nm_c x2 (N (o + 6)) (
    nm_l (M8.1 (o + 6) x2.toNatClampNeg) fun v10 =>
    f_X4_root_L4 o N n4 v10 (x3 + 1) M8)))))))
def f_X4_root (o : Nat) (N : Nat → Nat) (x1 : Int32) (M : cm) : Option (Int32 × cm) :=
nm_s2 (f_X4_root_L4 o N nm_F x1 (0 : Int32) M) fun y11 M12 =>
some (y11, M12)
set_option maxHeartbeats 4000000 in
set_option maxRecDepth 100000 in
theorem k_X4_root {l : Launch} {D : va_G} {Y : nm_Y} {s0 : Nat} {X : va_W} {ad : Nat → Nat} {nl : List Nat} {N K : Nat → Nat} (hL : cl_L nl K) (hN : cl_N N) {o : Nat} (ho : cl_o o) {x1 : Int32} {M : cm} {r0 : Int32} {M0 : cm} (hf : f_X4_root o N x1 M = some (r0, M0)) :
    nm_Met l yX4_root cX4_root 4 (some .int) { frames := 0, cells := 0, slots := 0, locals := 0 } [.ref (ad o), .int x1] D Y s0 (nm_W Y X nl ad (M.1, M.2, N, K)) (nm_Qi D s0 r0 (nm_W Y X nl ad (M0.1, M0.2, N, K))) 0 0 := by
  refine nm_of (by decide) (Nat.le_of_ble_eq_true rfl) ?_
  intro p e R s m args below meth c Q ls hx hb hr hlocks hml hown hts hs0 hK hZ hRf hRl hRc hRs hQ hP hD hl
  have hH : nm_H D Y (fun q => s0 ≤ q) s.heap X nl ad (M.1, M.2, N, K) s.heap [] := ⟨hP, hD, va_S.rf⟩
  have hl : lv_has ls 4 [(0, .ref (ad o)), (1, .int x1)] := hl
  unfold f_X4_root at hf
  refine lv_iload_n hx hb dX4_root_0 rfl (lv_at hl 1 rfl) ?_
  refine lv_istore_n (lv' := [(2, .int x1), (0, .ref (ad o)), (1, .int x1)]) hx hb dX4_root_1 rfl hl (by decide) rfl (fun ls hl => ?_)
  refine lv_iconst (v := 0) hx hb dX4_root_2 (by decide) ?_
  refine lv_istore_n (lv' := [(3, .int (0 : Int32)), (2, .int x1), (0, .ref (ad o)), (1, .int x1)]) hx hb dX4_root_3 rfl hl (by decide) rfl (fun ls hl => ?_)
  have hL4 : ∀ (n4 : Nat) (x2 : Int32) (x3 : Int32) (M1 : cm) (H : Heap) (locs : List Loc) (ls : Array Slot) (o4 : Int32 × cm), nm_H D Y (fun q => s0 ≤ q) s.heap X nl ad (M1.1, M1.2, N, K) H locs → lv_has ls 4 [(0, .ref (ad o)), (2, .int x2), (3, .int x3)] → f_X4_root_L4 o N n4 x2 x3 M1 = some o4 → (∀ (H : Heap) (locs : List Loc) (ls : Array Slot), nm_H D Y (fun q => s0 ≤ q) s.heap X nl ad (o4.2.1, o4.2.2, N, K) H locs → lv_has ls 4 [(2, .int o4.1)] → W p l e R s m args below meth c H locs 0 0 Q (F0 m 52 ls [])) → W p l e R s m args below meth c H locs 0 0 Q (F0 m 4 ls []) := by
    intro n4
    induction n4 with
    | zero =>
      intro x2 x3 M1 H locs ls o4 hH hl hf hX4
      cases hf
    | succ n4 ih4 =>
      intro x2 x3 M1 H locs ls o4 hH hl hf hX4
      rw [f_X4_root_L4] at hf
      refine lv_iload_n hx hb dX4_root_4 rfl (lv_at hl 2 rfl) ?_
      refine lv_aload_n hx hb dX4_root_5 rfl (lv_at hl 0 rfl) ?_
      refine gf_4_7 hK hx hb hts hown hH (cl_no0 hL ho) (cl_ko0 hL ho) (hts _ tw_57) (fun _ h9 => h9) dX4_root_6 ?_
      refine lv_icmp_ge (tgt := 52) hx hb dX4_root_9 (by decide) (fun c2 => ?_) (fun c2 => ?_)
      · have hf := nm_it c2 hf
        cases hf
        exact hX4 _ _ _ hH (lv_sub hl [1] rfl)
      · have hf := nm_ie c2 hf
        refine lv_aload_n hx hb dX4_root_12 rfl (lv_at hl 0 rfl) ?_
        refine gf_4_6 hK hx hb hts hown hH (cl_no0 hL ho) (cl_ko0 hL ho) (hts _ tw_56) (fun _ h9 => h9) dX4_root_13 ?_
        refine lv_iload_n hx hb dX4_root_16 rfl (lv_at hl 1 rfl) ?_
        obtain ⟨hi3, hf⟩ := nm_chk hf
        refine nm_iald hx hb hK hH (cl_no6 hL ho) (cl_ko6 hL ho) rfl hi3 dX4_root_17 ?_
        refine lv_iload_n hx hb dX4_root_18 rfl (lv_at hl 1 rfl) ?_
        refine lv_icmp_eq (tgt := 52) hx hb dX4_root_19 (by decide) (fun c4 => ?_) (fun c4 => ?_)
        · have hf := nm_it c4 hf
          cases hf
          exact hX4 _ _ _ hH (lv_sub hl [1] rfl)
        · have hf := nm_ie c4 hf
          refine lv_aload_n hx hb dX4_root_22 rfl (lv_at hl 0 rfl) ?_
          refine gf_4_6 hK hx hb hts hown hH (cl_no0 hL ho) (cl_ko0 hL ho) (hts _ tw_56) (fun _ h9 => h9) dX4_root_23 ?_
          refine lv_iload_n hx hb dX4_root_26 rfl (lv_at hl 1 rfl) ?_
          refine lv_aload_n hx hb dX4_root_27 rfl (lv_at hl 0 rfl) ?_
          refine gf_4_6 hK hx hb hts hown hH (cl_no0 hL ho) (cl_ko0 hL ho) (hts _ tw_56) (fun _ h9 => h9) dX4_root_28 ?_
          refine lv_aload_n hx hb dX4_root_31 rfl (lv_at hl 0 rfl) ?_
          refine gf_4_6 hK hx hb hts hown hH (cl_no0 hL ho) (cl_ko0 hL ho) (hts _ tw_56) (fun _ h9 => h9) dX4_root_32 ?_
          refine lv_iload_n hx hb dX4_root_35 rfl (lv_at hl 1 rfl) ?_
          obtain ⟨hi5, hf⟩ := nm_chk hf
          refine nm_iald hx hb hK hH (cl_no6 hL ho) (cl_ko6 hL ho) rfl hi5 dX4_root_36 ?_
          obtain ⟨hi6, hf⟩ := nm_chk hf
          refine nm_iald hx hb hK hH (cl_no6 hL ho) (cl_ko6 hL ho) rfl hi6 dX4_root_37 ?_
          obtain ⟨hi7, hf⟩ := nm_chk hf
          obtain ⟨M8, eM8, hf⟩ := nm_let hf
          refine nm_iast hx hb hK hH (cl_no6 hL ho) (cl_ko6 hL ho) rfl hi7 dX4_root_38 (fun H locs hH => ?_)
          have hH : nm_H D Y (fun q => s0 ≤ q) s.heap X nl ad (M8.1, M8.2, N, K) H locs := by rw [eM8]; exact hH
          refine lv_aload_n hx hb dX4_root_39 rfl (lv_at hl 0 rfl) ?_
          refine gf_4_6 hK hx hb hts hown hH (cl_no0 hL ho) (cl_ko0 hL ho) (hts _ tw_56) (fun _ h9 => h9) dX4_root_40 ?_
          refine lv_iload_n hx hb dX4_root_43 rfl (lv_at hl 1 rfl) ?_
          obtain ⟨hi9, hf⟩ := nm_chk hf
          refine nm_iald hx hb hK hH (cl_no6 hL ho) (cl_ko6 hL ho) rfl hi9 dX4_root_44 ?_
          obtain ⟨v10, ev10, hf⟩ := nm_let hf
          refine nm_topi ev10 ?_
          refine lv_istore_n (lv' := [(2, .int v10), (0, .ref (ad o)), (3, .int x3)]) hx hb dX4_root_45 rfl hl (by decide) rfl (fun ls hl => ?_)
          refine lv_iinc (v := x3 + 1) (lv' := [(3, .int (x3 + 1)), (2, .int v10), (0, .ref (ad o))]) hx hb dX4_root_46 hl (k := 2) rfl rfl (by decide) rfl (fun ls hl => ?_)
          refine lv_goto (tgt := 4) hx hb dX4_root_49 (by decide) ?_
          exact ih4 v10 (x3 + 1) M8 _ _ _ _ hH (lv_sub hl [2, 1, 0] rfl) hf hX4
  obtain ⟨y11, M12, hl13, hf⟩ := nm_sd2 hf
  refine hL4 nm_F x1 (0 : Int32) M _ _ _ _ hH (lv_sub hl [2, 1, 0] rfl) hl13 (fun H locs ls hH hl => ?_)
  have hl : lv_has ls 4 [(2, .int y11)] := hl
  have hH : nm_H D Y (fun q => s0 ≤ q) s.heap X nl ad (M12.1, M12.2, N, K) H locs := hH
  refine lv_iload_n hx hb dX4_root_52 rfl (lv_at hl 0 rfl) ?_
  exact nm_iret hx hb hr hlocks hQ hH (congrArg Prod.fst (Option.some.inj hf)) (congrArg (fun q => (q.2.1, q.2.2, N, K)) (Option.some.inj hf)) dX4_root_53
def f_X4_unite_L16 (o : Nat) (N : Nat → Nat) (x1 : Int32) (x2 : Int32) (v2 : Int32) : Nat → Int64 → Int32 → cm → Option (cm)
  | 0, _, _, _ => none
  | n16 + 1, x5, x8, M3 =>
    (if v2 ≤ x8 then
    some M3
    else
    nm_l (f_X0_lowest x5) fun v5 =>
    nm_s1 (f_X4_stretchAt o N x1 v5 M3) fun r6 =>
    nm_s2 (f_X4_root o N r6 M3) fun r10 M8 =>
    nm_s1 (f_X4_stretchAt o N x2 v5 M8) fun r11 =>
    nm_s2 (f_X4_root o N r11 M8) fun r15 M13 =>
    nm_c (nm_max r10 r15) (N (o + 6)) (
    nm_l ((nm_up M13.1 (o + 6) ((nm_max r10 r15).toNatClampNeg) (nm_min r10 r15), M13.2)) fun M17 =>
    nm_l (x5 &&& (x5 - (1 : Int64))) fun v18 =>
    f_X4_unite_L16 o N x1 x2 v2 n16 v18 (x8 + 1) M17))
def f_X4_unite (o : Nat) (N : Nat → Nat) (x1 : Int32) (x2 : Int32) (x3 : Int64) (M : cm) : Option (cm) :=
nm_l (f_X0_heads x3) fun v1 =>
nm_l (f_J13_bitCount_95d88 v1) fun v2 =>
nm_s1 (f_X4_unite_L16 o N x1 x2 v2 nm_F v1 (0 : Int32) M) fun M19 =>
some M19
set_option maxHeartbeats 4000000 in
set_option maxRecDepth 100000 in
theorem k_X4_unite {l : Launch} {D : va_G} {Y : nm_Y} {s0 : Nat} {X : va_W} {ad : Nat → Nat} {nl : List Nat} {N K : Nat → Nat} (hL : cl_L nl K) (hN : cl_N N) {o : Nat} (ho : cl_o o) {x1 : Int32} {x2 : Int32} {x3 : Int64} {M : cm} {M0 : cm} (hf : f_X4_unite o N x1 x2 x3 M = some M0) :
    nm_Met l yX4_unite cX4_unite 12 none { frames := 2, cells := 0, slots := 0, locals := 45 } [.ref (ad o), .int x1, .int x2, .long x3] D Y s0 (nm_W Y X nl ad (M.1, M.2, N, K)) (nm_Qv D s0 (nm_W Y X nl ad (M0.1, M0.2, N, K))) 0 0 := by
  refine nm_of (by decide) (Nat.le_of_ble_eq_true rfl) ?_
  intro p e R s m args below meth c Q ls hx hb hr hlocks hml hown hts hs0 hK hZ hRf hRl hRc hRs hQ hP hD hl
  have hH : nm_H D Y (fun q => s0 ≤ q) s.heap X nl ad (M.1, M.2, N, K) s.heap [] := ⟨hP, hD, va_S.rf⟩
  have hl : lv_has ls 12 [(0, .ref (ad o)), (1, .int x1), (2, .int x2), (3, .long x3)] := hl
  unfold f_X4_unite at hf
  refine lv_lload_n hx hb dX4_unite_0 rfl (lv_at hl 3 rfl) ?_
  refine nm_calll (nm_runS (X := X) (nl := nl) (k_X0_heads hL hN (hf := (rfl : f_X0_heads x3 = _))) hx hb hml hown hts hs0 hK hZ hH tw_608 tw_606 tw_607 tw_13 hd_X0_heads rfl rfl ⟨Nat.le_trans (Nat.le_of_ble_eq_true rfl) hRf, Nat.le_trans (Nat.le_of_ble_eq_true rfl) hRl⟩ rfl hl.1 rfl (Nat.le_of_ble_eq_true rfl) dX4_unite_1 ⟨Nat.zero_le _, Nat.zero_le _⟩) hH (fun H locs hH => ?_)
  have hH : nm_H D Y (fun q => s0 ≤ q) s.heap X nl ad (M.1, M.2, N, K) H locs := hH
  obtain ⟨v1, ev1, hf⟩ := nm_let hf
  refine nm_topl ev1 ?_
  refine lv_lstore (lv' := [(5, .long v1), (0, .ref (ad o)), (1, .int x1), (2, .int x2), (3, .long x3)]) hx hb dX4_unite_4 hl (by decide) rfl (fun ls hl => ?_)
  refine lv_lload hx hb dX4_unite_6 (lv_at hl 0 rfl) ?_
  refine nm_calli (nm_runS (X := X) (nl := nl) (k_J13_bitCount_95d88 hL hN (hf := (rfl : f_J13_bitCount_95d88 v1 = _))) hx hb hml hown hts hs0 hK hZ hH tw_611 tw_609 tw_610 tw_17 hd_J13_bitCount_95d88 rfl rfl ⟨Nat.le_trans (Nat.le_of_ble_eq_true rfl) hRf, Nat.le_trans (Nat.le_of_ble_eq_true rfl) hRl⟩ rfl hl.1 rfl (Nat.le_of_ble_eq_true rfl) dX4_unite_8 ⟨Nat.zero_le _, Nat.zero_le _⟩) hH (fun H locs hH => ?_)
  have hH : nm_H D Y (fun q => s0 ≤ q) s.heap X nl ad (M.1, M.2, N, K) H locs := hH
  obtain ⟨v2, ev2, hf⟩ := nm_let hf
  refine nm_topi ev2 ?_
  refine lv_istore (lv' := [(7, .int v2), (5, .long v1), (0, .ref (ad o)), (1, .int x1), (2, .int x2), (3, .long x3)]) hx hb dX4_unite_11 hl (by decide) rfl (fun ls hl => ?_)
  refine lv_iconst (v := 0) hx hb dX4_unite_13 (by decide) ?_
  refine lv_istore (lv' := [(8, .int (0 : Int32)), (7, .int v2), (5, .long v1), (0, .ref (ad o)), (1, .int x1), (2, .int x2), (3, .long x3)]) hx hb dX4_unite_14 hl (by decide) rfl (fun ls hl => ?_)
  have hL16 : ∀ (n16 : Nat) (x5 : Int64) (x8 : Int32) (M3 : cm) (H : Heap) (locs : List Loc) (ls : Array Slot) (o16 : cm), nm_H D Y (fun q => s0 ≤ q) s.heap X nl ad (M3.1, M3.2, N, K) H locs → lv_has ls 12 [(0, .ref (ad o)), (1, .int x1), (2, .int x2), (5, .long x5), (7, .int v2), (8, .int x8)] → f_X4_unite_L16 o N x1 x2 v2 n16 x5 x8 M3 = some o16 → (∀ (H : Heap) (locs : List Loc) (ls : Array Slot), nm_H D Y (fun q => s0 ≤ q) s.heap X nl ad (o16.1, o16.2, N, K) H locs → lv_has ls 12 [] → W p l e R s m args below meth c H locs 0 0 Q (F0 m 90 ls [])) → W p l e R s m args below meth c H locs 0 0 Q (F0 m 16 ls []) := by
    intro n16
    induction n16 with
    | zero =>
      intro x5 x8 M3 H locs ls o16 hH hl hf hX16
      cases hf
    | succ n16 ih16 =>
      intro x5 x8 M3 H locs ls o16 hH hl hf hX16
      rw [f_X4_unite_L16] at hf
      refine lv_iload hx hb dX4_unite_16 (lv_at hl 5 rfl) ?_
      refine lv_iload hx hb dX4_unite_18 (lv_at hl 4 rfl) ?_
      refine lv_icmp_ge (tgt := 90) hx hb dX4_unite_20 (by decide) (fun c4 => ?_) (fun c4 => ?_)
      · have hf := nm_it c4 hf
        cases hf
        exact hX16 _ _ _ hH (lv_sub hl [] rfl)
      · have hf := nm_ie c4 hf
        refine lv_lload hx hb dX4_unite_23 (lv_at hl 3 rfl) ?_
        refine nm_calli (nm_runS (X := X) (nl := nl) (k_X0_lowest hL hN (hf := (rfl : f_X0_lowest x5 = _))) hx hb hml hown hts hs0 hK hZ hH tw_625 tw_623 tw_624 tw_13 hd_X0_lowest rfl rfl ⟨Nat.le_trans (Nat.le_of_ble_eq_true rfl) hRf, Nat.le_trans (Nat.le_of_ble_eq_true rfl) hRl⟩ rfl hl.1 rfl (Nat.le_of_ble_eq_true rfl) dX4_unite_25 ⟨Nat.zero_le _, Nat.zero_le _⟩) hH (fun H locs hH => ?_)
        have hH : nm_H D Y (fun q => s0 ≤ q) s.heap X nl ad (M3.1, M3.2, N, K) H locs := hH
        obtain ⟨v5, ev5, hf⟩ := nm_let hf
        refine nm_topi ev5 ?_
        refine lv_istore (lv' := [(9, .int v5), (0, .ref (ad o)), (1, .int x1), (2, .int x2), (5, .long x5), (7, .int v2), (8, .int x8)]) hx hb dX4_unite_28 hl (by decide) rfl (fun ls hl => ?_)
        refine lv_aload_n hx hb dX4_unite_30 rfl (lv_at hl 1 rfl) ?_
        refine lv_aload_n hx hb dX4_unite_31 rfl (lv_at hl 1 rfl) ?_
        refine lv_iload_n hx hb dX4_unite_32 rfl (lv_at hl 2 rfl) ?_
        refine lv_iload hx hb dX4_unite_33 (lv_at hl 0 rfl) ?_
        obtain ⟨r6, hc7, hf⟩ := nm_sd1 hf
        refine nm_calli (nm_runV (X := X) (nl := nl) (k_X4_stretchAt hL hN ho (hf := hc7)) hx hb hml hown hts hs0 hK hZ hH tw_630 tw_627 tw_629 (sw_X4_stretchAt) tw_3 hd_X4_stretchAt (cl_no0 hL ho) (cl_ko0 hL ho) (by decide) rfl rfl rfl ⟨Nat.le_trans (Nat.le_of_ble_eq_true rfl) hRf, Nat.le_trans (Nat.le_of_ble_eq_true rfl) hRl⟩ rfl hl.1 rfl (Nat.le_of_ble_eq_true rfl) dX4_unite_35 ⟨Nat.zero_le _, Nat.zero_le _⟩) hH (fun H locs hH => ?_)
        have hH : nm_H D Y (fun q => s0 ≤ q) s.heap X nl ad (M3.1, M3.2, N, K) H locs := hH
        obtain ⟨r10, M8, hc9, hf⟩ := nm_sd2 hf
        refine nm_calli (nm_runV (X := X) (nl := nl) (k_X4_root hL hN ho (hf := hc9)) hx hb hml hown hts hs0 hK hZ hH tw_635 tw_632 tw_634 (sw_X4_root) tw_3 hd_X4_root (cl_no0 hL ho) (cl_ko0 hL ho) (by decide) rfl rfl rfl ⟨Nat.le_trans (Nat.le_of_ble_eq_true rfl) hRf, Nat.le_trans (Nat.le_of_ble_eq_true rfl) hRl⟩ rfl hl.1 rfl (Nat.le_of_ble_eq_true rfl) dX4_unite_38 ⟨Nat.zero_le _, Nat.zero_le _⟩) hH (fun H locs hH => ?_)
        have hH : nm_H D Y (fun q => s0 ≤ q) s.heap X nl ad (M8.1, M8.2, N, K) H locs := hH
        refine lv_istore (lv' := [(10, .int r10), (9, .int v5), (0, .ref (ad o)), (1, .int x1), (2, .int x2), (5, .long x5), (7, .int v2), (8, .int x8)]) hx hb dX4_unite_41 hl (by decide) rfl (fun ls hl => ?_)
        refine lv_aload_n hx hb dX4_unite_43 rfl (lv_at hl 2 rfl) ?_
        refine lv_aload_n hx hb dX4_unite_44 rfl (lv_at hl 2 rfl) ?_
        refine lv_iload_n hx hb dX4_unite_45 rfl (lv_at hl 4 rfl) ?_
        refine lv_iload hx hb dX4_unite_46 (lv_at hl 1 rfl) ?_
        obtain ⟨r11, hc12, hf⟩ := nm_sd1 hf
        refine nm_calli (nm_runV (X := X) (nl := nl) (k_X4_stretchAt hL hN ho (hf := hc12)) hx hb hml hown hts hs0 hK hZ hH tw_630 tw_627 tw_629 (sw_X4_stretchAt) tw_3 hd_X4_stretchAt (cl_no0 hL ho) (cl_ko0 hL ho) (by decide) rfl rfl rfl ⟨Nat.le_trans (Nat.le_of_ble_eq_true rfl) hRf, Nat.le_trans (Nat.le_of_ble_eq_true rfl) hRl⟩ rfl hl.1 rfl (Nat.le_of_ble_eq_true rfl) dX4_unite_48 ⟨Nat.zero_le _, Nat.zero_le _⟩) hH (fun H locs hH => ?_)
        have hH : nm_H D Y (fun q => s0 ≤ q) s.heap X nl ad (M8.1, M8.2, N, K) H locs := hH
        obtain ⟨r15, M13, hc14, hf⟩ := nm_sd2 hf
        refine nm_calli (nm_runV (X := X) (nl := nl) (k_X4_root hL hN ho (hf := hc14)) hx hb hml hown hts hs0 hK hZ hH tw_635 tw_632 tw_634 (sw_X4_root) tw_3 hd_X4_root (cl_no0 hL ho) (cl_ko0 hL ho) (by decide) rfl rfl rfl ⟨Nat.le_trans (Nat.le_of_ble_eq_true rfl) hRf, Nat.le_trans (Nat.le_of_ble_eq_true rfl) hRl⟩ rfl hl.1 rfl (Nat.le_of_ble_eq_true rfl) dX4_unite_51 ⟨Nat.zero_le _, Nat.zero_le _⟩) hH (fun H locs hH => ?_)
        have hH : nm_H D Y (fun q => s0 ≤ q) s.heap X nl ad (M13.1, M13.2, N, K) H locs := hH
        refine lv_istore (lv' := [(11, .int r15), (10, .int r10), (9, .int v5), (0, .ref (ad o)), (1, .int x1), (2, .int x2), (5, .long x5), (7, .int v2), (8, .int x8)]) hx hb dX4_unite_54 hl (by decide) rfl (fun ls hl => ?_)
        refine lv_aload_n hx hb dX4_unite_56 rfl (lv_at hl 3 rfl) ?_
        refine gf_4_6 hK hx hb hts hown hH (cl_no0 hL ho) (cl_ko0 hL ho) (hts _ tw_56) (fun _ h9 => h9) dX4_unite_57 ?_
        refine lv_iload hx hb dX4_unite_60 (lv_at hl 1 rfl) ?_
        refine lv_iload hx hb dX4_unite_62 (lv_at hl 0 rfl) ?_
        refine nm_mmax hx hb (hml.trans hl.1.symm) hown hts tw_636 (Nat.le_trans (Nat.le_of_ble_eq_true rfl) hRf) (Nat.le_trans (Nat.le_of_ble_eq_true rfl) hRl) (Nat.zero_le _) (Nat.zero_le _) dX4_unite_64 ?_
        refine lv_iload hx hb dX4_unite_67 (lv_at hl 1 rfl) ?_
        refine lv_iload hx hb dX4_unite_69 (lv_at hl 0 rfl) ?_
        refine nm_mmin hx hb (hml.trans hl.1.symm) hown hts tw_637 (Nat.le_trans (Nat.le_of_ble_eq_true rfl) hRf) (Nat.le_trans (Nat.le_of_ble_eq_true rfl) hRl) (Nat.zero_le _) (Nat.zero_le _) dX4_unite_71 ?_
        obtain ⟨hi16, hf⟩ := nm_chk hf
        obtain ⟨M17, eM17, hf⟩ := nm_let hf
        refine nm_iast hx hb hK hH (cl_no6 hL ho) (cl_ko6 hL ho) rfl hi16 dX4_unite_74 (fun H locs hH => ?_)
        have hH : nm_H D Y (fun q => s0 ≤ q) s.heap X nl ad (M17.1, M17.2, N, K) H locs := by rw [eM17]; exact hH
        refine lv_lload hx hb dX4_unite_75 (lv_at hl 6 rfl) ?_
        refine lv_lload hx hb dX4_unite_77 (lv_at hl 6 rfl) ?_
        refine lv_lconst (v := 1) hx hb dX4_unite_79 (by decide) ?_
        refine lv_lsub hx hb dX4_unite_80 ?_
        refine lv_land hx hb dX4_unite_81 ?_
        obtain ⟨v18, ev18, hf⟩ := nm_let hf
        refine nm_topl ev18 ?_
        refine lv_lstore (lv' := [(5, .long v18), (11, .int r15), (10, .int r10), (9, .int v5), (0, .ref (ad o)), (1, .int x1), (2, .int x2), (7, .int v2), (8, .int x8)]) hx hb dX4_unite_82 hl (by decide) rfl (fun ls hl => ?_)
        refine lv_iinc (v := x8 + 1) (lv' := [(8, .int (x8 + 1)), (5, .long v18), (11, .int r15), (10, .int r10), (9, .int v5), (0, .ref (ad o)), (1, .int x1), (2, .int x2), (7, .int v2)]) hx hb dX4_unite_84 hl (k := 8) rfl rfl (by decide) rfl (fun ls hl => ?_)
        refine lv_goto (tgt := 16) hx hb dX4_unite_87 (by decide) ?_
        exact ih16 v18 (x8 + 1) M17 _ _ _ _ hH (lv_sub hl [5, 6, 7, 1, 8, 0] rfl) hf hX16
  obtain ⟨M19, hl20, hf⟩ := nm_sd1 hf
  refine hL16 nm_F v1 (0 : Int32) M _ _ _ _ hH (lv_sub hl [3, 4, 5, 2, 1, 0] rfl) hl20 (fun H locs ls hH hl => ?_)
  have hl : lv_has ls 12 [] := hl
  have hH : nm_H D Y (fun q => s0 ≤ q) s.heap X nl ad (M19.1, M19.2, N, K) H locs := hH
  exact nm_vret hx hb hr hlocks hQ hH (congrArg (fun q => (q.1, q.2, N, K)) (Option.some.inj hf)) dX4_unite_90
def f_X4_number_J65 (o : Nat) (N : Nat → Nat) (x1 : Int32) (M5 : cm) (k : Int32 → cm → Option (cm)) : Option (cm) :=
k (x1 + 1) M5
def f_X4_number_L7 (o : Nat) (N : Nat → Nat) : Nat → Int32 → cm → Option (cm)
  | 0, _, _ => none
  | n7 + 1, x1, M2 =>
    (if (M2.1 o 7) ≤ x1 then
    some M2
    else
    nm_c x1 (N (o + 6)) (
    (if (M2.1 (o + 6) x1.toNatClampNeg) = x1 then
    nm_c x1 (N (o + 6)) (
    nm_l ((nm_up M2.1 (o + 6) x1.toNatClampNeg (M2.1 o 1), M2.2)) fun M12 =>
    nm_l ((nm_up M12.1 o 1 ((M12.1 o 1) + (1 : Int32)), M12.2)) fun M13 =>
    f_X4_number_J65 o N x1 M13 (f_X4_number_L7 o N n7))
    else
    nm_c x1 (N (o + 6)) (
    nm_c (M2.1 (o + 6) x1.toNatClampNeg) (N (o + 6)) (
    nm_c x1 (N (o + 6)) (
    nm_l ((nm_up M2.1 (o + 6) x1.toNatClampNeg (M2.1 (o + 6) (M2.1 (o + 6) x1.toNatClampNeg).toNatClampNeg), M2.2)) fun M10 =>
    f_X4_number_J65 o N x1 M10 (f_X4_number_L7 o N n7)))))))
def f_X4_number (o : Nat) (N : Nat → Nat) (M : cm) : Option (cm) :=
nm_l ((nm_up M.1 o 1 (0 : Int32), M.2)) fun M1 =>
nm_s1 (f_X4_number_L7 o N nm_F (0 : Int32) M1) fun M14 =>
some M14
set_option maxHeartbeats 4000000 in
set_option maxRecDepth 100000 in
theorem k_X4_number {l : Launch} {D : va_G} {Y : nm_Y} {s0 : Nat} {X : va_W} {ad : Nat → Nat} {nl : List Nat} {N K : Nat → Nat} (hL : cl_L nl K) (hN : cl_N N) {o : Nat} (ho : cl_o o) {M : cm} {M0 : cm} (hf : f_X4_number o N M = some M0) :
    nm_Met l yX4_number cX4_number 2 none { frames := 0, cells := 0, slots := 0, locals := 0 } [.ref (ad o)] D Y s0 (nm_W Y X nl ad (M.1, M.2, N, K)) (nm_Qv D s0 (nm_W Y X nl ad (M0.1, M0.2, N, K))) 0 0 := by
  refine nm_of (by decide) (Nat.le_of_ble_eq_true rfl) ?_
  intro p e R s m args below meth c Q ls hx hb hr hlocks hml hown hts hs0 hK hZ hRf hRl hRc hRs hQ hP hD hl
  have hH : nm_H D Y (fun q => s0 ≤ q) s.heap X nl ad (M.1, M.2, N, K) s.heap [] := ⟨hP, hD, va_S.rf⟩
  have hl : lv_has ls 2 [(0, .ref (ad o))] := hl
  unfold f_X4_number at hf
  refine lv_aload_n hx hb dX4_number_0 rfl (lv_at hl 0 rfl) ?_
  refine lv_iconst (v := 0) hx hb dX4_number_1 (by decide) ?_
  obtain ⟨M1, eM1, hf⟩ := nm_let hf
  refine pf_4_1 hK hx hb hts hown hH (cl_no0 hL ho) (cl_ko0 hL ho) (hts _ tw_42) (fun _ h9 => h9) dX4_number_2 (fun H locs hH => ?_)
  have hH : nm_H D Y (fun q => s0 ≤ q) s.heap X nl ad (M1.1, M1.2, N, K) H locs := by rw [eM1]; exact hH
  refine lv_iconst (v := 0) hx hb dX4_number_5 (by decide) ?_
  refine lv_istore_n (lv' := [(1, .int (0 : Int32)), (0, .ref (ad o))]) hx hb dX4_number_6 rfl hl (by decide) rfl (fun ls hl => ?_)
  have hL7 : ∀ (n7 : Nat) (x1 : Int32) (M2 : cm) (H : Heap) (locs : List Loc) (ls : Array Slot) (o7 : cm), nm_H D Y (fun q => s0 ≤ q) s.heap X nl ad (M2.1, M2.2, N, K) H locs → lv_has ls 2 [(0, .ref (ad o)), (1, .int x1)] → f_X4_number_L7 o N n7 x1 M2 = some o7 → (∀ (H : Heap) (locs : List Loc) (ls : Array Slot), nm_H D Y (fun q => s0 ≤ q) s.heap X nl ad (o7.1, o7.2, N, K) H locs → lv_has ls 2 [] → W p l e R s m args below meth c H locs 0 0 Q (F0 m 71 ls [])) → W p l e R s m args below meth c H locs 0 0 Q (F0 m 7 ls []) := by
    intro n7
    induction n7 with
    | zero =>
      intro x1 M2 H locs ls o7 hH hl hf hX7
      cases hf
    | succ n7 ih7 =>
      intro x1 M2 H locs ls o7 hH hl hf hX7
      rw [f_X4_number_L7] at hf
      refine lv_iload_n hx hb dX4_number_7 rfl (lv_at hl 1 rfl) ?_
      refine lv_aload_n hx hb dX4_number_8 rfl (lv_at hl 0 rfl) ?_
      refine gf_4_7 hK hx hb hts hown hH (cl_no0 hL ho) (cl_ko0 hL ho) (hts _ tw_57) (fun _ h9 => h9) dX4_number_9 ?_
      refine lv_icmp_ge (tgt := 71) hx hb dX4_number_12 (by decide) (fun c3 => ?_) (fun c3 => ?_)
      · have hf := nm_it c3 hf
        cases hf
        exact hX7 _ _ _ hH (lv_sub hl [] rfl)
      · have hf := nm_ie c3 hf
        refine lv_aload_n hx hb dX4_number_15 rfl (lv_at hl 0 rfl) ?_
        refine gf_4_6 hK hx hb hts hown hH (cl_no0 hL ho) (cl_ko0 hL ho) (hts _ tw_56) (fun _ h9 => h9) dX4_number_16 ?_
        refine lv_iload_n hx hb dX4_number_19 rfl (lv_at hl 1 rfl) ?_
        obtain ⟨hi4, hf⟩ := nm_chk hf
        refine nm_iald hx hb hK hH (cl_no6 hL ho) (cl_ko6 hL ho) rfl hi4 dX4_number_20 ?_
        refine lv_iload_n hx hb dX4_number_21 rfl (lv_at hl 1 rfl) ?_
        have hJ65 : ∀ (M5 : cm) (H : Heap) (locs : List Loc) (ls : Array Slot), nm_H D Y (fun q => s0 ≤ q) s.heap X nl ad (M5.1, M5.2, N, K) H locs → lv_has ls 2 [(0, .ref (ad o)), (1, .int x1)] → f_X4_number_J65 o N x1 M5 (f_X4_number_L7 o N n7) = some o7 → W p l e R s m args below meth c H locs 0 0 Q (F0 m 65 ls []) := by
          intro M5 H locs ls hH hl hf
          unfold f_X4_number_J65 at hf
          refine lv_iinc (v := x1 + 1) (lv' := [(1, .int (x1 + 1)), (0, .ref (ad o))]) hx hb dX4_number_65 hl (k := 1) rfl rfl (by decide) rfl (fun ls hl => ?_)
          refine lv_goto (tgt := 7) hx hb dX4_number_68 (by decide) ?_
          exact ih7 (x1 + 1) M5 _ _ _ _ hH (lv_sub hl [1, 0] rfl) hf hX7
        refine lv_icmp_ne (tgt := 48) hx hb dX4_number_22 (by decide) (fun c6 => ?_) (fun c6 => ?_)
        · have hf := nm_ie c6 hf
          refine lv_aload_n hx hb dX4_number_48 rfl (lv_at hl 0 rfl) ?_
          refine gf_4_6 hK hx hb hts hown hH (cl_no0 hL ho) (cl_ko0 hL ho) (hts _ tw_56) (fun _ h9 => h9) dX4_number_49 ?_
          refine lv_iload_n hx hb dX4_number_52 rfl (lv_at hl 1 rfl) ?_
          refine lv_aload_n hx hb dX4_number_53 rfl (lv_at hl 0 rfl) ?_
          refine gf_4_6 hK hx hb hts hown hH (cl_no0 hL ho) (cl_ko0 hL ho) (hts _ tw_56) (fun _ h9 => h9) dX4_number_54 ?_
          refine lv_aload_n hx hb dX4_number_57 rfl (lv_at hl 0 rfl) ?_
          refine gf_4_6 hK hx hb hts hown hH (cl_no0 hL ho) (cl_ko0 hL ho) (hts _ tw_56) (fun _ h9 => h9) dX4_number_58 ?_
          refine lv_iload_n hx hb dX4_number_61 rfl (lv_at hl 1 rfl) ?_
          obtain ⟨hi7, hf⟩ := nm_chk hf
          refine nm_iald hx hb hK hH (cl_no6 hL ho) (cl_ko6 hL ho) rfl hi7 dX4_number_62 ?_
          obtain ⟨hi8, hf⟩ := nm_chk hf
          refine nm_iald hx hb hK hH (cl_no6 hL ho) (cl_ko6 hL ho) rfl hi8 dX4_number_63 ?_
          obtain ⟨hi9, hf⟩ := nm_chk hf
          obtain ⟨M10, eM10, hf⟩ := nm_let hf
          refine nm_iast hx hb hK hH (cl_no6 hL ho) (cl_ko6 hL ho) rfl hi9 dX4_number_64 (fun H locs hH => ?_)
          have hH : nm_H D Y (fun q => s0 ≤ q) s.heap X nl ad (M10.1, M10.2, N, K) H locs := by rw [eM10]; exact hH
          exact hJ65  M10 _ _ _ hH (lv_sub hl [0, 1] rfl) hf
        · have hf := nm_it c6 hf
          refine lv_aload_n hx hb dX4_number_25 rfl (lv_at hl 0 rfl) ?_
          refine gf_4_6 hK hx hb hts hown hH (cl_no0 hL ho) (cl_ko0 hL ho) (hts _ tw_56) (fun _ h9 => h9) dX4_number_26 ?_
          refine lv_iload_n hx hb dX4_number_29 rfl (lv_at hl 1 rfl) ?_
          refine lv_aload_n hx hb dX4_number_30 rfl (lv_at hl 0 rfl) ?_
          refine gf_4_1 hK hx hb hts hown hH (cl_no0 hL ho) (cl_ko0 hL ho) (hts _ tw_42) (fun _ h9 => h9) dX4_number_31 ?_
          obtain ⟨hi11, hf⟩ := nm_chk hf
          obtain ⟨M12, eM12, hf⟩ := nm_let hf
          refine nm_iast hx hb hK hH (cl_no6 hL ho) (cl_ko6 hL ho) rfl hi11 dX4_number_34 (fun H locs hH => ?_)
          have hH : nm_H D Y (fun q => s0 ≤ q) s.heap X nl ad (M12.1, M12.2, N, K) H locs := by rw [eM12]; exact hH
          refine lv_aload_n hx hb dX4_number_35 rfl (lv_at hl 0 rfl) ?_
          refine lv_dup hx hb dX4_number_36 rfl ?_
          refine gf_4_1 hK hx hb hts hown hH (cl_no0 hL ho) (cl_ko0 hL ho) (hts _ tw_42) (fun _ h9 => h9) dX4_number_37 ?_
          refine lv_iconst (v := 1) hx hb dX4_number_40 (by decide) ?_
          refine lv_iadd hx hb dX4_number_41 ?_
          obtain ⟨M13, eM13, hf⟩ := nm_let hf
          refine pf_4_1 hK hx hb hts hown hH (cl_no0 hL ho) (cl_ko0 hL ho) (hts _ tw_42) (fun _ h9 => h9) dX4_number_42 (fun H locs hH => ?_)
          have hH : nm_H D Y (fun q => s0 ≤ q) s.heap X nl ad (M13.1, M13.2, N, K) H locs := by rw [eM13]; exact hH
          refine lv_goto (tgt := 65) hx hb dX4_number_45 (by decide) ?_
          exact hJ65  M13 _ _ _ hH (lv_sub hl [0, 1] rfl) hf
  obtain ⟨M14, hl15, hf⟩ := nm_sd1 hf
  refine hL7 nm_F (0 : Int32) M1 _ _ _ _ hH (lv_sub hl [1, 0] rfl) hl15 (fun H locs ls hH hl => ?_)
  have hl : lv_has ls 2 [] := hl
  have hH : nm_H D Y (fun q => s0 ≤ q) s.heap X nl ad (M14.1, M14.2, N, K) H locs := hH
  exact nm_vret hx hb hr hlocks hQ hH (congrArg (fun q => (q.1, q.2, N, K)) (Option.some.inj hf)) dX4_number_71
def f_X4_measureStretch_J16 (o : Nat) (N : Nat → Nat) (x1 : Int32) (x2 : Int32) (x3 : Int32) (M2 : cm) : Option (cm) :=
nm_c x1 (N (o + 2)) (
nm_c x1 (N (o + 2)) (
nm_l ((nm_up M2.1 (o + 2) x1.toNatClampNeg ((M2.1 (o + 2) x1.toNatClampNeg) + x3), M2.2)) fun M5 =>
nm_c x1 (N (o + 4)) (
nm_l ((nm_up M5.1 (o + 4) x1.toNatClampNeg ((x2 + x3) - (1 : Int32)), M5.2)) fun M7 =>
some M7)))
def f_X4_measureStretch (o : Nat) (N : Nat → Nat) (x1 : Int32) (x2 : Int32) (x3 : Int32) (M : cm) : Option (cm) :=
nm_c x1 (N (o + 2)) (
(if (M.1 (o + 2) x1.toNatClampNeg) = 0 then
nm_c x1 (N (o + 3)) (
nm_l ((nm_up M.1 (o + 3) x1.toNatClampNeg x2, M.2)) fun M10 =>
f_X4_measureStretch_J16 o N x1 x2 x3 M10)
else
f_X4_measureStretch_J16 o N x1 x2 x3 M))
set_option maxHeartbeats 4000000 in
set_option maxRecDepth 100000 in
theorem k_X4_measureStretch {l : Launch} {D : va_G} {Y : nm_Y} {s0 : Nat} {X : va_W} {ad : Nat → Nat} {nl : List Nat} {N K : Nat → Nat} (hL : cl_L nl K) (hN : cl_N N) {o : Nat} (ho : cl_o o) {x1 : Int32} {x2 : Int32} {x3 : Int32} {M : cm} {M0 : cm} (hf : f_X4_measureStretch o N x1 x2 x3 M = some M0) :
    nm_Met l yX4_measureStretch cX4_measureStretch 4 none { frames := 0, cells := 0, slots := 0, locals := 0 } [.ref (ad o), .int x1, .int x2, .int x3] D Y s0 (nm_W Y X nl ad (M.1, M.2, N, K)) (nm_Qv D s0 (nm_W Y X nl ad (M0.1, M0.2, N, K))) 0 0 := by
  refine nm_of (by decide) (Nat.le_of_ble_eq_true rfl) ?_
  intro p e R s m args below meth c Q ls hx hb hr hlocks hml hown hts hs0 hK hZ hRf hRl hRc hRs hQ hP hD hl
  have hH : nm_H D Y (fun q => s0 ≤ q) s.heap X nl ad (M.1, M.2, N, K) s.heap [] := ⟨hP, hD, va_S.rf⟩
  have hl : lv_has ls 4 [(0, .ref (ad o)), (1, .int x1), (2, .int x2), (3, .int x3)] := hl
  unfold f_X4_measureStretch at hf
  refine lv_aload_n hx hb dX4_measureStretch_0 rfl (lv_at hl 0 rfl) ?_
  refine gf_4_2 hK hx hb hts hown hH (cl_no0 hL ho) (cl_ko0 hL ho) (hts _ tw_46) (fun _ h9 => h9) dX4_measureStretch_1 ?_
  refine lv_iload_n hx hb dX4_measureStretch_4 rfl (lv_at hl 1 rfl) ?_
  obtain ⟨hi1, hf⟩ := nm_chk hf
  refine nm_iald hx hb hK hH (cl_no2 hL ho) (cl_ko2 hL ho) rfl hi1 dX4_measureStretch_5 ?_
  have hJ16 : ∀ (M2 : cm) (H : Heap) (locs : List Loc) (ls : Array Slot), nm_H D Y (fun q => s0 ≤ q) s.heap X nl ad (M2.1, M2.2, N, K) H locs → lv_has ls 4 [(0, .ref (ad o)), (1, .int x1), (2, .int x2), (3, .int x3)] → f_X4_measureStretch_J16 o N x1 x2 x3 M2 = some M0 → W p l e R s m args below meth c H locs 0 0 Q (F0 m 16 ls []) := by
    intro M2 H locs ls hH hl hf
    unfold f_X4_measureStretch_J16 at hf
    refine lv_aload_n hx hb dX4_measureStretch_16 rfl (lv_at hl 0 rfl) ?_
    refine gf_4_2 hK hx hb hts hown hH (cl_no0 hL ho) (cl_ko0 hL ho) (hts _ tw_46) (fun _ h9 => h9) dX4_measureStretch_17 ?_
    refine lv_iload_n hx hb dX4_measureStretch_20 rfl (lv_at hl 1 rfl) ?_
    refine lv_dup2_11 hx hb dX4_measureStretch_21 rfl rfl ?_
    obtain ⟨hi3, hf⟩ := nm_chk hf
    refine nm_iald hx hb hK hH (cl_no2 hL ho) (cl_ko2 hL ho) rfl hi3 dX4_measureStretch_22 ?_
    refine lv_iload_n hx hb dX4_measureStretch_23 rfl (lv_at hl 3 rfl) ?_
    refine lv_iadd hx hb dX4_measureStretch_24 ?_
    obtain ⟨hi4, hf⟩ := nm_chk hf
    obtain ⟨M5, eM5, hf⟩ := nm_let hf
    refine nm_iast hx hb hK hH (cl_no2 hL ho) (cl_ko2 hL ho) rfl hi4 dX4_measureStretch_25 (fun H locs hH => ?_)
    have hH : nm_H D Y (fun q => s0 ≤ q) s.heap X nl ad (M5.1, M5.2, N, K) H locs := by rw [eM5]; exact hH
    refine lv_aload_n hx hb dX4_measureStretch_26 rfl (lv_at hl 0 rfl) ?_
    refine gf_4_4 hK hx hb hts hown hH (cl_no0 hL ho) (cl_ko0 hL ho) (hts _ tw_53) (fun _ h9 => h9) dX4_measureStretch_27 ?_
    refine lv_iload_n hx hb dX4_measureStretch_30 rfl (lv_at hl 1 rfl) ?_
    refine lv_iload_n hx hb dX4_measureStretch_31 rfl (lv_at hl 2 rfl) ?_
    refine lv_iload_n hx hb dX4_measureStretch_32 rfl (lv_at hl 3 rfl) ?_
    refine lv_iadd hx hb dX4_measureStretch_33 ?_
    refine lv_iconst (v := 1) hx hb dX4_measureStretch_34 (by decide) ?_
    refine lv_isub hx hb dX4_measureStretch_35 ?_
    obtain ⟨hi6, hf⟩ := nm_chk hf
    obtain ⟨M7, eM7, hf⟩ := nm_let hf
    refine nm_iast hx hb hK hH (cl_no4 hL ho) (cl_ko4 hL ho) rfl hi6 dX4_measureStretch_36 (fun H locs hH => ?_)
    have hH : nm_H D Y (fun q => s0 ≤ q) s.heap X nl ad (M7.1, M7.2, N, K) H locs := by rw [eM7]; exact hH
    exact nm_vret hx hb hr hlocks hQ hH (congrArg (fun q => (q.1, q.2, N, K)) (Option.some.inj hf)) dX4_measureStretch_37
  refine lv_if_ne (tgt := 16) hx hb dX4_measureStretch_6 (by decide) (fun c8 => ?_) (fun c8 => ?_)
  · have hf := nm_ie c8 hf
    exact hJ16  M _ _ _ hH (lv_sub hl [0, 1, 2, 3] rfl) hf
  · have hf := nm_it c8 hf
    refine lv_aload_n hx hb dX4_measureStretch_9 rfl (lv_at hl 0 rfl) ?_
    refine gf_4_3 hK hx hb hts hown hH (cl_no0 hL ho) (cl_ko0 hL ho) (hts _ tw_50) (fun _ h9 => h9) dX4_measureStretch_10 ?_
    refine lv_iload_n hx hb dX4_measureStretch_13 rfl (lv_at hl 1 rfl) ?_
    refine lv_iload_n hx hb dX4_measureStretch_14 rfl (lv_at hl 2 rfl) ?_
    obtain ⟨hi9, hf⟩ := nm_chk hf
    obtain ⟨M10, eM10, hf⟩ := nm_let hf
    refine nm_iast hx hb hK hH (cl_no3 hL ho) (cl_ko3 hL ho) rfl hi9 dX4_measureStretch_15 (fun H locs hH => ?_)
    have hH : nm_H D Y (fun q => s0 ≤ q) s.heap X nl ad (M10.1, M10.2, N, K) H locs := by rw [eM10]; exact hH
    exact hJ16  M10 _ _ _ hH (lv_sub hl [0, 1, 2, 3] rfl) hf
def f_X4_groupAt (o : Nat) (N : Nat → Nat) (x1 : Int32) (x2 : Int32) (M : cm) : Option Int32 :=
nm_c x1 (N (o + 1)) (
(if (lg_cmp ((nm_shr (M.2 (o + 1) x1.toNatClampNeg) x2) &&& (1 : Int64)) (0 : Int64)) = 0 then
some (-1 : Int32)
else
nm_s1 (f_X4_stretchAt o N x1 x2 M) fun r3 =>
nm_c r3 (N (o + 6)) (
some (M.1 (o + 6) r3.toNatClampNeg))))
set_option maxHeartbeats 4000000 in
set_option maxRecDepth 100000 in
theorem k_X4_groupAt {l : Launch} {D : va_G} {Y : nm_Y} {s0 : Nat} {X : va_W} {ad : Nat → Nat} {nl : List Nat} {N K : Nat → Nat} (hL : cl_L nl K) (hN : cl_N N) {o : Nat} (ho : cl_o o) {x1 : Int32} {x2 : Int32} {M : cm} {r0 : Int32} (hf : f_X4_groupAt o N x1 x2 M = some r0) :
    nm_Met l yX4_groupAt cX4_groupAt 3 (some .int) { frames := 2, cells := 0, slots := 0, locals := 45 } [.ref (ad o), .int x1, .int x2] D Y s0 (nm_W Y X nl ad (M.1, M.2, N, K)) (nm_Qi D s0 r0 (nm_W Y X nl ad (M.1, M.2, N, K))) 0 0 := by
  refine nm_of (by decide) (Nat.le_of_ble_eq_true rfl) ?_
  intro p e R s m args below meth c Q ls hx hb hr hlocks hml hown hts hs0 hK hZ hRf hRl hRc hRs hQ hP hD hl
  have hH : nm_H D Y (fun q => s0 ≤ q) s.heap X nl ad (M.1, M.2, N, K) s.heap [] := ⟨hP, hD, va_S.rf⟩
  have hl : lv_has ls 3 [(0, .ref (ad o)), (1, .int x1), (2, .int x2)] := hl
  unfold f_X4_groupAt at hf
  refine lv_aload_n hx hb dX4_groupAt_0 rfl (lv_at hl 0 rfl) ?_
  refine gf_4_0 hK hx hb hts hown hH (cl_no0 hL ho) (cl_ko0 hL ho) (hts _ tw_40) (fun _ h9 => h9) dX4_groupAt_1 ?_
  refine lv_iload_n hx hb dX4_groupAt_4 rfl (lv_at hl 1 rfl) ?_
  obtain ⟨hi1, hf⟩ := nm_chk hf
  refine nm_lald hx hb hK hH (cl_no1 hL ho) (cl_ko1 hL ho) rfl hi1 dX4_groupAt_5 ?_
  refine lv_iload_n hx hb dX4_groupAt_6 rfl (lv_at hl 2 rfl) ?_
  refine lv_lushr (v := nm_shr (M.2 (o + 1) x1.toNatClampNeg) x2) hx hb dX4_groupAt_7 rfl ?_
  refine lv_lconst (v := 1) hx hb dX4_groupAt_8 (by decide) ?_
  refine lv_land hx hb dX4_groupAt_9 ?_
  refine lv_lconst (v := 0) hx hb dX4_groupAt_10 (by decide) ?_
  refine W.lcmp hx hb dX4_groupAt_11 ?_
  refine lv_if_ne (tgt := 19) hx hb dX4_groupAt_12 (by decide) (fun c2 => ?_) (fun c2 => ?_)
  · have hf := nm_ie c2 hf
    refine lv_aload_n hx hb dX4_groupAt_19 rfl (lv_at hl 0 rfl) ?_
    refine gf_4_6 hK hx hb hts hown hH (cl_no0 hL ho) (cl_ko0 hL ho) (hts _ tw_56) (fun _ h9 => h9) dX4_groupAt_20 ?_
    refine lv_aload_n hx hb dX4_groupAt_23 rfl (lv_at hl 0 rfl) ?_
    refine lv_iload_n hx hb dX4_groupAt_24 rfl (lv_at hl 1 rfl) ?_
    refine lv_iload_n hx hb dX4_groupAt_25 rfl (lv_at hl 2 rfl) ?_
    obtain ⟨r3, hc4, hf⟩ := nm_sd1 hf
    refine nm_calli (nm_runV (X := X) (nl := nl) (k_X4_stretchAt hL hN ho (hf := hc4)) hx hb hml hown hts hs0 hK hZ hH tw_630 tw_627 tw_629 (sw_X4_stretchAt) tw_3 hd_X4_stretchAt (cl_no0 hL ho) (cl_ko0 hL ho) (by decide) rfl rfl rfl ⟨Nat.le_trans (Nat.le_of_ble_eq_true rfl) hRf, Nat.le_trans (Nat.le_of_ble_eq_true rfl) hRl⟩ rfl hl.1 rfl (Nat.le_of_ble_eq_true rfl) dX4_groupAt_26 ⟨Nat.zero_le _, Nat.zero_le _⟩) hH (fun H locs hH => ?_)
    have hH : nm_H D Y (fun q => s0 ≤ q) s.heap X nl ad (M.1, M.2, N, K) H locs := hH
    obtain ⟨hi5, hf⟩ := nm_chk hf
    refine nm_iald hx hb hK hH (cl_no6 hL ho) (cl_ko6 hL ho) rfl hi5 dX4_groupAt_29 ?_
    exact nm_iret hx hb hr hlocks hQ hH (Option.some.inj hf) rfl dX4_groupAt_30
  · have hf := nm_it c2 hf
    refine lv_iconst (v := -1) hx hb dX4_groupAt_15 (by decide) ?_
    refine lv_goto (tgt := 30) hx hb dX4_groupAt_16 (by decide) ?_
    exact nm_iret hx hb hr hlocks hQ hH (Option.some.inj hf) rfl dX4_groupAt_30
def f_X4_touchedIn_J78 (o : Nat) (N : Nat → Nat) (x2 : Int64) (x4 : Int64) (x7 : Int32) (M : cm) (k : Int64 → Int64 → Int32 → Option (Int64)) : Option (Int64) :=
nm_l (x4 &&& (x4 - (1 : Int64))) fun v9 =>
k x2 v9 (x7 + 1)
def f_X4_touchedIn_L23 (o : Nat) (N : Nat → Nat) (x1 : Int32) (v3 : Int32) (M : cm) : Nat → Int64 → Int64 → Int32 → Option (Int64)
  | 0, _, _, _ => none
  | n23 + 1, x2, x4, x7 =>
    (if v3 ≤ x7 then
    some x2
    else
    nm_l (f_X0_lowest x4) fun v5 =>
    nm_c x1 (N (o + 5)) (
    nm_c ((M.1 (o + 5) x1.toNatClampNeg) + x7) (N (o + 6)) (
    nm_c (M.1 (o + 6) ((M.1 (o + 5) x1.toNatClampNeg) + x7).toNatClampNeg) (N (o + 7)) (
    (if (M.1 (o + 7) (M.1 (o + 6) ((M.1 (o + 5) x1.toNatClampNeg) + x7).toNatClampNeg).toNatClampNeg) = 0 then
    f_X4_touchedIn_J78 o N x2 x4 x7 M (f_X4_touchedIn_L23 o N x1 v3 M n23)
    else
    nm_c x1 (N (o + 1)) (
    nm_l (x2 ||| (f_X0_span v5 (f_X0_stretch (M.2 (o + 1) x1.toNatClampNeg) v5))) fun v12 =>
    f_X4_touchedIn_J78 o N v12 x4 x7 M (f_X4_touchedIn_L23 o N x1 v3 M n23)))))))
def f_X4_touchedIn (o : Nat) (N : Nat → Nat) (x1 : Int32) (M : cm) : Option Int64 :=
nm_c x1 (N (o + 1)) (
nm_l (f_X0_heads (M.2 (o + 1) x1.toNatClampNeg)) fun v2 =>
nm_l (f_J13_bitCount_95d88 v2) fun v3 =>
nm_s1 (f_X4_touchedIn_L23 o N x1 v3 M nm_F (0 : Int64) v2 (0 : Int32)) fun y13 =>
some y13)
set_option maxHeartbeats 4000000 in
set_option maxRecDepth 100000 in
theorem k_X4_touchedIn {l : Launch} {D : va_G} {Y : nm_Y} {s0 : Nat} {X : va_W} {ad : Nat → Nat} {nl : List Nat} {N K : Nat → Nat} (hL : cl_L nl K) (hN : cl_N N) {o : Nat} (ho : cl_o o) {x1 : Int32} {M : cm} {r0 : Int64} (hf : f_X4_touchedIn o N x1 M = some r0) :
    nm_Met l yX4_touchedIn cX4_touchedIn 9 (some .long) { frames := 3, cells := 0, slots := 0, locals := 64 } [.ref (ad o), .int x1] D Y s0 (nm_W Y X nl ad (M.1, M.2, N, K)) (nm_Ql D s0 r0 (nm_W Y X nl ad (M.1, M.2, N, K))) 0 0 := by
  refine nm_of (by decide) (Nat.le_of_ble_eq_true rfl) ?_
  intro p e R s m args below meth c Q ls hx hb hr hlocks hml hown hts hs0 hK hZ hRf hRl hRc hRs hQ hP hD hl
  have hH : nm_H D Y (fun q => s0 ≤ q) s.heap X nl ad (M.1, M.2, N, K) s.heap [] := ⟨hP, hD, va_S.rf⟩
  have hl : lv_has ls 9 [(0, .ref (ad o)), (1, .int x1)] := hl
  unfold f_X4_touchedIn at hf
  refine lv_lconst (v := 0) hx hb dX4_touchedIn_0 (by decide) ?_
  refine lv_lstore_n (lv' := [(2, .long (0 : Int64)), (0, .ref (ad o)), (1, .int x1)]) hx hb dX4_touchedIn_1 rfl hl (by decide) rfl (fun ls hl => ?_)
  refine lv_aload_n hx hb dX4_touchedIn_2 rfl (lv_at hl 1 rfl) ?_
  refine gf_4_0 hK hx hb hts hown hH (cl_no0 hL ho) (cl_ko0 hL ho) (hts _ tw_40) (fun _ h9 => h9) dX4_touchedIn_3 ?_
  refine lv_iload_n hx hb dX4_touchedIn_6 rfl (lv_at hl 2 rfl) ?_
  obtain ⟨hi1, hf⟩ := nm_chk hf
  refine nm_lald hx hb hK hH (cl_no1 hL ho) (cl_ko1 hL ho) rfl hi1 dX4_touchedIn_7 ?_
  refine nm_calll (nm_runS (X := X) (nl := nl) (k_X0_heads hL hN (hf := (rfl : f_X0_heads (M.2 (o + 1) x1.toNatClampNeg) = _))) hx hb hml hown hts hs0 hK hZ hH tw_608 tw_606 tw_607 tw_13 hd_X0_heads rfl rfl ⟨Nat.le_trans (Nat.le_of_ble_eq_true rfl) hRf, Nat.le_trans (Nat.le_of_ble_eq_true rfl) hRl⟩ rfl hl.1 rfl (Nat.le_of_ble_eq_true rfl) dX4_touchedIn_8 ⟨Nat.zero_le _, Nat.zero_le _⟩) hH (fun H locs hH => ?_)
  have hH : nm_H D Y (fun q => s0 ≤ q) s.heap X nl ad (M.1, M.2, N, K) H locs := hH
  obtain ⟨v2, ev2, hf⟩ := nm_let hf
  refine nm_topl ev2 ?_
  refine lv_lstore (lv' := [(4, .long v2), (2, .long (0 : Int64)), (0, .ref (ad o)), (1, .int x1)]) hx hb dX4_touchedIn_11 hl (by decide) rfl (fun ls hl => ?_)
  refine lv_lload hx hb dX4_touchedIn_13 (lv_at hl 0 rfl) ?_
  refine nm_calli (nm_runS (X := X) (nl := nl) (k_J13_bitCount_95d88 hL hN (hf := (rfl : f_J13_bitCount_95d88 v2 = _))) hx hb hml hown hts hs0 hK hZ hH tw_611 tw_609 tw_610 tw_17 hd_J13_bitCount_95d88 rfl rfl ⟨Nat.le_trans (Nat.le_of_ble_eq_true rfl) hRf, Nat.le_trans (Nat.le_of_ble_eq_true rfl) hRl⟩ rfl hl.1 rfl (Nat.le_of_ble_eq_true rfl) dX4_touchedIn_15 ⟨Nat.zero_le _, Nat.zero_le _⟩) hH (fun H locs hH => ?_)
  have hH : nm_H D Y (fun q => s0 ≤ q) s.heap X nl ad (M.1, M.2, N, K) H locs := hH
  obtain ⟨v3, ev3, hf⟩ := nm_let hf
  refine nm_topi ev3 ?_
  refine lv_istore (lv' := [(6, .int v3), (4, .long v2), (2, .long (0 : Int64)), (0, .ref (ad o)), (1, .int x1)]) hx hb dX4_touchedIn_18 hl (by decide) rfl (fun ls hl => ?_)
  refine lv_iconst (v := 0) hx hb dX4_touchedIn_20 (by decide) ?_
  refine lv_istore (lv' := [(7, .int (0 : Int32)), (6, .int v3), (4, .long v2), (2, .long (0 : Int64)), (0, .ref (ad o)), (1, .int x1)]) hx hb dX4_touchedIn_21 hl (by decide) rfl (fun ls hl => ?_)
  have hL23 : ∀ (n23 : Nat) (x2 : Int64) (x4 : Int64) (x7 : Int32) (H : Heap) (locs : List Loc) (ls : Array Slot) (o23 : Int64), nm_H D Y (fun q => s0 ≤ q) s.heap X nl ad (M.1, M.2, N, K) H locs → lv_has ls 9 [(0, .ref (ad o)), (1, .int x1), (2, .long x2), (4, .long x4), (6, .int v3), (7, .int x7)] → f_X4_touchedIn_L23 o N x1 v3 M n23 x2 x4 x7 = some o23 → (∀ (H : Heap) (locs : List Loc) (ls : Array Slot), nm_H D Y (fun q => s0 ≤ q) s.heap X nl ad (M.1, M.2, N, K) H locs → lv_has ls 9 [(2, .long o23)] → W p l e R s m args below meth c H locs 0 0 Q (F0 m 93 ls [])) → W p l e R s m args below meth c H locs 0 0 Q (F0 m 23 ls []) := by
    intro n23
    induction n23 with
    | zero =>
      intro x2 x4 x7 H locs ls o23 hH hl hf hX23
      cases hf
    | succ n23 ih23 =>
      intro x2 x4 x7 H locs ls o23 hH hl hf hX23
      rw [f_X4_touchedIn_L23] at hf
      refine lv_iload hx hb dX4_touchedIn_23 (lv_at hl 5 rfl) ?_
      refine lv_iload hx hb dX4_touchedIn_25 (lv_at hl 4 rfl) ?_
      refine lv_icmp_ge (tgt := 93) hx hb dX4_touchedIn_27 (by decide) (fun c4 => ?_) (fun c4 => ?_)
      · have hf := nm_it c4 hf
        cases hf
        exact hX23 _ _ _ hH (lv_sub hl [2] rfl)
      · have hf := nm_ie c4 hf
        refine lv_lload hx hb dX4_touchedIn_30 (lv_at hl 3 rfl) ?_
        refine nm_calli (nm_runS (X := X) (nl := nl) (k_X0_lowest hL hN (hf := (rfl : f_X0_lowest x4 = _))) hx hb hml hown hts hs0 hK hZ hH tw_625 tw_623 tw_624 tw_13 hd_X0_lowest rfl rfl ⟨Nat.le_trans (Nat.le_of_ble_eq_true rfl) hRf, Nat.le_trans (Nat.le_of_ble_eq_true rfl) hRl⟩ rfl hl.1 rfl (Nat.le_of_ble_eq_true rfl) dX4_touchedIn_32 ⟨Nat.zero_le _, Nat.zero_le _⟩) hH (fun H locs hH => ?_)
        have hH : nm_H D Y (fun q => s0 ≤ q) s.heap X nl ad (M.1, M.2, N, K) H locs := hH
        obtain ⟨v5, ev5, hf⟩ := nm_let hf
        refine nm_topi ev5 ?_
        refine lv_istore (lv' := [(8, .int v5), (0, .ref (ad o)), (1, .int x1), (2, .long x2), (4, .long x4), (6, .int v3), (7, .int x7)]) hx hb dX4_touchedIn_35 hl (by decide) rfl (fun ls hl => ?_)
        refine lv_aload_n hx hb dX4_touchedIn_37 rfl (lv_at hl 1 rfl) ?_
        refine gf_4_8 hK hx hb hts hown hH (cl_no0 hL ho) (cl_ko0 hL ho) (hts _ tw_58) (fun _ h9 => h9) dX4_touchedIn_38 ?_
        refine lv_aload_n hx hb dX4_touchedIn_41 rfl (lv_at hl 1 rfl) ?_
        refine gf_4_6 hK hx hb hts hown hH (cl_no0 hL ho) (cl_ko0 hL ho) (hts _ tw_56) (fun _ h9 => h9) dX4_touchedIn_42 ?_
        refine lv_aload_n hx hb dX4_touchedIn_45 rfl (lv_at hl 1 rfl) ?_
        refine gf_4_5 hK hx hb hts hown hH (cl_no0 hL ho) (cl_ko0 hL ho) (hts _ tw_55) (fun _ h9 => h9) dX4_touchedIn_46 ?_
        refine lv_iload_n hx hb dX4_touchedIn_49 rfl (lv_at hl 2 rfl) ?_
        obtain ⟨hi6, hf⟩ := nm_chk hf
        refine nm_iald hx hb hK hH (cl_no5 hL ho) (cl_ko5 hL ho) rfl hi6 dX4_touchedIn_50 ?_
        refine lv_iload hx hb dX4_touchedIn_51 (lv_at hl 6 rfl) ?_
        refine lv_iadd hx hb dX4_touchedIn_53 ?_
        obtain ⟨hi7, hf⟩ := nm_chk hf
        refine nm_iald hx hb hK hH (cl_no6 hL ho) (cl_ko6 hL ho) rfl hi7 dX4_touchedIn_54 ?_
        obtain ⟨hi8, hf⟩ := nm_chk hf
        refine nm_iald hx hb hK hH (cl_no7 hL ho) (cl_ko7 hL ho) rfl hi8 dX4_touchedIn_55 ?_
        have hJ78 : ∀ (x2 : Int64) (H : Heap) (locs : List Loc) (ls : Array Slot), nm_H D Y (fun q => s0 ≤ q) s.heap X nl ad (M.1, M.2, N, K) H locs → lv_has ls 9 [(0, .ref (ad o)), (1, .int x1), (2, .long x2), (4, .long x4), (6, .int v3), (7, .int x7)] → f_X4_touchedIn_J78 o N x2 x4 x7 M (f_X4_touchedIn_L23 o N x1 v3 M n23) = some o23 → W p l e R s m args below meth c H locs 0 0 Q (F0 m 78 ls []) := by
          intro x2 H locs ls hH hl hf
          unfold f_X4_touchedIn_J78 at hf
          refine lv_lload hx hb dX4_touchedIn_78 (lv_at hl 3 rfl) ?_
          refine lv_lload hx hb dX4_touchedIn_80 (lv_at hl 3 rfl) ?_
          refine lv_lconst (v := 1) hx hb dX4_touchedIn_82 (by decide) ?_
          refine lv_lsub hx hb dX4_touchedIn_83 ?_
          refine lv_land hx hb dX4_touchedIn_84 ?_
          obtain ⟨v9, ev9, hf⟩ := nm_let hf
          refine nm_topl ev9 ?_
          refine lv_lstore (lv' := [(4, .long v9), (0, .ref (ad o)), (1, .int x1), (2, .long x2), (6, .int v3), (7, .int x7)]) hx hb dX4_touchedIn_85 hl (by decide) rfl (fun ls hl => ?_)
          refine lv_iinc (v := x7 + 1) (lv' := [(7, .int (x7 + 1)), (4, .long v9), (0, .ref (ad o)), (1, .int x1), (2, .long x2), (6, .int v3)]) hx hb dX4_touchedIn_87 hl (k := 5) rfl rfl (by decide) rfl (fun ls hl => ?_)
          refine lv_goto (tgt := 23) hx hb dX4_touchedIn_90 (by decide) ?_
          exact ih23 x2 v9 (x7 + 1) _ _ _ _ hH (lv_sub hl [2, 3, 4, 1, 5, 0] rfl) hf hX23
        refine lv_if_eq (tgt := 78) hx hb dX4_touchedIn_56 (by decide) (fun c10 => ?_) (fun c10 => ?_)
        · have hf := nm_it c10 hf
          exact hJ78 x2 _ _ _ hH (lv_sub hl [1, 2, 3, 4, 5, 6] rfl) hf
        · have hf := nm_ie c10 hf
          refine lv_lload_n hx hb dX4_touchedIn_59 rfl (lv_at hl 3 rfl) ?_
          refine lv_iload hx hb dX4_touchedIn_60 (lv_at hl 0 rfl) ?_
          refine lv_aload_n hx hb dX4_touchedIn_62 rfl (lv_at hl 1 rfl) ?_
          refine gf_4_0 hK hx hb hts hown hH (cl_no0 hL ho) (cl_ko0 hL ho) (hts _ tw_40) (fun _ h9 => h9) dX4_touchedIn_63 ?_
          refine lv_iload_n hx hb dX4_touchedIn_66 rfl (lv_at hl 2 rfl) ?_
          obtain ⟨hi11, hf⟩ := nm_chk hf
          refine nm_lald hx hb hK hH (cl_no1 hL ho) (cl_ko1 hL ho) rfl hi11 dX4_touchedIn_67 ?_
          refine lv_iload hx hb dX4_touchedIn_68 (lv_at hl 0 rfl) ?_
          refine nm_calli (nm_runS (X := X) (nl := nl) (k_X0_stretch hL hN (hf := (rfl : f_X0_stretch (M.2 (o + 1) x1.toNatClampNeg) v5 = _))) hx hb hml hown hts hs0 hK hZ hH tw_649 tw_647 tw_648 tw_13 hd_X0_stretch rfl rfl ⟨Nat.le_trans (Nat.le_of_ble_eq_true rfl) hRf, Nat.le_trans (Nat.le_of_ble_eq_true rfl) hRl⟩ rfl hl.1 rfl (Nat.le_of_ble_eq_true rfl) dX4_touchedIn_70 ⟨Nat.zero_le _, Nat.zero_le _⟩) hH (fun H locs hH => ?_)
          have hH : nm_H D Y (fun q => s0 ≤ q) s.heap X nl ad (M.1, M.2, N, K) H locs := hH
          refine nm_calll (nm_runS (X := X) (nl := nl) (k_X0_span hL hN (hf := (rfl : f_X0_span v5 (f_X0_stretch (M.2 (o + 1) x1.toNatClampNeg) v5) = _))) hx hb hml hown hts hs0 hK hZ hH tw_378 tw_663 tw_377 tw_13 hd_X0_span rfl rfl ⟨Nat.le_trans (Nat.le_of_ble_eq_true rfl) hRf, Nat.le_trans (Nat.le_of_ble_eq_true rfl) hRl⟩ rfl hl.1 rfl (Nat.le_of_ble_eq_true rfl) dX4_touchedIn_73 ⟨Nat.zero_le _, Nat.zero_le _⟩) hH (fun H locs hH => ?_)
          have hH : nm_H D Y (fun q => s0 ≤ q) s.heap X nl ad (M.1, M.2, N, K) H locs := hH
          refine lv_lor hx hb dX4_touchedIn_76 ?_
          obtain ⟨v12, ev12, hf⟩ := nm_let hf
          refine nm_topl ev12 ?_
          refine lv_lstore_n (lv' := [(2, .long v12), (8, .int v5), (0, .ref (ad o)), (1, .int x1), (4, .long x4), (6, .int v3), (7, .int x7)]) hx hb dX4_touchedIn_77 rfl hl (by decide) rfl (fun ls hl => ?_)
          exact hJ78 v12 _ _ _ hH (lv_sub hl [2, 3, 0, 4, 5, 6] rfl) hf
  obtain ⟨y13, hl14, hf⟩ := nm_sd1 hf
  refine hL23 nm_F (0 : Int64) v2 (0 : Int32) _ _ _ _ hH (lv_sub hl [4, 5, 3, 2, 1, 0] rfl) hl14 (fun H locs ls hH hl => ?_)
  have hl : lv_has ls 9 [(2, .long y13)] := hl
  have hH : nm_H D Y (fun q => s0 ≤ q) s.heap X nl ad (M.1, M.2, N, K) H locs := hH
  refine lv_lload_n hx hb dX4_touchedIn_93 rfl (lv_at hl 0 rfl) ?_
  exact nm_lret hx hb hr hlocks hQ hH (Option.some.inj hf) rfl dX4_touchedIn_94
def f_X5_pack (x0 : Int32) (x1 : Int32) (x2 : Int32) : Int32 :=
(((x0 <<< ((12 : Int32) &&& 31)) ||| x1) <<< ((10 : Int32) &&& 31)) ||| x2
set_option maxHeartbeats 4000000 in
set_option maxRecDepth 100000 in
theorem k_X5_pack {l : Launch} {D : va_G} {Y : nm_Y} {s0 : Nat} {X : va_W} {ad : Nat → Nat} {nl : List Nat} {N K : Nat → Nat} (hL : cl_L nl K) (hN : cl_N N) {x0 : Int32} {x1 : Int32} {x2 : Int32} {M : cm} {r0 : Int32} (hf : f_X5_pack x0 x1 x2 = r0) :
    nm_Met l yX5_pack cX5_pack 3 (some .int) { frames := 0, cells := 0, slots := 0, locals := 0 } [.int x0, .int x1, .int x2] D Y s0 (nm_W Y X nl ad (M.1, M.2, N, K)) (nm_Qi D s0 r0 (nm_W Y X nl ad (M.1, M.2, N, K))) 0 0 := by
  refine nm_of (by decide) (Nat.le_of_ble_eq_true rfl) ?_
  intro p e R s m args below meth c Q ls hx hb hr hlocks hml hown hts hs0 hK hZ hRf hRl hRc hRs hQ hP hD hl
  have hH : nm_H D Y (fun q => s0 ≤ q) s.heap X nl ad (M.1, M.2, N, K) s.heap [] := ⟨hP, hD, va_S.rf⟩
  have hl : lv_has ls 3 [(0, .int x0), (1, .int x1), (2, .int x2)] := hl
  unfold f_X5_pack at hf
  refine lv_iload_n hx hb dX5_pack_0 rfl (lv_at hl 0 rfl) ?_
  refine lv_bipush (v := 12) hx hb dX5_pack_1 (by decide) ?_
  refine lv_ishl hx hb dX5_pack_3 ?_
  refine lv_iload_n hx hb dX5_pack_4 rfl (lv_at hl 1 rfl) ?_
  refine lv_ior hx hb dX5_pack_5 ?_
  refine lv_bipush (v := 10) hx hb dX5_pack_6 (by decide) ?_
  refine lv_ishl hx hb dX5_pack_8 ?_
  refine lv_iload_n hx hb dX5_pack_9 rfl (lv_at hl 2 rfl) ?_
  refine lv_ior hx hb dX5_pack_10 ?_
  exact nm_iret hx hb hr hlocks hQ hH hf rfl dX5_pack_11
def f_X5_layerOf (x0 : Int32) : Int32 :=
nm_iushr x0 (22 : Int32)
set_option maxHeartbeats 4000000 in
set_option maxRecDepth 100000 in
theorem k_X5_layerOf {l : Launch} {D : va_G} {Y : nm_Y} {s0 : Nat} {X : va_W} {ad : Nat → Nat} {nl : List Nat} {N K : Nat → Nat} (hL : cl_L nl K) (hN : cl_N N) {x0 : Int32} {M : cm} {r0 : Int32} (hf : f_X5_layerOf x0 = r0) :
    nm_Met l yX5_layerOf cX5_layerOf 1 (some .int) { frames := 0, cells := 0, slots := 0, locals := 0 } [.int x0] D Y s0 (nm_W Y X nl ad (M.1, M.2, N, K)) (nm_Qi D s0 r0 (nm_W Y X nl ad (M.1, M.2, N, K))) 0 0 := by
  refine nm_of (by decide) (Nat.le_of_ble_eq_true rfl) ?_
  intro p e R s m args below meth c Q ls hx hb hr hlocks hml hown hts hs0 hK hZ hRf hRl hRc hRs hQ hP hD hl
  have hH : nm_H D Y (fun q => s0 ≤ q) s.heap X nl ad (M.1, M.2, N, K) s.heap [] := ⟨hP, hD, va_S.rf⟩
  have hl : lv_has ls 1 [(0, .int x0)] := hl
  unfold f_X5_layerOf at hf
  refine lv_iload_n hx hb dX5_layerOf_0 rfl (lv_at hl 0 rfl) ?_
  refine lv_bipush (v := 22) hx hb dX5_layerOf_1 (by decide) ?_
  refine lv_iushr (v := nm_iushr x0 (22 : Int32)) hx hb dX5_layerOf_3 rfl ?_
  exact nm_iret hx hb hr hlocks hQ hH hf rfl dX5_layerOf_4
def f_X5_squareOf (x0 : Int32) : Int32 :=
(nm_iushr x0 (10 : Int32)) &&& (4095 : Int32)
set_option maxHeartbeats 4000000 in
set_option maxRecDepth 100000 in
theorem k_X5_squareOf {l : Launch} {D : va_G} {Y : nm_Y} {s0 : Nat} {X : va_W} {ad : Nat → Nat} {nl : List Nat} {N K : Nat → Nat} (hL : cl_L nl K) (hN : cl_N N) {x0 : Int32} {M : cm} {r0 : Int32} (hf : f_X5_squareOf x0 = r0) :
    nm_Met l yX5_squareOf cX5_squareOf 1 (some .int) { frames := 0, cells := 0, slots := 0, locals := 0 } [.int x0] D Y s0 (nm_W Y X nl ad (M.1, M.2, N, K)) (nm_Qi D s0 r0 (nm_W Y X nl ad (M.1, M.2, N, K))) 0 0 := by
  refine nm_of (by decide) (Nat.le_of_ble_eq_true rfl) ?_
  intro p e R s m args below meth c Q ls hx hb hr hlocks hml hown hts hs0 hK hZ hRf hRl hRc hRs hQ hP hD hl
  have hH : nm_H D Y (fun q => s0 ≤ q) s.heap X nl ad (M.1, M.2, N, K) s.heap [] := ⟨hP, hD, va_S.rf⟩
  have hl : lv_has ls 1 [(0, .int x0)] := hl
  unfold f_X5_squareOf at hf
  refine lv_iload_n hx hb dX5_squareOf_0 rfl (lv_at hl 0 rfl) ?_
  refine lv_bipush (v := 10) hx hb dX5_squareOf_1 (by decide) ?_
  refine lv_iushr (v := nm_iushr x0 (10 : Int32)) hx hb dX5_squareOf_3 rfl ?_
  refine lv_sipush (v := 4095) hx hb dX5_squareOf_4 (by decide) ?_
  refine lv_iand hx hb dX5_squareOf_7 ?_
  exact nm_iret hx hb hr hlocks hQ hH hf rfl dX5_squareOf_8
def f_X5_nameOf (x0 : Int32) : Int32 :=
x0 &&& (1023 : Int32)
set_option maxHeartbeats 4000000 in
set_option maxRecDepth 100000 in
theorem k_X5_nameOf {l : Launch} {D : va_G} {Y : nm_Y} {s0 : Nat} {X : va_W} {ad : Nat → Nat} {nl : List Nat} {N K : Nat → Nat} (hL : cl_L nl K) (hN : cl_N N) {x0 : Int32} {M : cm} {r0 : Int32} (hf : f_X5_nameOf x0 = r0) :
    nm_Met l yX5_nameOf cX5_nameOf 1 (some .int) { frames := 0, cells := 0, slots := 0, locals := 0 } [.int x0] D Y s0 (nm_W Y X nl ad (M.1, M.2, N, K)) (nm_Qi D s0 r0 (nm_W Y X nl ad (M.1, M.2, N, K))) 0 0 := by
  refine nm_of (by decide) (Nat.le_of_ble_eq_true rfl) ?_
  intro p e R s m args below meth c Q ls hx hb hr hlocks hml hown hts hs0 hK hZ hRf hRl hRc hRs hQ hP hD hl
  have hH : nm_H D Y (fun q => s0 ≤ q) s.heap X nl ad (M.1, M.2, N, K) s.heap [] := ⟨hP, hD, va_S.rf⟩
  have hl : lv_has ls 1 [(0, .int x0)] := hl
  unfold f_X5_nameOf at hf
  refine lv_iload_n hx hb dX5_nameOf_0 rfl (lv_at hl 0 rfl) ?_
  refine lv_sipush (v := 1023) hx hb dX5_nameOf_1 (by decide) ?_
  refine lv_iand hx hb dX5_nameOf_4 ?_
  exact nm_iret hx hb hr hlocks hQ hH hf rfl dX5_nameOf_5
def f_X7_canBeTold (x0 : Int32) : Int32 :=
nm_l (x0 / (200 : Int32)) fun v1 =>
nm_l ((x0 - x0 / (200 : Int32) * (200 : Int32)) - (100 : Int32)) fun v2 =>
(if v1 < (1 : Int32) then
(0 : Int32)
else
(if (4 : Int32) < v1 then
(0 : Int32)
else
(if v2 < (-63 : Int32) then
(0 : Int32)
else
(if (63 : Int32) < v2 then
(0 : Int32)
else
(1 : Int32)))))
set_option maxHeartbeats 4000000 in
set_option maxRecDepth 100000 in
theorem k_X7_canBeTold {l : Launch} {D : va_G} {Y : nm_Y} {s0 : Nat} {X : va_W} {ad : Nat → Nat} {nl : List Nat} {N K : Nat → Nat} (hL : cl_L nl K) (hN : cl_N N) {x0 : Int32} {M : cm} {r0 : Int32} (hf : f_X7_canBeTold x0 = r0) :
    nm_Met l yX7_canBeTold cX7_canBeTold 3 (some .boolean) { frames := 0, cells := 0, slots := 0, locals := 0 } [.int x0] D Y s0 (nm_W Y X nl ad (M.1, M.2, N, K)) (nm_Qi D s0 r0 (nm_W Y X nl ad (M.1, M.2, N, K))) 0 0 := by
  refine nm_of (by decide) (Nat.le_of_ble_eq_true rfl) ?_
  intro p e R s m args below meth c Q ls hx hb hr hlocks hml hown hts hs0 hK hZ hRf hRl hRc hRs hQ hP hD hl
  have hH : nm_H D Y (fun q => s0 ≤ q) s.heap X nl ad (M.1, M.2, N, K) s.heap [] := ⟨hP, hD, va_S.rf⟩
  have hl : lv_has ls 3 [(0, .int x0)] := hl
  unfold f_X7_canBeTold at hf
  refine lv_iload_n hx hb dX7_canBeTold_0 rfl (lv_at hl 0 rfl) ?_
  refine lv_sipush (v := 200) hx hb dX7_canBeTold_1 (by decide) ?_
  refine lv_idiv hx hb dX7_canBeTold_4 (by decide) ?_
  obtain ⟨v1, ev1, hf⟩ := nm_let hf
  refine nm_topi ev1 ?_
  refine lv_istore_n (lv' := [(1, .int v1), (0, .int x0)]) hx hb dX7_canBeTold_5 rfl hl (by decide) rfl (fun ls hl => ?_)
  refine lv_iload_n hx hb dX7_canBeTold_6 rfl (lv_at hl 1 rfl) ?_
  refine lv_sipush (v := 200) hx hb dX7_canBeTold_7 (by decide) ?_
  refine lv_irem hx hb dX7_canBeTold_10 (by decide) ?_
  refine lv_bipush (v := 100) hx hb dX7_canBeTold_11 (by decide) ?_
  refine lv_isub hx hb dX7_canBeTold_13 ?_
  obtain ⟨v2, ev2, hf⟩ := nm_let hf
  refine nm_topi ev2 ?_
  refine lv_istore_n (lv' := [(2, .int v2), (1, .int v1), (0, .int x0)]) hx hb dX7_canBeTold_14 rfl hl (by decide) rfl (fun ls hl => ?_)
  refine lv_iload_n hx hb dX7_canBeTold_15 rfl (lv_at hl 1 rfl) ?_
  refine lv_iconst (v := 1) hx hb dX7_canBeTold_16 (by decide) ?_
  refine lv_icmp_lt (tgt := 41) hx hb dX7_canBeTold_17 (by decide) (fun c3 => ?_) (fun c3 => ?_)
  · have hf := nm_it c3 hf
    refine lv_iconst (v := 0) hx hb dX7_canBeTold_41 (by decide) ?_
    exact nm_zret hx hb hr hlocks hQ hH rfl hf rfl dX7_canBeTold_42
  · have hf := nm_ie c3 hf
    refine lv_iload_n hx hb dX7_canBeTold_20 rfl (lv_at hl 1 rfl) ?_
    refine lv_iconst (v := 4) hx hb dX7_canBeTold_21 (by decide) ?_
    refine lv_icmp_gt (tgt := 41) hx hb dX7_canBeTold_22 (by decide) (fun c4 => ?_) (fun c4 => ?_)
    · have hf := nm_it c4 hf
      refine lv_iconst (v := 0) hx hb dX7_canBeTold_41 (by decide) ?_
      exact nm_zret hx hb hr hlocks hQ hH rfl hf rfl dX7_canBeTold_42
    · have hf := nm_ie c4 hf
      refine lv_iload_n hx hb dX7_canBeTold_25 rfl (lv_at hl 0 rfl) ?_
      refine lv_bipush (v := -63) hx hb dX7_canBeTold_26 (by decide) ?_
      refine lv_icmp_lt (tgt := 41) hx hb dX7_canBeTold_28 (by decide) (fun c5 => ?_) (fun c5 => ?_)
      · have hf := nm_it c5 hf
        refine lv_iconst (v := 0) hx hb dX7_canBeTold_41 (by decide) ?_
        exact nm_zret hx hb hr hlocks hQ hH rfl hf rfl dX7_canBeTold_42
      · have hf := nm_ie c5 hf
        refine lv_iload_n hx hb dX7_canBeTold_31 rfl (lv_at hl 0 rfl) ?_
        refine lv_bipush (v := 63) hx hb dX7_canBeTold_32 (by decide) ?_
        refine lv_icmp_gt (tgt := 41) hx hb dX7_canBeTold_34 (by decide) (fun c6 => ?_) (fun c6 => ?_)
        · have hf := nm_it c6 hf
          refine lv_iconst (v := 0) hx hb dX7_canBeTold_41 (by decide) ?_
          exact nm_zret hx hb hr hlocks hQ hH rfl hf rfl dX7_canBeTold_42
        · have hf := nm_ie c6 hf
          refine lv_iconst (v := 1) hx hb dX7_canBeTold_37 (by decide) ?_
          refine lv_goto (tgt := 42) hx hb dX7_canBeTold_38 (by decide) ?_
          exact nm_zret hx hb hr hlocks hQ hH rfl hf rfl dX7_canBeTold_42
def f_X7_xOf (pz : Nat) (x1 : Int32) (M : cm) : Int32 :=
((M.1 pz 2) - (M.1 pz 2) / (64 : Int32) * (64 : Int32)) + (x1 * (M.1 pz 5))
set_option maxHeartbeats 4000000 in
set_option maxRecDepth 100000 in
theorem k_X7_xOf {l : Launch} {D : va_G} {Y : nm_Y} {s0 : Nat} {X : va_W} {ad : Nat → Nat} {nl : List Nat} {N K : Nat → Nat} (hL : cl_L nl K) (hN : cl_N N) {pz : Nat} (hp : pz ∈ nl) (hkp : K pz = 7) {x1 : Int32} {M : cm} {r0 : Int32} (hf : f_X7_xOf pz x1 M = r0) :
    nm_Met l yX7_xOf cX7_xOf 2 (some .int) { frames := 0, cells := 0, slots := 0, locals := 0 } [.ref (ad pz), .int x1] D Y s0 (nm_W Y X nl ad (M.1, M.2, N, K)) (nm_Qi D s0 r0 (nm_W Y X nl ad (M.1, M.2, N, K))) 0 0 := by
  refine nm_of (by decide) (Nat.le_of_ble_eq_true rfl) ?_
  intro p e R s m args below meth c Q ls hx hb hr hlocks hml hown hts hs0 hK hZ hRf hRl hRc hRs hQ hP hD hl
  have hH : nm_H D Y (fun q => s0 ≤ q) s.heap X nl ad (M.1, M.2, N, K) s.heap [] := ⟨hP, hD, va_S.rf⟩
  have hl : lv_has ls 2 [(0, .ref (ad pz)), (1, .int x1)] := hl
  unfold f_X7_xOf at hf
  refine lv_aload_n hx hb dX7_xOf_0 rfl (lv_at hl 0 rfl) ?_
  refine gf_7_2 hK hx hb hts hown hH hp hkp (hts _ tw_350) (u_same (hts _ tw_351)) dX7_xOf_1 ?_
  refine lv_bipush (v := 64) hx hb dX7_xOf_4 (by decide) ?_
  refine lv_irem hx hb dX7_xOf_6 (by decide) ?_
  refine lv_iload_n hx hb dX7_xOf_7 rfl (lv_at hl 1 rfl) ?_
  refine lv_aload_n hx hb dX7_xOf_8 rfl (lv_at hl 0 rfl) ?_
  refine gf_7_5 hK hx hb hts hown hH hp hkp (hts _ tw_431) (fun _ h9 => h9) dX7_xOf_9 ?_
  refine lv_imul hx hb dX7_xOf_12 ?_
  refine lv_iadd hx hb dX7_xOf_13 ?_
  exact nm_iret hx hb hr hlocks hQ hH hf rfl dX7_xOf_14
def f_X7_yOf (pz : Nat) (x1 : Int32) (M : cm) : Int32 :=
((M.1 pz 2) / (64 : Int32)) + (x1 * (M.1 pz 6))
set_option maxHeartbeats 4000000 in
set_option maxRecDepth 100000 in
theorem k_X7_yOf {l : Launch} {D : va_G} {Y : nm_Y} {s0 : Nat} {X : va_W} {ad : Nat → Nat} {nl : List Nat} {N K : Nat → Nat} (hL : cl_L nl K) (hN : cl_N N) {pz : Nat} (hp : pz ∈ nl) (hkp : K pz = 7) {x1 : Int32} {M : cm} {r0 : Int32} (hf : f_X7_yOf pz x1 M = r0) :
    nm_Met l yX7_yOf cX7_yOf 2 (some .int) { frames := 0, cells := 0, slots := 0, locals := 0 } [.ref (ad pz), .int x1] D Y s0 (nm_W Y X nl ad (M.1, M.2, N, K)) (nm_Qi D s0 r0 (nm_W Y X nl ad (M.1, M.2, N, K))) 0 0 := by
  refine nm_of (by decide) (Nat.le_of_ble_eq_true rfl) ?_
  intro p e R s m args below meth c Q ls hx hb hr hlocks hml hown hts hs0 hK hZ hRf hRl hRc hRs hQ hP hD hl
  have hH : nm_H D Y (fun q => s0 ≤ q) s.heap X nl ad (M.1, M.2, N, K) s.heap [] := ⟨hP, hD, va_S.rf⟩
  have hl : lv_has ls 2 [(0, .ref (ad pz)), (1, .int x1)] := hl
  unfold f_X7_yOf at hf
  refine lv_aload_n hx hb dX7_yOf_0 rfl (lv_at hl 0 rfl) ?_
  refine gf_7_2 hK hx hb hts hown hH hp hkp (hts _ tw_350) (u_same (hts _ tw_351)) dX7_yOf_1 ?_
  refine lv_bipush (v := 64) hx hb dX7_yOf_4 (by decide) ?_
  refine lv_idiv hx hb dX7_yOf_6 (by decide) ?_
  refine lv_iload_n hx hb dX7_yOf_7 rfl (lv_at hl 1 rfl) ?_
  refine lv_aload_n hx hb dX7_yOf_8 rfl (lv_at hl 0 rfl) ?_
  refine gf_7_6 hK hx hb hts hown hH hp hkp (hts _ tw_432) (fun _ h9 => h9) dX7_yOf_9 ?_
  refine lv_imul hx hb dX7_yOf_12 ?_
  refine lv_iadd hx hb dX7_yOf_13 ?_
  exact nm_iret hx hb hr hlocks hQ hH hf rfl dX7_yOf_14
