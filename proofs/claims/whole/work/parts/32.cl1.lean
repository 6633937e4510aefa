def f_X7_repeat (pz : Nat) (x1 : Int32) (x2 : Int32) (M : cm) : Option (cm) :=
nm_l ((nm_up M.1 pz 7 (x1 / (200 : Int32)), M.2)) fun M1 =>
nm_l ((nm_up M1.1 pz 5 ((x1 - x1 / (200 : Int32) * (200 : Int32)) - (100 : Int32)), M1.2)) fun M2 =>
nm_l ((nm_up M2.1 pz 8 (x2 / (200 : Int32)), M2.2)) fun M3 =>
nm_l ((nm_up M3.1 pz 6 ((x2 - x2 / (200 : Int32) * (200 : Int32)) - (100 : Int32)), M3.2)) fun M4 =>
some M4
set_option maxHeartbeats 4000000 in
set_option maxRecDepth 100000 in
theorem k_X7_repeat {l : Launch} {D : va_G} {Y : nm_Y} {s0 : Nat} {X : va_W} {ad : Nat → Nat} {nl : List Nat} {N K : Nat → Nat} (hL : cl_L nl K) (hN : cl_N N) {pz : Nat} (hp : pz ∈ nl) (hkp : K pz = 7) {x1 : Int32} {x2 : Int32} {M : cm} {M0 : cm} (hf : f_X7_repeat pz x1 x2 M = some M0) :
    nm_Met l yX7_repeat cX7_repeat 3 none { frames := 0, cells := 0, slots := 0, locals := 0 } [.ref (ad pz), .int x1, .int x2] D Y s0 (nm_W Y X nl ad (M.1, M.2, N, K)) (nm_Qv D s0 (nm_W Y X nl ad (M0.1, M0.2, N, K))) 0 0 := by
  refine nm_of (by decide) (Nat.le_of_ble_eq_true rfl) ?_
  intro p e R s m args below meth c Q ls hx hb hr hlocks hml hown hts hs0 hK hZ hRf hRl hRc hRs hQ hP hD hl
  have hH : nm_H D Y (fun q => s0 ≤ q) s.heap X nl ad (M.1, M.2, N, K) s.heap [] := ⟨hP, hD, va_S.rf⟩
  have hl : lv_has ls 3 [(0, .ref (ad pz)), (1, .int x1), (2, .int x2)] := hl
  unfold f_X7_repeat at hf
  refine lv_aload_n hx hb dX7_repeat_0 rfl (lv_at hl 0 rfl) ?_
  refine lv_iload_n hx hb dX7_repeat_1 rfl (lv_at hl 1 rfl) ?_
  refine lv_sipush (v := 200) hx hb dX7_repeat_2 (by decide) ?_
  refine lv_idiv hx hb dX7_repeat_5 (by decide) ?_
  obtain ⟨M1, eM1, hf⟩ := nm_let hf
  refine pf_7_7 hK hx hb hts hown hH hp hkp (hts _ tw_433) (fun _ h9 => h9) dX7_repeat_6 (fun H locs hH => ?_)
  have hH : nm_H D Y (fun q => s0 ≤ q) s.heap X nl ad (M1.1, M1.2, N, K) H locs := by rw [eM1]; exact hH
  refine lv_aload_n hx hb dX7_repeat_9 rfl (lv_at hl 0 rfl) ?_
  refine lv_iload_n hx hb dX7_repeat_10 rfl (lv_at hl 1 rfl) ?_
  refine lv_sipush (v := 200) hx hb dX7_repeat_11 (by decide) ?_
  refine lv_irem hx hb dX7_repeat_14 (by decide) ?_
  refine lv_bipush (v := 100) hx hb dX7_repeat_15 (by decide) ?_
  refine lv_isub hx hb dX7_repeat_17 ?_
  obtain ⟨M2, eM2, hf⟩ := nm_let hf
  refine pf_7_5 hK hx hb hts hown hH hp hkp (hts _ tw_431) (fun _ h9 => h9) dX7_repeat_18 (fun H locs hH => ?_)
  have hH : nm_H D Y (fun q => s0 ≤ q) s.heap X nl ad (M2.1, M2.2, N, K) H locs := by rw [eM2]; exact hH
  refine lv_aload_n hx hb dX7_repeat_21 rfl (lv_at hl 0 rfl) ?_
  refine lv_iload_n hx hb dX7_repeat_22 rfl (lv_at hl 2 rfl) ?_
  refine lv_sipush (v := 200) hx hb dX7_repeat_23 (by decide) ?_
  refine lv_idiv hx hb dX7_repeat_26 (by decide) ?_
  obtain ⟨M3, eM3, hf⟩ := nm_let hf
  refine pf_7_8 hK hx hb hts hown hH hp hkp (hts _ tw_435) (fun _ h9 => h9) dX7_repeat_27 (fun H locs hH => ?_)
  have hH : nm_H D Y (fun q => s0 ≤ q) s.heap X nl ad (M3.1, M3.2, N, K) H locs := by rw [eM3]; exact hH
  refine lv_aload_n hx hb dX7_repeat_30 rfl (lv_at hl 0 rfl) ?_
  refine lv_iload_n hx hb dX7_repeat_31 rfl (lv_at hl 2 rfl) ?_
  refine lv_sipush (v := 200) hx hb dX7_repeat_32 (by decide) ?_
  refine lv_irem hx hb dX7_repeat_35 (by decide) ?_
  refine lv_bipush (v := 100) hx hb dX7_repeat_36 (by decide) ?_
  refine lv_isub hx hb dX7_repeat_38 ?_
  obtain ⟨M4, eM4, hf⟩ := nm_let hf
  refine pf_7_6 hK hx hb hts hown hH hp hkp (hts _ tw_432) (fun _ h9 => h9) dX7_repeat_39 (fun H locs hH => ?_)
  have hH : nm_H D Y (fun q => s0 ≤ q) s.heap X nl ad (M4.1, M4.2, N, K) H locs := by rw [eM4]; exact hH
  exact nm_vret hx hb hr hlocks hQ hH (congrArg (fun q => (q.1, q.2, N, K)) (Option.some.inj hf)) dX7_repeat_42
def f_X7_reverseRows_L2  : Nat → Int32 → cm → Option (cm)
  | 0, _, _ => none
  | n2 + 1, x1, M1 =>
    (if (64 : Int32) ≤ x1 then
    some M1
    else
    nm_c x1 64 (
    nm_c x1 64 (
    nm_l ((M1.1, nm_upJ M1.2 3 x1.toNatClampNeg (f_X0_reversed (M1.2 3 x1.toNatClampNeg)))) fun M5 =>
    f_X7_reverseRows_L2 n2 (x1 + 1) M5)))
def f_X7_reverseRows (M : cm) : Option (cm) :=
nm_s1 (f_X7_reverseRows_L2 nm_F (0 : Int32) M) fun M6 =>
some M6
set_option maxHeartbeats 4000000 in
set_option maxRecDepth 100000 in
theorem k_X7_reverseRows {l : Launch} {D : va_G} {Y : nm_Y} {s0 : Nat} {X : va_W} {ad : Nat → Nat} {nl : List Nat} {N K : Nat → Nat} (hL : cl_L nl K) (hN : cl_N N) {M : cm} {M0 : cm} (hf : f_X7_reverseRows M = some M0) :
    nm_Met l yX7_reverseRows cX7_reverseRows 2 none { frames := 1, cells := 0, slots := 0, locals := 23 } [.ref (ad 3)] D Y s0 (nm_W Y X nl ad (M.1, M.2, N, K)) (nm_Qv D s0 (nm_W Y X nl ad (M0.1, M0.2, N, K))) 0 0 := by
  refine nm_of (by decide) (Nat.le_of_ble_eq_true rfl) ?_
  intro p e R s m args below meth c Q ls hx hb hr hlocks hml hown hts hs0 hK hZ hRf hRl hRc hRs hQ hP hD hl
  have hH : nm_H D Y (fun q => s0 ≤ q) s.heap X nl ad (M.1, M.2, N, K) s.heap [] := ⟨hP, hD, va_S.rf⟩
  have hl : lv_has ls 2 [(0, .ref (ad 3))] := hl
  unfold f_X7_reverseRows at hf
  refine lv_iconst (v := 0) hx hb dX7_reverseRows_0 (by decide) ?_
  refine lv_istore_n (lv' := [(1, .int (0 : Int32)), (0, .ref (ad 3))]) hx hb dX7_reverseRows_1 rfl hl (by decide) rfl (fun ls hl => ?_)
  have hL2 : ∀ (n2 : Nat) (x1 : Int32) (M1 : cm) (H : Heap) (locs : List Loc) (ls : Array Slot) (o2 : cm), nm_H D Y (fun q => s0 ≤ q) s.heap X nl ad (M1.1, M1.2, N, K) H locs → lv_has ls 2 [(0, .ref (ad 3)), (1, .int x1)] → f_X7_reverseRows_L2 n2 x1 M1 = some o2 → (∀ (H : Heap) (locs : List Loc) (ls : Array Slot), nm_H D Y (fun q => s0 ≤ q) s.heap X nl ad (o2.1, o2.2, N, K) H locs → lv_has ls 2 [] → W p l e R s m args below meth c H locs 0 0 Q (F0 m 23 ls [])) → W p l e R s m args below meth c H locs 0 0 Q (F0 m 2 ls []) := by
    intro n2
    induction n2 with
    | zero =>
      intro x1 M1 H locs ls o2 hH hl hf hX2
      cases hf
    | succ n2 ih2 =>
      intro x1 M1 H locs ls o2 hH hl hf hX2
      rw [f_X7_reverseRows_L2] at hf
      refine lv_iload_n hx hb dX7_reverseRows_2 rfl (lv_at hl 1 rfl) ?_
      refine lv_bipush (v := 64) hx hb dX7_reverseRows_3 (by decide) ?_
      refine lv_icmp_ge (tgt := 23) hx hb dX7_reverseRows_5 (by decide) (fun c2 => ?_) (fun c2 => ?_)
      · have hf := nm_it c2 hf
        cases hf
        exact hX2 _ _ _ hH (lv_sub hl [] rfl)
      · have hf := nm_ie c2 hf
        refine lv_aload_n hx hb dX7_reverseRows_8 rfl (lv_at hl 0 rfl) ?_
        refine lv_iload_n hx hb dX7_reverseRows_9 rfl (lv_at hl 1 rfl) ?_
        refine lv_aload_n hx hb dX7_reverseRows_10 rfl (lv_at hl 0 rfl) ?_
        refine lv_iload_n hx hb dX7_reverseRows_11 rfl (lv_at hl 1 rfl) ?_
        obtain ⟨hi3, hf⟩ := nm_chk hf
        refine nm_lald hx hb hK hH (cl_n3 hL) (cl_k3 hL) (cl_l3 hN) hi3 dX7_reverseRows_12 ?_
        refine nm_calll (nm_runS (X := X) (nl := nl) (k_X0_reversed hL hN (hf := (rfl : f_X0_reversed (M1.2 3 x1.toNatClampNeg) = _))) hx hb hml hown hts hs0 hK hZ hH tw_531 tw_529 tw_530 tw_13 hd_X0_reversed rfl rfl ⟨Nat.le_trans (Nat.le_of_ble_eq_true rfl) hRf, Nat.le_trans (Nat.le_of_ble_eq_true rfl) hRl⟩ rfl hl.1 rfl (Nat.le_of_ble_eq_true rfl) dX7_reverseRows_13 ⟨Nat.zero_le _, Nat.zero_le _⟩) hH (fun H locs hH => ?_)
        have hH : nm_H D Y (fun q => s0 ≤ q) s.heap X nl ad (M1.1, M1.2, N, K) H locs := hH
        obtain ⟨hi4, hf⟩ := nm_chk hf
        obtain ⟨M5, eM5, hf⟩ := nm_let hf
        refine nm_last hx hb hK hH (cl_n3 hL) (cl_k3 hL) (cl_l3 hN) hi4 dX7_reverseRows_16 (fun H locs hH => ?_)
        have hH : nm_H D Y (fun q => s0 ≤ q) s.heap X nl ad (M5.1, M5.2, N, K) H locs := by rw [eM5]; exact hH
        refine lv_iinc (v := x1 + 1) (lv' := [(1, .int (x1 + 1)), (0, .ref (ad 3))]) hx hb dX7_reverseRows_17 hl (k := 1) rfl rfl (by decide) rfl (fun ls hl => ?_)
        refine lv_goto (tgt := 2) hx hb dX7_reverseRows_20 (by decide) ?_
        exact ih2 (x1 + 1) M5 _ _ _ _ hH (lv_sub hl [1, 0] rfl) hf hX2
  obtain ⟨M6, hl7, hf⟩ := nm_sd1 hf
  refine hL2 nm_F (0 : Int32) M _ _ _ _ hH (lv_sub hl [1, 0] rfl) hl7 (fun H locs ls hH hl => ?_)
  have hl : lv_has ls 2 [] := hl
  have hH : nm_H D Y (fun q => s0 ≤ q) s.heap X nl ad (M6.1, M6.2, N, K) H locs := hH
  exact nm_vret hx hb hr hlocks hQ hH (congrArg (fun q => (q.1, q.2, N, K)) (Option.some.inj hf)) dX7_reverseRows_23
def f_X7_turn_L13 (pz : Nat) (N : Nat → Nat) : Nat → Int32 → cm → Option (cm)
  | 0, _, _ => none
  | n13 + 1, x2, M2 =>
    (if (M2.1 pz 3) ≤ x2 then
    some M2
    else
    nm_s1 (f_X0_transpose 3 N M2) fun M4 =>
    nm_s1 (f_X7_reverseRows M4) fun M6 =>
    f_X7_turn_L13 pz N n13 (x2 + 1) M6)
def f_X7_turn_J11 (pz : Nat) (N : Nat → Nat) (M1 : cm) : Option (cm) :=
nm_s1 (f_X7_turn_L13 pz N nm_F (0 : Int32) M1) fun M8 =>
some M8
def f_X7_turn (pz : Nat) (N : Nat → Nat) (M : cm) : Option (cm) :=
(if (M.1 pz 4) = 0 then
f_X7_turn_J11 pz N M
else
nm_s1 (f_X7_reverseRows M) fun M11 =>
f_X7_turn_J11 pz N M11)
set_option maxHeartbeats 4000000 in
set_option maxRecDepth 100000 in
theorem k_X7_turn {l : Launch} {D : va_G} {Y : nm_Y} {s0 : Nat} {X : va_W} {ad : Nat → Nat} {nl : List Nat} {N K : Nat → Nat} (hL : cl_L nl K) (hN : cl_N N) {pz : Nat} (hp : pz ∈ nl) (hkp : K pz = 7) {M : cm} {M0 : cm} (hf : f_X7_turn pz N M = some M0) :
    nm_Met l yX7_turn cX7_turn 3 none { frames := 2, cells := 0, slots := 0, locals := 44 } [.ref (ad pz), .ref (ad 3)] D Y s0 (nm_W Y X nl ad (M.1, M.2, N, K)) (nm_Qv D s0 (nm_W Y X nl ad (M0.1, M0.2, N, K))) 0 0 := by
  refine nm_of (by decide) (Nat.le_of_ble_eq_true rfl) ?_
  intro p e R s m args below meth c Q ls hx hb hr hlocks hml hown hts hs0 hK hZ hRf hRl hRc hRs hQ hP hD hl
  have hH : nm_H D Y (fun q => s0 ≤ q) s.heap X nl ad (M.1, M.2, N, K) s.heap [] := ⟨hP, hD, va_S.rf⟩
  have hl : lv_has ls 3 [(0, .ref (ad pz)), (1, .ref (ad 3))] := hl
  unfold f_X7_turn at hf
  refine lv_aload_n hx hb dX7_turn_0 rfl (lv_at hl 0 rfl) ?_
  refine gf_7_4 hK hx hb hts hown hH hp hkp (hts _ tw_430) (fun _ h9 => h9) dX7_turn_1 ?_
  have hJ11 : ∀ (M1 : cm) (H : Heap) (locs : List Loc) (ls : Array Slot), nm_H D Y (fun q => s0 ≤ q) s.heap X nl ad (M1.1, M1.2, N, K) H locs → lv_has ls 3 [(0, .ref (ad pz)), (1, .ref (ad 3))] → f_X7_turn_J11 pz N M1 = some M0 → W p l e R s m args below meth c H locs 0 0 Q (F0 m 11 ls []) := by
    intro M1 H locs ls hH hl hf
    unfold f_X7_turn_J11 at hf
    refine lv_iconst (v := 0) hx hb dX7_turn_11 (by decide) ?_
    refine lv_istore_n (lv' := [(2, .int (0 : Int32)), (0, .ref (ad pz)), (1, .ref (ad 3))]) hx hb dX7_turn_12 rfl hl (by decide) rfl (fun ls hl => ?_)
    have hL13 : ∀ (n13 : Nat) (x2 : Int32) (M2 : cm) (H : Heap) (locs : List Loc) (ls : Array Slot) (o13 : cm), nm_H D Y (fun q => s0 ≤ q) s.heap X nl ad (M2.1, M2.2, N, K) H locs → lv_has ls 3 [(0, .ref (ad pz)), (1, .ref (ad 3)), (2, .int x2)] → f_X7_turn_L13 pz N n13 x2 M2 = some o13 → (∀ (H : Heap) (locs : List Loc) (ls : Array Slot), nm_H D Y (fun q => s0 ≤ q) s.heap X nl ad (o13.1, o13.2, N, K) H locs → lv_has ls 3 [] → W p l e R s m args below meth c H locs 0 0 Q (F0 m 35 ls [])) → W p l e R s m args below meth c H locs 0 0 Q (F0 m 13 ls []) := by
      intro n13
      induction n13 with
      | zero =>
        intro x2 M2 H locs ls o13 hH hl hf hX13
        cases hf
      | succ n13 ih13 =>
        intro x2 M2 H locs ls o13 hH hl hf hX13
        rw [f_X7_turn_L13] at hf
        refine lv_iload_n hx hb dX7_turn_13 rfl (lv_at hl 2 rfl) ?_
        refine lv_aload_n hx hb dX7_turn_14 rfl (lv_at hl 0 rfl) ?_
        refine gf_7_3 hK hx hb hts hown hH hp hkp (hts _ tw_429) (fun _ h9 => h9) dX7_turn_15 ?_
        refine lv_icmp_ge (tgt := 35) hx hb dX7_turn_18 (by decide) (fun c3 => ?_) (fun c3 => ?_)
        · have hf := nm_it c3 hf
          cases hf
          exact hX13 _ _ _ hH (lv_sub hl [] rfl)
        · have hf := nm_ie c3 hf
          refine lv_aload_n hx hb dX7_turn_21 rfl (lv_at hl 1 rfl) ?_
          obtain ⟨M4, hc5, hf⟩ := nm_sd1 hf
          refine nm_callv (nm_runS (X := X) (nl := nl) (k_X0_transpose hL hN (cl_n3 hL) (cl_k3 hL) (hf := hc5)) hx hb hml hown hts hs0 hK hZ hH tw_539 tw_537 tw_538 tw_13 hd_X0_transpose rfl rfl ⟨Nat.le_trans (Nat.le_of_ble_eq_true rfl) hRf, Nat.le_trans (Nat.le_of_ble_eq_true rfl) hRl⟩ rfl hl.1 rfl (Nat.le_of_ble_eq_true rfl) dX7_turn_22 ⟨Nat.zero_le _, Nat.zero_le _⟩) hH (fun H locs hH => ?_)
          have hH : nm_H D Y (fun q => s0 ≤ q) s.heap X nl ad (M4.1, M4.2, N, K) H locs := hH
          refine lv_aload_n hx hb dX7_turn_25 rfl (lv_at hl 1 rfl) ?_
          obtain ⟨M6, hc7, hf⟩ := nm_sd1 hf
          refine nm_callv (nm_runS (X := X) (nl := nl) (k_X7_reverseRows hL hN (hf := hc7)) hx hb hml hown hts hs0 hK hZ hH tw_528 tw_526 tw_527 tw_15 hd_X7_reverseRows rfl rfl ⟨Nat.le_trans (Nat.le_of_ble_eq_true rfl) hRf, Nat.le_trans (Nat.le_of_ble_eq_true rfl) hRl⟩ rfl hl.1 rfl (Nat.le_of_ble_eq_true rfl) dX7_turn_26 ⟨Nat.zero_le _, Nat.zero_le _⟩) hH (fun H locs hH => ?_)
          have hH : nm_H D Y (fun q => s0 ≤ q) s.heap X nl ad (M6.1, M6.2, N, K) H locs := hH
          refine lv_iinc (v := x2 + 1) (lv' := [(2, .int (x2 + 1)), (0, .ref (ad pz)), (1, .ref (ad 3))]) hx hb dX7_turn_29 hl (k := 2) rfl rfl (by decide) rfl (fun ls hl => ?_)
          refine lv_goto (tgt := 13) hx hb dX7_turn_32 (by decide) ?_
          exact ih13 (x2 + 1) M6 _ _ _ _ hH (lv_sub hl [1, 2, 0] rfl) hf hX13
    obtain ⟨M8, hl9, hf⟩ := nm_sd1 hf
    refine hL13 nm_F (0 : Int32) M1 _ _ _ _ hH (lv_sub hl [1, 2, 0] rfl) hl9 (fun H locs ls hH hl => ?_)
    have hl : lv_has ls 3 [] := hl
    have hH : nm_H D Y (fun q => s0 ≤ q) s.heap X nl ad (M8.1, M8.2, N, K) H locs := hH
    exact nm_vret hx hb hr hlocks hQ hH (congrArg (fun q => (q.1, q.2, N, K)) (Option.some.inj hf)) dX7_turn_35
  refine lv_if_eq (tgt := 11) hx hb dX7_turn_4 (by decide) (fun c10 => ?_) (fun c10 => ?_)
  · have hf := nm_it c10 hf
    exact hJ11  M _ _ _ hH (lv_sub hl [0, 1] rfl) hf
  · have hf := nm_ie c10 hf
    refine lv_aload_n hx hb dX7_turn_7 rfl (lv_at hl 1 rfl) ?_
    obtain ⟨M11, hc12, hf⟩ := nm_sd1 hf
    refine nm_callv (nm_runS (X := X) (nl := nl) (k_X7_reverseRows hL hN (hf := hc12)) hx hb hml hown hts hs0 hK hZ hH tw_528 tw_526 tw_527 tw_15 hd_X7_reverseRows rfl rfl ⟨Nat.le_trans (Nat.le_of_ble_eq_true rfl) hRf, Nat.le_trans (Nat.le_of_ble_eq_true rfl) hRl⟩ rfl hl.1 rfl (Nat.le_of_ble_eq_true rfl) dX7_turn_8 ⟨Nat.zero_le _, Nat.zero_le _⟩) hH (fun H locs hH => ?_)
    have hH : nm_H D Y (fun q => s0 ≤ q) s.heap X nl ad (M11.1, M11.2, N, K) H locs := hH
    exact hJ11  M11 _ _ _ hH (lv_sub hl [0, 1] rfl) hf
def f_X7_turnedX_J14 (pz : Nat) (x2 : Int32) (t14_0 : Int32) (M : cm) : Int32 :=
(if (M.1 pz 3) = 0 then
t14_0
else
(if (M.1 pz 3) = (1 : Int32) then
(-1 : Int32) - x2
else
(if (M.1 pz 3) = (2 : Int32) then
(-1 : Int32) - t14_0
else
x2)))
def f_X7_turnedX (pz : Nat) (x1 : Int32) (x2 : Int32) (M : cm) : Int32 :=
(if (M.1 pz 4) = 0 then
f_X7_turnedX_J14 pz x2 x1 M
else
f_X7_turnedX_J14 pz x2 ((-1 : Int32) - x1) M)
set_option maxHeartbeats 4000000 in
set_option maxRecDepth 100000 in
theorem k_X7_turnedX {l : Launch} {D : va_G} {Y : nm_Y} {s0 : Nat} {X : va_W} {ad : Nat → Nat} {nl : List Nat} {N K : Nat → Nat} (hL : cl_L nl K) (hN : cl_N N) {pz : Nat} (hp : pz ∈ nl) (hkp : K pz = 7) {x1 : Int32} {x2 : Int32} {M : cm} {r0 : Int32} (hf : f_X7_turnedX pz x1 x2 M = r0) :
    nm_Met l yX7_turnedX cX7_turnedX 4 (some .int) { frames := 0, cells := 0, slots := 0, locals := 0 } [.ref (ad pz), .int x1, .int x2] D Y s0 (nm_W Y X nl ad (M.1, M.2, N, K)) (nm_Qi D s0 r0 (nm_W Y X nl ad (M.1, M.2, N, K))) 0 0 := by
  refine nm_of (by decide) (Nat.le_of_ble_eq_true rfl) ?_
  intro p e R s m args below meth c Q ls hx hb hr hlocks hml hown hts hs0 hK hZ hRf hRl hRc hRs hQ hP hD hl
  have hH : nm_H D Y (fun q => s0 ≤ q) s.heap X nl ad (M.1, M.2, N, K) s.heap [] := ⟨hP, hD, va_S.rf⟩
  have hl : lv_has ls 4 [(0, .ref (ad pz)), (1, .int x1), (2, .int x2)] := hl
  unfold f_X7_turnedX at hf
  refine lv_aload_n hx hb dX7_turnedX_0 rfl (lv_at hl 0 rfl) ?_
  refine gf_7_4 hK hx hb hts hown hH hp hkp (hts _ tw_430) (fun _ h9 => h9) dX7_turnedX_1 ?_
  have hJ14 : ∀ (t14_0 : Int32) (H : Heap) (locs : List Loc) (ls : Array Slot), nm_H D Y (fun q => s0 ≤ q) s.heap X nl ad (M.1, M.2, N, K) H locs → lv_has ls 4 [(0, .ref (ad pz)), (2, .int x2)] → f_X7_turnedX_J14 pz x2 t14_0 M = r0 → W p l e R s m args below meth c H locs 0 0 Q (F0 m 14 ls [.int t14_0]) := by
    intro t14_0 H locs ls hH hl hf
    unfold f_X7_turnedX_J14 at hf
    refine lv_istore_n (lv' := [(3, .int t14_0), (0, .ref (ad pz)), (2, .int x2)]) hx hb dX7_turnedX_14 rfl hl (by decide) rfl (fun ls hl => ?_)
    refine lv_aload_n hx hb dX7_turnedX_15 rfl (lv_at hl 1 rfl) ?_
    refine gf_7_3 hK hx hb hts hown hH hp hkp (hts _ tw_429) (fun _ h9 => h9) dX7_turnedX_16 ?_
    refine lv_if_ne (tgt := 26) hx hb dX7_turnedX_19 (by decide) (fun c1 => ?_) (fun c1 => ?_)
    · have hf := nm_ie c1 hf
      refine lv_aload_n hx hb dX7_turnedX_26 rfl (lv_at hl 1 rfl) ?_
      refine gf_7_3 hK hx hb hts hown hH hp hkp (hts _ tw_429) (fun _ h9 => h9) dX7_turnedX_27 ?_
      refine lv_iconst (v := 1) hx hb dX7_turnedX_30 (by decide) ?_
      refine lv_icmp_ne (tgt := 40) hx hb dX7_turnedX_31 (by decide) (fun c2 => ?_) (fun c2 => ?_)
      · have hf := nm_ie c2 hf
        refine lv_aload_n hx hb dX7_turnedX_40 rfl (lv_at hl 1 rfl) ?_
        refine gf_7_3 hK hx hb hts hown hH hp hkp (hts _ tw_429) (fun _ h9 => h9) dX7_turnedX_41 ?_
        refine lv_iconst (v := 2) hx hb dX7_turnedX_44 (by decide) ?_
        refine lv_icmp_ne (tgt := 54) hx hb dX7_turnedX_45 (by decide) (fun c3 => ?_) (fun c3 => ?_)
        · have hf := nm_ie c3 hf
          refine lv_iload_n hx hb dX7_turnedX_54 rfl (lv_at hl 2 rfl) ?_
          exact nm_iret hx hb hr hlocks hQ hH hf rfl dX7_turnedX_55
        · have hf := nm_it c3 hf
          refine lv_iconst (v := -1) hx hb dX7_turnedX_48 (by decide) ?_
          refine lv_iload_n hx hb dX7_turnedX_49 rfl (lv_at hl 0 rfl) ?_
          refine lv_isub hx hb dX7_turnedX_50 ?_
          refine lv_goto (tgt := 55) hx hb dX7_turnedX_51 (by decide) ?_
          exact nm_iret hx hb hr hlocks hQ hH hf rfl dX7_turnedX_55
      · have hf := nm_it c2 hf
        refine lv_iconst (v := -1) hx hb dX7_turnedX_34 (by decide) ?_
        refine lv_iload_n hx hb dX7_turnedX_35 rfl (lv_at hl 2 rfl) ?_
        refine lv_isub hx hb dX7_turnedX_36 ?_
        refine lv_goto (tgt := 55) hx hb dX7_turnedX_37 (by decide) ?_
        exact nm_iret hx hb hr hlocks hQ hH hf rfl dX7_turnedX_55
    · have hf := nm_it c1 hf
      refine lv_iload_n hx hb dX7_turnedX_22 rfl (lv_at hl 0 rfl) ?_
      refine lv_goto (tgt := 55) hx hb dX7_turnedX_23 (by decide) ?_
      exact nm_iret hx hb hr hlocks hQ hH hf rfl dX7_turnedX_55
  refine lv_if_eq (tgt := 13) hx hb dX7_turnedX_4 (by decide) (fun c4 => ?_) (fun c4 => ?_)
  · have hf := nm_it c4 hf
    refine lv_iload_n hx hb dX7_turnedX_13 rfl (lv_at hl 1 rfl) ?_
    exact hJ14 x1 _ _ _ hH (lv_sub hl [0, 2] rfl) hf
  · have hf := nm_ie c4 hf
    refine lv_iconst (v := -1) hx hb dX7_turnedX_7 (by decide) ?_
    refine lv_iload_n hx hb dX7_turnedX_8 rfl (lv_at hl 1 rfl) ?_
    refine lv_isub hx hb dX7_turnedX_9 ?_
    refine lv_goto (tgt := 14) hx hb dX7_turnedX_10 (by decide) ?_
    exact hJ14 ((-1 : Int32) - x1) _ _ _ hH (lv_sub hl [0, 2] rfl) hf
def f_X7_turnedY_J14 (pz : Nat) (x2 : Int32) (t14_0 : Int32) (M : cm) : Int32 :=
(if (M.1 pz 3) = 0 then
x2
else
(if (M.1 pz 3) = (1 : Int32) then
t14_0
else
(if (M.1 pz 3) = (2 : Int32) then
(-1 : Int32) - x2
else
(-1 : Int32) - t14_0)))
def f_X7_turnedY (pz : Nat) (x1 : Int32) (x2 : Int32) (M : cm) : Int32 :=
(if (M.1 pz 4) = 0 then
f_X7_turnedY_J14 pz x2 x1 M
else
f_X7_turnedY_J14 pz x2 ((-1 : Int32) - x1) M)
set_option maxHeartbeats 4000000 in
set_option maxRecDepth 100000 in
theorem k_X7_turnedY {l : Launch} {D : va_G} {Y : nm_Y} {s0 : Nat} {X : va_W} {ad : Nat → Nat} {nl : List Nat} {N K : Nat → Nat} (hL : cl_L nl K) (hN : cl_N N) {pz : Nat} (hp : pz ∈ nl) (hkp : K pz = 7) {x1 : Int32} {x2 : Int32} {M : cm} {r0 : Int32} (hf : f_X7_turnedY pz x1 x2 M = r0) :
    nm_Met l yX7_turnedY cX7_turnedY 4 (some .int) { frames := 0, cells := 0, slots := 0, locals := 0 } [.ref (ad pz), .int x1, .int x2] D Y s0 (nm_W Y X nl ad (M.1, M.2, N, K)) (nm_Qi D s0 r0 (nm_W Y X nl ad (M.1, M.2, N, K))) 0 0 := by
  refine nm_of (by decide) (Nat.le_of_ble_eq_true rfl) ?_
  intro p e R s m args below meth c Q ls hx hb hr hlocks hml hown hts hs0 hK hZ hRf hRl hRc hRs hQ hP hD hl
  have hH : nm_H D Y (fun q => s0 ≤ q) s.heap X nl ad (M.1, M.2, N, K) s.heap [] := ⟨hP, hD, va_S.rf⟩
  have hl : lv_has ls 4 [(0, .ref (ad pz)), (1, .int x1), (2, .int x2)] := hl
  unfold f_X7_turnedY at hf
  refine lv_aload_n hx hb dX7_turnedY_0 rfl (lv_at hl 0 rfl) ?_
  refine gf_7_4 hK hx hb hts hown hH hp hkp (hts _ tw_430) (fun _ h9 => h9) dX7_turnedY_1 ?_
  have hJ14 : ∀ (t14_0 : Int32) (H : Heap) (locs : List Loc) (ls : Array Slot), nm_H D Y (fun q => s0 ≤ q) s.heap X nl ad (M.1, M.2, N, K) H locs → lv_has ls 4 [(0, .ref (ad pz)), (2, .int x2)] → f_X7_turnedY_J14 pz x2 t14_0 M = r0 → W p l e R s m args below meth c H locs 0 0 Q (F0 m 14 ls [.int t14_0]) := by
    intro t14_0 H locs ls hH hl hf
    unfold f_X7_turnedY_J14 at hf
    refine lv_istore_n (lv' := [(3, .int t14_0), (0, .ref (ad pz)), (2, .int x2)]) hx hb dX7_turnedY_14 rfl hl (by decide) rfl (fun ls hl => ?_)
    refine lv_aload_n hx hb dX7_turnedY_15 rfl (lv_at hl 1 rfl) ?_
    refine gf_7_3 hK hx hb hts hown hH hp hkp (hts _ tw_429) (fun _ h9 => h9) dX7_turnedY_16 ?_
    refine lv_if_ne (tgt := 26) hx hb dX7_turnedY_19 (by decide) (fun c1 => ?_) (fun c1 => ?_)
    · have hf := nm_ie c1 hf
      refine lv_aload_n hx hb dX7_turnedY_26 rfl (lv_at hl 1 rfl) ?_
      refine gf_7_3 hK hx hb hts hown hH hp hkp (hts _ tw_429) (fun _ h9 => h9) dX7_turnedY_27 ?_
      refine lv_iconst (v := 1) hx hb dX7_turnedY_30 (by decide) ?_
      refine lv_icmp_ne (tgt := 38) hx hb dX7_turnedY_31 (by decide) (fun c2 => ?_) (fun c2 => ?_)
      · have hf := nm_ie c2 hf
        refine lv_aload_n hx hb dX7_turnedY_38 rfl (lv_at hl 1 rfl) ?_
        refine gf_7_3 hK hx hb hts hown hH hp hkp (hts _ tw_429) (fun _ h9 => h9) dX7_turnedY_39 ?_
        refine lv_iconst (v := 2) hx hb dX7_turnedY_42 (by decide) ?_
        refine lv_icmp_ne (tgt := 52) hx hb dX7_turnedY_43 (by decide) (fun c3 => ?_) (fun c3 => ?_)
        · have hf := nm_ie c3 hf
          refine lv_iconst (v := -1) hx hb dX7_turnedY_52 (by decide) ?_
          refine lv_iload_n hx hb dX7_turnedY_53 rfl (lv_at hl 0 rfl) ?_
          refine lv_isub hx hb dX7_turnedY_54 ?_
          exact nm_iret hx hb hr hlocks hQ hH hf rfl dX7_turnedY_55
        · have hf := nm_it c3 hf
          refine lv_iconst (v := -1) hx hb dX7_turnedY_46 (by decide) ?_
          refine lv_iload_n hx hb dX7_turnedY_47 rfl (lv_at hl 2 rfl) ?_
          refine lv_isub hx hb dX7_turnedY_48 ?_
          refine lv_goto (tgt := 55) hx hb dX7_turnedY_49 (by decide) ?_
          exact nm_iret hx hb hr hlocks hQ hH hf rfl dX7_turnedY_55
      · have hf := nm_it c2 hf
        refine lv_iload_n hx hb dX7_turnedY_34 rfl (lv_at hl 0 rfl) ?_
        refine lv_goto (tgt := 55) hx hb dX7_turnedY_35 (by decide) ?_
        exact nm_iret hx hb hr hlocks hQ hH hf rfl dX7_turnedY_55
    · have hf := nm_it c1 hf
      refine lv_iload_n hx hb dX7_turnedY_22 rfl (lv_at hl 2 rfl) ?_
      refine lv_goto (tgt := 55) hx hb dX7_turnedY_23 (by decide) ?_
      exact nm_iret hx hb hr hlocks hQ hH hf rfl dX7_turnedY_55
  refine lv_if_eq (tgt := 13) hx hb dX7_turnedY_4 (by decide) (fun c4 => ?_) (fun c4 => ?_)
  · have hf := nm_it c4 hf
    refine lv_iload_n hx hb dX7_turnedY_13 rfl (lv_at hl 1 rfl) ?_
    exact hJ14 x1 _ _ _ hH (lv_sub hl [0, 2] rfl) hf
  · have hf := nm_ie c4 hf
    refine lv_iconst (v := -1) hx hb dX7_turnedY_7 (by decide) ?_
    refine lv_iload_n hx hb dX7_turnedY_8 rfl (lv_at hl 1 rfl) ?_
    refine lv_isub hx hb dX7_turnedY_9 ?_
    refine lv_goto (tgt := 14) hx hb dX7_turnedY_10 (by decide) ?_
    exact hJ14 ((-1 : Int32) - x1) _ _ _ hH (lv_sub hl [0, 2] rfl) hf
def f_X6_mark_J56 (pz : Nat) (a : Nat) (N : Nat → Nat) (x2 : Int32) (t56_2 : Int64) (t56_1 : Int32) (M2 : cm) (k : Int32 → cm → Option (cm)) : Option (cm) :=
nm_c t56_1 (N a) (
nm_l (M2.1, nm_upJ M2.2 a t56_1.toNatClampNeg t56_2) fun M6 =>
k (x2 + 1) M6)
def f_X6_mark_L5 (pz : Nat) (a : Nat) (N : Nat → Nat) : Nat → Int32 → cm → Option (cm)
  | 0, _, _ => none
  | n5 + 1, x2, M2 =>
    (if (M2.1 pz 4) < x2 then
    some M2
    else
    nm_l (((64 : Int32) * (M2.1 pz 1)) + x2) fun v4 =>
    (if (M2.1 pz 0) = (1 : Int32) then
    nm_c v4 (N a) (
    f_X6_mark_J56 pz a N x2 ((M2.2 a v4.toNatClampNeg) &&& ((M2.2 pz 5) ^^^ (-1 : Int64))) v4 M2 (f_X6_mark_L5 pz a N n5))
    else
    nm_c v4 (N a) (
    f_X6_mark_J56 pz a N x2 ((M2.2 a v4.toNatClampNeg) ||| (M2.2 pz 5)) v4 M2 (f_X6_mark_L5 pz a N n5))))
def f_X6_mark (pz : Nat) (a : Nat) (N : Nat → Nat) (M : cm) : Option (cm) :=
nm_l (M.1 pz 3) fun v1 =>
nm_s1 (f_X6_mark_L5 pz a N nm_F v1 M) fun M10 =>
some M10
set_option maxHeartbeats 4000000 in
set_option maxRecDepth 100000 in
theorem k_X6_mark {l : Launch} {D : va_G} {Y : nm_Y} {s0 : Nat} {X : va_W} {ad : Nat → Nat} {nl : List Nat} {N K : Nat → Nat} (hL : cl_L nl K) (hN : cl_N N) {pz : Nat} (hp : pz ∈ nl) (hkp : K pz = 6) {a : Nat} (ha : a ∈ nl) (hka : K a = 21) {M : cm} {M0 : cm} (hf : f_X6_mark pz a N M = some M0) :
    nm_Met l yX6_mark cX6_mark 4 none { frames := 0, cells := 0, slots := 0, locals := 0 } [.ref (ad pz), .ref (ad a)] D Y s0 (nm_W Y X nl ad (M.1, M.2, N, K)) (nm_Qv D s0 (nm_W Y X nl ad (M0.1, M0.2, N, K))) 0 0 := by
  refine nm_of (by decide) (Nat.le_of_ble_eq_true rfl) ?_
  intro p e R s m args below meth c Q ls hx hb hr hlocks hml hown hts hs0 hK hZ hRf hRl hRc hRs hQ hP hD hl
  have hH : nm_H D Y (fun q => s0 ≤ q) s.heap X nl ad (M.1, M.2, N, K) s.heap [] := ⟨hP, hD, va_S.rf⟩
  have hl : lv_has ls 4 [(0, .ref (ad pz)), (1, .ref (ad a))] := hl
  unfold f_X6_mark at hf
  refine lv_aload_n hx hb dX6_mark_0 rfl (lv_at hl 0 rfl) ?_
  refine gf_6_3 hK hx hb hts hown hH hp hkp (hts _ tw_335) (fun _ h9 => h9) dX6_mark_1 ?_
  obtain ⟨v1, ev1, hf⟩ := nm_let hf
  refine nm_topi ev1 ?_
  refine lv_istore_n (lv' := [(2, .int v1), (0, .ref (ad pz)), (1, .ref (ad a))]) hx hb dX6_mark_4 rfl hl (by decide) rfl (fun ls hl => ?_)
  have hL5 : ∀ (n5 : Nat) (x2 : Int32) (M2 : cm) (H : Heap) (locs : List Loc) (ls : Array Slot) (o5 : cm), nm_H D Y (fun q => s0 ≤ q) s.heap X nl ad (M2.1, M2.2, N, K) H locs → lv_has ls 4 [(0, .ref (ad pz)), (1, .ref (ad a)), (2, .int x2)] → f_X6_mark_L5 pz a N n5 x2 M2 = some o5 → (∀ (H : Heap) (locs : List Loc) (ls : Array Slot), nm_H D Y (fun q => s0 ≤ q) s.heap X nl ad (o5.1, o5.2, N, K) H locs → lv_has ls 4 [] → W p l e R s m args below meth c H locs 0 0 Q (F0 m 63 ls [])) → W p l e R s m args below meth c H locs 0 0 Q (F0 m 5 ls []) := by
    intro n5
    induction n5 with
    | zero =>
      intro x2 M2 H locs ls o5 hH hl hf hX5
      cases hf
    | succ n5 ih5 =>
      intro x2 M2 H locs ls o5 hH hl hf hX5
      rw [f_X6_mark_L5] at hf
      refine lv_iload_n hx hb dX6_mark_5 rfl (lv_at hl 2 rfl) ?_
      refine lv_aload_n hx hb dX6_mark_6 rfl (lv_at hl 0 rfl) ?_
      refine gf_6_4 hK hx hb hts hown hH hp hkp (hts _ tw_336) (fun _ h9 => h9) dX6_mark_7 ?_
      refine lv_icmp_gt (tgt := 63) hx hb dX6_mark_10 (by decide) (fun c3 => ?_) (fun c3 => ?_)
      · have hf := nm_it c3 hf
        cases hf
        exact hX5 _ _ _ hH (lv_sub hl [] rfl)
      · have hf := nm_ie c3 hf
        refine lv_bipush (v := 64) hx hb dX6_mark_13 (by decide) ?_
        refine lv_aload_n hx hb dX6_mark_15 rfl (lv_at hl 0 rfl) ?_
        refine gf_6_1 hK hx hb hts hown hH hp hkp (hts _ tw_344) (u_same (hts _ tw_345)) dX6_mark_16 ?_
        refine lv_imul hx hb dX6_mark_19 ?_
        refine lv_iload_n hx hb dX6_mark_20 rfl (lv_at hl 2 rfl) ?_
        refine lv_iadd hx hb dX6_mark_21 ?_
        obtain ⟨v4, ev4, hf⟩ := nm_let hf
        refine nm_topi ev4 ?_
        refine lv_istore_n (lv' := [(3, .int v4), (0, .ref (ad pz)), (1, .ref (ad a)), (2, .int x2)]) hx hb dX6_mark_22 rfl hl (by decide) rfl (fun ls hl => ?_)
        refine lv_aload_n hx hb dX6_mark_23 rfl (lv_at hl 2 rfl) ?_
        refine lv_iload_n hx hb dX6_mark_24 rfl (lv_at hl 0 rfl) ?_
        refine lv_aload_n hx hb dX6_mark_25 rfl (lv_at hl 1 rfl) ?_
        refine gf_6_0 hK hx hb hts hown hH hp hkp (hts _ tw_339) (u_same (hts _ tw_340)) dX6_mark_26 ?_
        refine lv_iconst (v := 1) hx hb dX6_mark_29 (by decide) ?_
        have hJ56 : ∀ (t56_2 : Int64) (t56_1 : Int32) (H : Heap) (locs : List Loc) (ls : Array Slot), nm_H D Y (fun q => s0 ≤ q) s.heap X nl ad (M2.1, M2.2, N, K) H locs → lv_has ls 4 [(0, .ref (ad pz)), (1, .ref (ad a)), (2, .int x2)] → f_X6_mark_J56 pz a N x2 t56_2 t56_1 M2 (f_X6_mark_L5 pz a N n5) = some o5 → W p l e R s m args below meth c H locs 0 0 Q (F0 m 56 ls [.long t56_2, .int t56_1, .ref (ad a)]) := by
          intro t56_2 t56_1 H locs ls hH hl hf
          unfold f_X6_mark_J56 at hf
          obtain ⟨hi5, hf⟩ := nm_chk hf
          obtain ⟨M6, eM6, hf⟩ := nm_let hf
          refine nm_last hx hb hK hH ha hka rfl hi5 dX6_mark_56 (fun H locs hH => ?_)
          have hH : nm_H D Y (fun q => s0 ≤ q) s.heap X nl ad (M6.1, M6.2, N, K) H locs := by rw [eM6]; exact hH
          refine lv_iinc (v := x2 + 1) (lv' := [(2, .int (x2 + 1)), (0, .ref (ad pz)), (1, .ref (ad a))]) hx hb dX6_mark_57 hl (k := 2) rfl rfl (by decide) rfl (fun ls hl => ?_)
          refine lv_goto (tgt := 5) hx hb dX6_mark_60 (by decide) ?_
          exact ih5 (x2 + 1) M6 _ _ _ _ hH (lv_sub hl [1, 2, 0] rfl) hf hX5
        refine lv_icmp_ne (tgt := 48) hx hb dX6_mark_30 (by decide) (fun c7 => ?_) (fun c7 => ?_)
        · have hf := nm_ie c7 hf
          refine lv_aload_n hx hb dX6_mark_48 rfl (lv_at hl 2 rfl) ?_
          refine lv_iload_n hx hb dX6_mark_49 rfl (lv_at hl 0 rfl) ?_
          obtain ⟨hi8, hf⟩ := nm_chk hf
          refine nm_lald hx hb hK hH ha hka rfl hi8 dX6_mark_50 ?_
          refine lv_aload_n hx hb dX6_mark_51 rfl (lv_at hl 1 rfl) ?_
          refine gf_6_5 hK hx hb hts hown hH hp hkp (hts _ tw_337) (fun _ h9 => h9) dX6_mark_52 ?_
          refine lv_lor hx hb dX6_mark_55 ?_
          exact hJ56 ((M2.2 a v4.toNatClampNeg) ||| (M2.2 pz 5)) v4 _ _ _ hH (lv_sub hl [1, 2, 3] rfl) hf
        · have hf := nm_it c7 hf
          refine lv_aload_n hx hb dX6_mark_33 rfl (lv_at hl 2 rfl) ?_
          refine lv_iload_n hx hb dX6_mark_34 rfl (lv_at hl 0 rfl) ?_
          obtain ⟨hi9, hf⟩ := nm_chk hf
          refine nm_lald hx hb hK hH ha hka rfl hi9 dX6_mark_35 ?_
          refine lv_aload_n hx hb dX6_mark_36 rfl (lv_at hl 1 rfl) ?_
          refine gf_6_5 hK hx hb hts hown hH hp hkp (hts _ tw_337) (fun _ h9 => h9) dX6_mark_37 ?_
          refine lv_ldc2 hx hb hown (hts _ tw_505) dX6_mark_40 ?_
          refine lv_lxor hx hb dX6_mark_43 ?_
          refine lv_land hx hb dX6_mark_44 ?_
          refine lv_goto (tgt := 56) hx hb dX6_mark_45 (by decide) ?_
          exact hJ56 ((M2.2 a v4.toNatClampNeg) &&& ((M2.2 pz 5) ^^^ (-1 : Int64))) v4 _ _ _ hH (lv_sub hl [1, 2, 3] rfl) hf
  obtain ⟨M10, hl11, hf⟩ := nm_sd1 hf
  refine hL5 nm_F v1 M _ _ _ _ hH (lv_sub hl [1, 2, 0] rfl) hl11 (fun H locs ls hH hl => ?_)
  have hl : lv_has ls 4 [] := hl
  have hH : nm_H D Y (fun q => s0 ≤ q) s.heap X nl ad (M10.1, M10.2, N, K) H locs := hH
  exact nm_vret hx hb hr hlocks hQ hH (congrArg (fun q => (q.1, q.2, N, K)) (Option.some.inj hf)) dX6_mark_63
def f_X8_greatest (x0 : Int32) : Int32 :=
(if x0 = 0 then
(64 : Int32)
else
(if x0 = (1 : Int32) then
(64 : Int32)
else
(if x0 = (2 : Int32) then
(9 : Int32)
else
(4096 : Int32))))
set_option maxHeartbeats 4000000 in
set_option maxRecDepth 100000 in
theorem k_X8_greatest {l : Launch} {D : va_G} {Y : nm_Y} {s0 : Nat} {X : va_W} {ad : Nat → Nat} {nl : List Nat} {N K : Nat → Nat} (hL : cl_L nl K) (hN : cl_N N) {x0 : Int32} {M : cm} {r0 : Int32} (hf : f_X8_greatest x0 = r0) :
    nm_Met l yX8_greatest cX8_greatest 1 (some .int) { frames := 0, cells := 0, slots := 0, locals := 0 } [.int x0] D Y s0 (nm_W Y X nl ad (M.1, M.2, N, K)) (nm_Qi D s0 r0 (nm_W Y X nl ad (M.1, M.2, N, K))) 0 0 := by
  refine nm_of (by decide) (Nat.le_of_ble_eq_true rfl) ?_
  intro p e R s m args below meth c Q ls hx hb hr hlocks hml hown hts hs0 hK hZ hRf hRl hRc hRs hQ hP hD hl
  have hH : nm_H D Y (fun q => s0 ≤ q) s.heap X nl ad (M.1, M.2, N, K) s.heap [] := ⟨hP, hD, va_S.rf⟩
  have hl : lv_has ls 1 [(0, .int x0)] := hl
  unfold f_X8_greatest at hf
  refine lv_iload_n hx hb dX8_greatest_0 rfl (lv_at hl 0 rfl) ?_
  refine lv_if_eq (tgt := 9) hx hb dX8_greatest_1 (by decide) (fun c1 => ?_) (fun c1 => ?_)
  · have hf := nm_it c1 hf
    refine lv_bipush (v := 64) hx hb dX8_greatest_9 (by decide) ?_
    exact nm_iret hx hb hr hlocks hQ hH hf rfl dX8_greatest_11
  · have hf := nm_ie c1 hf
    refine lv_iload_n hx hb dX8_greatest_4 rfl (lv_at hl 0 rfl) ?_
    refine lv_iconst (v := 1) hx hb dX8_greatest_5 (by decide) ?_
    refine lv_icmp_ne (tgt := 12) hx hb dX8_greatest_6 (by decide) (fun c2 => ?_) (fun c2 => ?_)
    · have hf := nm_ie c2 hf
      refine lv_iload_n hx hb dX8_greatest_12 rfl (lv_at hl 0 rfl) ?_
      refine lv_iconst (v := 2) hx hb dX8_greatest_13 (by decide) ?_
      refine lv_icmp_ne (tgt := 22) hx hb dX8_greatest_14 (by decide) (fun c3 => ?_) (fun c3 => ?_)
      · have hf := nm_ie c3 hf
        refine lv_sipush (v := 4096) hx hb dX8_greatest_22 (by decide) ?_
        exact nm_iret hx hb hr hlocks hQ hH hf rfl dX8_greatest_25
      · have hf := nm_it c3 hf
        refine lv_bipush (v := 9) hx hb dX8_greatest_17 (by decide) ?_
        refine lv_goto (tgt := 25) hx hb dX8_greatest_19 (by decide) ?_
        exact nm_iret hx hb hr hlocks hQ hH hf rfl dX8_greatest_25
    · have hf := nm_it c2 hf
      refine lv_bipush (v := 64) hx hb dX8_greatest_9 (by decide) ?_
      exact nm_iret hx hb hr hlocks hQ hH hf rfl dX8_greatest_11
def f_X8_add (x1 : Int32) (x2 : Int32) (x3 : Int32) (x4 : Int32) (M : cm) : Option (Int32 × cm) :=
nm_c (M.1 200 0) 16 (
nm_l ((nm_up M.1 204 ((M.1 200 0).toNatClampNeg) x1, M.2)) fun M2 =>
nm_c (M2.1 200 0) 16 (
nm_l ((nm_up M2.1 205 ((M2.1 200 0).toNatClampNeg) x2, M2.2)) fun M4 =>
nm_c (M4.1 200 0) 16 (
nm_l ((nm_up M4.1 206 ((M4.1 200 0).toNatClampNeg) x3, M4.2)) fun M6 =>
nm_c (M6.1 200 0) 16 (
nm_l ((nm_up M6.1 207 ((M6.1 200 0).toNatClampNeg) x4, M6.2)) fun M8 =>
nm_l ((nm_up M8.1 200 0 ((M8.1 200 0) + (1 : Int32)), M8.2)) fun M9 =>
some ((M9.1 200 0) - (1 : Int32), M9)))))
set_option maxHeartbeats 4000000 in
set_option maxRecDepth 100000 in
theorem k_X8_add {l : Launch} {D : va_G} {Y : nm_Y} {s0 : Nat} {X : va_W} {ad : Nat → Nat} {nl : List Nat} {N K : Nat → Nat} (hL : cl_L nl K) (hN : cl_N N) {x1 : Int32} {x2 : Int32} {x3 : Int32} {x4 : Int32} {M : cm} {r0 : Int32} {M0 : cm} (hf : f_X8_add x1 x2 x3 x4 M = some (r0, M0)) :
    nm_Met l yX8_add cX8_add 5 (some .int) { frames := 0, cells := 0, slots := 0, locals := 0 } [.ref (ad 200), .int x1, .int x2, .int x3, .int x4] D Y s0 (nm_W Y X nl ad (M.1, M.2, N, K)) (nm_Qi D s0 r0 (nm_W Y X nl ad (M0.1, M0.2, N, K))) 0 0 := by
  refine nm_of (by decide) (Nat.le_of_ble_eq_true rfl) ?_
  intro p e R s m args below meth c Q ls hx hb hr hlocks hml hown hts hs0 hK hZ hRf hRl hRc hRs hQ hP hD hl
  have hH : nm_H D Y (fun q => s0 ≤ q) s.heap X nl ad (M.1, M.2, N, K) s.heap [] := ⟨hP, hD, va_S.rf⟩
  have hl : lv_has ls 5 [(0, .ref (ad 200)), (1, .int x1), (2, .int x2), (3, .int x3), (4, .int x4)] := hl
  unfold f_X8_add at hf
  refine lv_aload_n hx hb dX8_add_0 rfl (lv_at hl 0 rfl) ?_
  refine gf_8_6 hK hx hb hts hown hH (cl_n200 hL) (cl_k200 hL) (hts _ tw_132) (fun _ h9 => h9) dX8_add_1 ?_
  refine lv_aload_n hx hb dX8_add_4 rfl (lv_at hl 0 rfl) ?_
  refine gf_8_0 hK hx hb hts hown hH (cl_n200 hL) (cl_k200 hL) (hts _ tw_120) (fun _ h9 => h9) dX8_add_5 ?_
  refine lv_iload_n hx hb dX8_add_8 rfl (lv_at hl 1 rfl) ?_
  obtain ⟨hi1, hf⟩ := nm_chk hf
  obtain ⟨M2, eM2, hf⟩ := nm_let hf
  refine nm_iast hx hb hK hH (cl_n204 hL) (cl_k204 hL) (cl_l204 hN) hi1 dX8_add_9 (fun H locs hH => ?_)
  have hH : nm_H D Y (fun q => s0 ≤ q) s.heap X nl ad (M2.1, M2.2, N, K) H locs := by rw [eM2]; exact hH
  refine lv_aload_n hx hb dX8_add_10 rfl (lv_at hl 0 rfl) ?_
  refine gf_8_7 hK hx hb hts hown hH (cl_n200 hL) (cl_k200 hL) (hts _ tw_133) (fun _ h9 => h9) dX8_add_11 ?_
  refine lv_aload_n hx hb dX8_add_14 rfl (lv_at hl 0 rfl) ?_
  refine gf_8_0 hK hx hb hts hown hH (cl_n200 hL) (cl_k200 hL) (hts _ tw_120) (fun _ h9 => h9) dX8_add_15 ?_
  refine lv_iload_n hx hb dX8_add_18 rfl (lv_at hl 2 rfl) ?_
  obtain ⟨hi3, hf⟩ := nm_chk hf
  obtain ⟨M4, eM4, hf⟩ := nm_let hf
  refine nm_iast hx hb hK hH (cl_n205 hL) (cl_k205 hL) (cl_l205 hN) hi3 dX8_add_19 (fun H locs hH => ?_)
  have hH : nm_H D Y (fun q => s0 ≤ q) s.heap X nl ad (M4.1, M4.2, N, K) H locs := by rw [eM4]; exact hH
  refine lv_aload_n hx hb dX8_add_20 rfl (lv_at hl 0 rfl) ?_
  refine gf_8_8 hK hx hb hts hown hH (cl_n200 hL) (cl_k200 hL) (hts _ tw_134) (fun _ h9 => h9) dX8_add_21 ?_
  refine lv_aload_n hx hb dX8_add_24 rfl (lv_at hl 0 rfl) ?_
  refine gf_8_0 hK hx hb hts hown hH (cl_n200 hL) (cl_k200 hL) (hts _ tw_120) (fun _ h9 => h9) dX8_add_25 ?_
  refine lv_iload_n hx hb dX8_add_28 rfl (lv_at hl 3 rfl) ?_
  obtain ⟨hi5, hf⟩ := nm_chk hf
  obtain ⟨M6, eM6, hf⟩ := nm_let hf
  refine nm_iast hx hb hK hH (cl_n206 hL) (cl_k206 hL) (cl_l206 hN) hi5 dX8_add_29 (fun H locs hH => ?_)
  have hH : nm_H D Y (fun q => s0 ≤ q) s.heap X nl ad (M6.1, M6.2, N, K) H locs := by rw [eM6]; exact hH
  refine lv_aload_n hx hb dX8_add_30 rfl (lv_at hl 0 rfl) ?_
  refine gf_8_9 hK hx hb hts hown hH (cl_n200 hL) (cl_k200 hL) (hts _ tw_135) (fun _ h9 => h9) dX8_add_31 ?_
  refine lv_aload_n hx hb dX8_add_34 rfl (lv_at hl 0 rfl) ?_
  refine gf_8_0 hK hx hb hts hown hH (cl_n200 hL) (cl_k200 hL) (hts _ tw_120) (fun _ h9 => h9) dX8_add_35 ?_
  refine lv_iload hx hb dX8_add_38 (lv_at hl 4 rfl) ?_
  obtain ⟨hi7, hf⟩ := nm_chk hf
  obtain ⟨M8, eM8, hf⟩ := nm_let hf
  refine nm_iast hx hb hK hH (cl_n207 hL) (cl_k207 hL) (cl_l207 hN) hi7 dX8_add_40 (fun H locs hH => ?_)
  have hH : nm_H D Y (fun q => s0 ≤ q) s.heap X nl ad (M8.1, M8.2, N, K) H locs := by rw [eM8]; exact hH
  refine lv_aload_n hx hb dX8_add_41 rfl (lv_at hl 0 rfl) ?_
  refine lv_dup hx hb dX8_add_42 rfl ?_
  refine gf_8_0 hK hx hb hts hown hH (cl_n200 hL) (cl_k200 hL) (hts _ tw_120) (fun _ h9 => h9) dX8_add_43 ?_
  refine lv_iconst (v := 1) hx hb dX8_add_46 (by decide) ?_
  refine lv_iadd hx hb dX8_add_47 ?_
  obtain ⟨M9, eM9, hf⟩ := nm_let hf
  refine pf_8_0 hK hx hb hts hown hH (cl_n200 hL) (cl_k200 hL) (hts _ tw_120) (fun _ h9 => h9) dX8_add_48 (fun H locs hH => ?_)
  have hH : nm_H D Y (fun q => s0 ≤ q) s.heap X nl ad (M9.1, M9.2, N, K) H locs := by rw [eM9]; exact hH
  refine lv_aload_n hx hb dX8_add_51 rfl (lv_at hl 0 rfl) ?_
  refine gf_8_0 hK hx hb hts hown hH (cl_n200 hL) (cl_k200 hL) (hts _ tw_120) (fun _ h9 => h9) dX8_add_52 ?_
  refine lv_iconst (v := 1) hx hb dX8_add_55 (by decide) ?_
  refine lv_isub hx hb dX8_add_56 ?_
  exact nm_iret hx hb hr hlocks hQ hH (congrArg Prod.fst (Option.some.inj hf)) (congrArg (fun q => (q.2.1, q.2.2, N, K)) (Option.some.inj hf)) dX8_add_57
def f_X8_note_J103 (N : Nat → Nat) (x1 : Int32) (M4 : cm) : Option (cm) :=
nm_c x1 16 (
nm_c x1 16 (
nm_l ((nm_up M4.1 202 x1.toNatClampNeg ((M4.1 202 x1.toNatClampNeg) + (1 : Int32)), M4.2)) fun M7 =>
some M7))
def f_X8_note_J95 (N : Nat → Nat) (x1 : Int32) (x4 : Int32) (M2 : cm) : Option (cm) :=
nm_c x1 16 (
nm_l (nm_up M2.1 203 x1.toNatClampNeg x4, M2.2) fun M9 =>
f_X8_note_J103 N x1 M9)
def f_X8_note_J65 (N : Nat → Nat) (x1 : Int32) (x4 : Int32) (M1 : cm) : Option (cm) :=
nm_l ((nm_up M1.1 200 2 ((M1.1 200 2) + (1 : Int32)), M1.2)) fun M2 =>
nm_c x1 16 (
(if (M2.1 202 x1.toNatClampNeg) = 0 then
f_X8_note_J95 N x1 x4 M2
else
nm_c x1 16 (
(if (M2.1 203 x1.toNatClampNeg) ≤ x4 then
f_X8_note_J103 N x1 M2
else
f_X8_note_J95 N x1 x4 M2))))
def f_X8_note (N : Nat → Nat) (x1 : Int32) (x2 : Int32) (x3 : Int32) (x4 : Int32) (M : cm) : Option (cm) :=
(if (600 : Int32) ≤ (M.1 200 2) then
f_X8_note_J65 N x1 x4 M
else
nm_c ((4 : Int32) * (M.1 200 2)) (N 201) (
nm_l ((nm_up M.1 201 (((4 : Int32) * (M.1 200 2)).toNatClampNeg) x1, M.2)) fun M15 =>
nm_c (((4 : Int32) * (M15.1 200 2)) + (1 : Int32)) (N 201) (
nm_l ((nm_up M15.1 201 ((((4 : Int32) * (M15.1 200 2)) + (1 : Int32)).toNatClampNeg) x2, M15.2)) fun M17 =>
nm_c (((4 : Int32) * (M17.1 200 2)) + (2 : Int32)) (N 201) (
nm_l ((nm_up M17.1 201 ((((4 : Int32) * (M17.1 200 2)) + (2 : Int32)).toNatClampNeg) x3, M17.2)) fun M19 =>
nm_c (((4 : Int32) * (M19.1 200 2)) + (3 : Int32)) (N 201) (
nm_l ((nm_up M19.1 201 ((((4 : Int32) * (M19.1 200 2)) + (3 : Int32)).toNatClampNeg) x4, M19.2)) fun M21 =>
f_X8_note_J65 N x1 x4 M21)))))
set_option maxHeartbeats 4000000 in
set_option maxRecDepth 100000 in
theorem k_X8_note {l : Launch} {D : va_G} {Y : nm_Y} {s0 : Nat} {X : va_W} {ad : Nat → Nat} {nl : List Nat} {N K : Nat → Nat} (hL : cl_L nl K) (hN : cl_N N) {x1 : Int32} {x2 : Int32} {x3 : Int32} {x4 : Int32} {M : cm} {M0 : cm} (hf : f_X8_note N x1 x2 x3 x4 M = some M0) :
    nm_Met l yX8_note cX8_note 5 none { frames := 0, cells := 0, slots := 0, locals := 0 } [.ref (ad 200), .int x1, .int x2, .int x3, .int x4] D Y s0 (nm_W Y X nl ad (M.1, M.2, N, K)) (nm_Qv D s0 (nm_W Y X nl ad (M0.1, M0.2, N, K))) 0 0 := by
  refine nm_of (by decide) (Nat.le_of_ble_eq_true rfl) ?_
  intro p e R s m args below meth c Q ls hx hb hr hlocks hml hown hts hs0 hK hZ hRf hRl hRc hRs hQ hP hD hl
  have hH : nm_H D Y (fun q => s0 ≤ q) s.heap X nl ad (M.1, M.2, N, K) s.heap [] := ⟨hP, hD, va_S.rf⟩
  have hl : lv_has ls 5 [(0, .ref (ad 200)), (1, .int x1), (2, .int x2), (3, .int x3), (4, .int x4)] := hl
  unfold f_X8_note at hf
  refine lv_aload_n hx hb dX8_note_0 rfl (lv_at hl 0 rfl) ?_
  refine gf_8_2 hK hx hb hts hown hH (cl_n200 hL) (cl_k200 hL) (hts _ tw_124) (fun _ h9 => h9) dX8_note_1 ?_
  refine lv_sipush (v := 600) hx hb dX8_note_4 (by decide) ?_
  have hJ65 : ∀ (M1 : cm) (H : Heap) (locs : List Loc) (ls : Array Slot), nm_H D Y (fun q => s0 ≤ q) s.heap X nl ad (M1.1, M1.2, N, K) H locs → lv_has ls 5 [(0, .ref (ad 200)), (1, .int x1), (4, .int x4)] → f_X8_note_J65 N x1 x4 M1 = some M0 → W p l e R s m args below meth c H locs 0 0 Q (F0 m 65 ls []) := by
    intro M1 H locs ls hH hl hf
    unfold f_X8_note_J65 at hf
    refine lv_aload_n hx hb dX8_note_65 rfl (lv_at hl 0 rfl) ?_
    refine lv_dup hx hb dX8_note_66 rfl ?_
    refine gf_8_2 hK hx hb hts hown hH (cl_n200 hL) (cl_k200 hL) (hts _ tw_124) (fun _ h9 => h9) dX8_note_67 ?_
    refine lv_iconst (v := 1) hx hb dX8_note_70 (by decide) ?_
    refine lv_iadd hx hb dX8_note_71 ?_
    obtain ⟨M2, eM2, hf⟩ := nm_let hf
    refine pf_8_2 hK hx hb hts hown hH (cl_n200 hL) (cl_k200 hL) (hts _ tw_124) (fun _ h9 => h9) dX8_note_72 (fun H locs hH => ?_)
    have hH : nm_H D Y (fun q => s0 ≤ q) s.heap X nl ad (M2.1, M2.2, N, K) H locs := by rw [eM2]; exact hH
    refine lv_aload_n hx hb dX8_note_75 rfl (lv_at hl 0 rfl) ?_
    refine gf_8_4 hK hx hb hts hown hH (cl_n200 hL) (cl_k200 hL) (hts _ tw_128) (fun _ h9 => h9) dX8_note_76 ?_
    refine lv_iload_n hx hb dX8_note_79 rfl (lv_at hl 1 rfl) ?_
    obtain ⟨hi3, hf⟩ := nm_chk hf
    refine nm_iald hx hb hK hH (cl_n202 hL) (cl_k202 hL) (cl_l202 hN) hi3 dX8_note_80 ?_
    have hJ103 : ∀ (M4 : cm) (H : Heap) (locs : List Loc) (ls : Array Slot), nm_H D Y (fun q => s0 ≤ q) s.heap X nl ad (M4.1, M4.2, N, K) H locs → lv_has ls 5 [(0, .ref (ad 200)), (1, .int x1)] → f_X8_note_J103 N x1 M4 = some M0 → W p l e R s m args below meth c H locs 0 0 Q (F0 m 103 ls []) := by
      intro M4 H locs ls hH hl hf
      unfold f_X8_note_J103 at hf
      refine lv_aload_n hx hb dX8_note_103 rfl (lv_at hl 0 rfl) ?_
      refine gf_8_4 hK hx hb hts hown hH (cl_n200 hL) (cl_k200 hL) (hts _ tw_128) (fun _ h9 => h9) dX8_note_104 ?_
      refine lv_iload_n hx hb dX8_note_107 rfl (lv_at hl 1 rfl) ?_
      refine lv_dup2_11 hx hb dX8_note_108 rfl rfl ?_
      obtain ⟨hi5, hf⟩ := nm_chk hf
      refine nm_iald hx hb hK hH (cl_n202 hL) (cl_k202 hL) (cl_l202 hN) hi5 dX8_note_109 ?_
      refine lv_iconst (v := 1) hx hb dX8_note_110 (by decide) ?_
      refine lv_iadd hx hb dX8_note_111 ?_
      obtain ⟨hi6, hf⟩ := nm_chk hf
      obtain ⟨M7, eM7, hf⟩ := nm_let hf
      refine nm_iast hx hb hK hH (cl_n202 hL) (cl_k202 hL) (cl_l202 hN) hi6 dX8_note_112 (fun H locs hH => ?_)
      have hH : nm_H D Y (fun q => s0 ≤ q) s.heap X nl ad (M7.1, M7.2, N, K) H locs := by rw [eM7]; exact hH
      exact nm_vret hx hb hr hlocks hQ hH (congrArg (fun q => (q.1, q.2, N, K)) (Option.some.inj hf)) dX8_note_113
    have hJ95 : ∀  (H : Heap) (locs : List Loc) (ls : Array Slot), nm_H D Y (fun q => s0 ≤ q) s.heap X nl ad (M2.1, M2.2, N, K) H locs → lv_has ls 5 [(0, .ref (ad 200)), (1, .int x1), (4, .int x4)] → f_X8_note_J95 N x1 x4 M2 = some M0 → W p l e R s m args below meth c H locs 0 0 Q (F0 m 95 ls []) := by
      intro  H locs ls hH hl hf
      unfold f_X8_note_J95 at hf
      refine lv_aload_n hx hb dX8_note_95 rfl (lv_at hl 0 rfl) ?_
      refine gf_8_5 hK hx hb hts hown hH (cl_n200 hL) (cl_k200 hL) (hts _ tw_130) (fun _ h9 => h9) dX8_note_96 ?_
      refine lv_iload_n hx hb dX8_note_99 rfl (lv_at hl 1 rfl) ?_
      refine lv_iload hx hb dX8_note_100 (lv_at hl 2 rfl) ?_
      obtain ⟨hi8, hf⟩ := nm_chk hf
      obtain ⟨M9, eM9, hf⟩ := nm_let hf
      refine nm_iast hx hb hK hH (cl_n203 hL) (cl_k203 hL) (cl_l203 hN) hi8 dX8_note_102 (fun H locs hH => ?_)
      have hH : nm_H D Y (fun q => s0 ≤ q) s.heap X nl ad (M9.1, M9.2, N, K) H locs := by rw [eM9]; exact hH
      exact hJ103  M9 _ _ _ hH (lv_sub hl [0, 1] rfl) hf
    refine lv_if_eq (tgt := 95) hx hb dX8_note_81 (by decide) (fun c10 => ?_) (fun c10 => ?_)
    · have hf := nm_it c10 hf
      exact hJ95  _ _ _ hH (lv_sub hl [0, 1, 2] rfl) hf
    · have hf := nm_ie c10 hf
      refine lv_iload hx hb dX8_note_84 (lv_at hl 2 rfl) ?_
      refine lv_aload_n hx hb dX8_note_86 rfl (lv_at hl 0 rfl) ?_
      refine gf_8_5 hK hx hb hts hown hH (cl_n200 hL) (cl_k200 hL) (hts _ tw_130) (fun _ h9 => h9) dX8_note_87 ?_
      refine lv_iload_n hx hb dX8_note_90 rfl (lv_at hl 1 rfl) ?_
      obtain ⟨hi11, hf⟩ := nm_chk hf
      refine nm_iald hx hb hK hH (cl_n203 hL) (cl_k203 hL) (cl_l203 hN) hi11 dX8_note_91 ?_
      refine lv_icmp_ge (tgt := 103) hx hb dX8_note_92 (by decide) (fun c12 => ?_) (fun c12 => ?_)
      · have hf := nm_it c12 hf
        exact hJ103  M2 _ _ _ hH (lv_sub hl [0, 1] rfl) hf
      · have hf := nm_ie c12 hf
        exact hJ95  _ _ _ hH (lv_sub hl [0, 1, 2] rfl) hf
  refine lv_icmp_ge (tgt := 65) hx hb dX8_note_7 (by decide) (fun c13 => ?_) (fun c13 => ?_)
  · have hf := nm_it c13 hf
    exact hJ65  M _ _ _ hH (lv_sub hl [0, 1, 4] rfl) hf
  · have hf := nm_ie c13 hf
    refine lv_aload_n hx hb dX8_note_10 rfl (lv_at hl 0 rfl) ?_
    refine gf_8_3 hK hx hb hts hown hH (cl_n200 hL) (cl_k200 hL) (hts _ tw_126) (fun _ h9 => h9) dX8_note_11 ?_
    refine lv_iconst (v := 4) hx hb dX8_note_14 (by decide) ?_
    refine lv_aload_n hx hb dX8_note_15 rfl (lv_at hl 0 rfl) ?_
    refine gf_8_2 hK hx hb hts hown hH (cl_n200 hL) (cl_k200 hL) (hts _ tw_124) (fun _ h9 => h9) dX8_note_16 ?_
    refine lv_imul hx hb dX8_note_19 ?_
    refine lv_iload_n hx hb dX8_note_20 rfl (lv_at hl 1 rfl) ?_
    obtain ⟨hi14, hf⟩ := nm_chk hf
    obtain ⟨M15, eM15, hf⟩ := nm_let hf
    refine nm_iast hx hb hK hH (cl_n201 hL) (cl_k201 hL) rfl hi14 dX8_note_21 (fun H locs hH => ?_)
    have hH : nm_H D Y (fun q => s0 ≤ q) s.heap X nl ad (M15.1, M15.2, N, K) H locs := by rw [eM15]; exact hH
    refine lv_aload_n hx hb dX8_note_22 rfl (lv_at hl 0 rfl) ?_
    refine gf_8_3 hK hx hb hts hown hH (cl_n200 hL) (cl_k200 hL) (hts _ tw_126) (fun _ h9 => h9) dX8_note_23 ?_
    refine lv_iconst (v := 4) hx hb dX8_note_26 (by decide) ?_
    refine lv_aload_n hx hb dX8_note_27 rfl (lv_at hl 0 rfl) ?_
    refine gf_8_2 hK hx hb hts hown hH (cl_n200 hL) (cl_k200 hL) (hts _ tw_124) (fun _ h9 => h9) dX8_note_28 ?_
    refine lv_imul hx hb dX8_note_31 ?_
    refine lv_iconst (v := 1) hx hb dX8_note_32 (by decide) ?_
    refine lv_iadd hx hb dX8_note_33 ?_
    refine lv_iload_n hx hb dX8_note_34 rfl (lv_at hl 2 rfl) ?_
    obtain ⟨hi16, hf⟩ := nm_chk hf
    obtain ⟨M17, eM17, hf⟩ := nm_let hf
    refine nm_iast hx hb hK hH (cl_n201 hL) (cl_k201 hL) rfl hi16 dX8_note_35 (fun H locs hH => ?_)
    have hH : nm_H D Y (fun q => s0 ≤ q) s.heap X nl ad (M17.1, M17.2, N, K) H locs := by rw [eM17]; exact hH
    refine lv_aload_n hx hb dX8_note_36 rfl (lv_at hl 0 rfl) ?_
    refine gf_8_3 hK hx hb hts hown hH (cl_n200 hL) (cl_k200 hL) (hts _ tw_126) (fun _ h9 => h9) dX8_note_37 ?_
    refine lv_iconst (v := 4) hx hb dX8_note_40 (by decide) ?_
    refine lv_aload_n hx hb dX8_note_41 rfl (lv_at hl 0 rfl) ?_
    refine gf_8_2 hK hx hb hts hown hH (cl_n200 hL) (cl_k200 hL) (hts _ tw_124) (fun _ h9 => h9) dX8_note_42 ?_
    refine lv_imul hx hb dX8_note_45 ?_
    refine lv_iconst (v := 2) hx hb dX8_note_46 (by decide) ?_
    refine lv_iadd hx hb dX8_note_47 ?_
    refine lv_iload_n hx hb dX8_note_48 rfl (lv_at hl 3 rfl) ?_
    obtain ⟨hi18, hf⟩ := nm_chk hf
    obtain ⟨M19, eM19, hf⟩ := nm_let hf
    refine nm_iast hx hb hK hH (cl_n201 hL) (cl_k201 hL) rfl hi18 dX8_note_49 (fun H locs hH => ?_)
    have hH : nm_H D Y (fun q => s0 ≤ q) s.heap X nl ad (M19.1, M19.2, N, K) H locs := by rw [eM19]; exact hH
    refine lv_aload_n hx hb dX8_note_50 rfl (lv_at hl 0 rfl) ?_
    refine gf_8_3 hK hx hb hts hown hH (cl_n200 hL) (cl_k200 hL) (hts _ tw_126) (fun _ h9 => h9) dX8_note_51 ?_
    refine lv_iconst (v := 4) hx hb dX8_note_54 (by decide) ?_
    refine lv_aload_n hx hb dX8_note_55 rfl (lv_at hl 0 rfl) ?_
    refine gf_8_2 hK hx hb hts hown hH (cl_n200 hL) (cl_k200 hL) (hts _ tw_124) (fun _ h9 => h9) dX8_note_56 ?_
    refine lv_imul hx hb dX8_note_59 ?_
    refine lv_iconst (v := 3) hx hb dX8_note_60 (by decide) ?_
    refine lv_iadd hx hb dX8_note_61 ?_
    refine lv_iload hx hb dX8_note_62 (lv_at hl 4 rfl) ?_
    obtain ⟨hi20, hf⟩ := nm_chk hf
    obtain ⟨M21, eM21, hf⟩ := nm_let hf
    refine nm_iast hx hb hK hH (cl_n201 hL) (cl_k201 hL) rfl hi20 dX8_note_64 (fun H locs hH => ?_)
    have hH : nm_H D Y (fun q => s0 ≤ q) s.heap X nl ad (M21.1, M21.2, N, K) H locs := by rw [eM21]; exact hH
    exact hJ65  M21 _ _ _ hH (lv_sub hl [0, 1, 4] rfl) hf
def f_X8_holdMap_J121 (N : Nat → Nat) (x7 : Int64) (x10 : Int32) (M11 : cm) (k : Int64 → Int32 → cm → Option (cm)) : Option (cm) :=
nm_l (x7 &&& (x7 - (1 : Int64))) fun v12 =>
k v12 (x10 + 1) M11
def f_X8_holdMap_L58 (N : Nat → Nat) (x1 : Int32) (x2 : Int32) (x3 : Int32) (x4 : Int32) (t39_0 : Int64) (v5 : Int32) : Nat → Int64 → Int32 → cm → Option (cm)
  | 0, _, _, _ => none
  | n58 + 1, x7, x10, M6 =>
    (if v5 ≤ x10 then
    some M6
    else
    nm_l (f_X0_lowest x7) fun v8 =>
    nm_l (f_X0_stretch t39_0 v8) fun v9 =>
    nm_c x1 16 (
    (if (M6.1 207 x1.toNatClampNeg) ≤ v9 then
    f_X8_holdMap_J121 N x7 x10 M6 (f_X8_holdMap_L58 N x1 x2 x3 x4 t39_0 v5 n58)
    else
    nm_l ((x2 * x4) + (x3 * v8)) fun v14 =>
    nm_s1 (f_X8_note N x1 v14 (v14 + (x3 * (v9 - (1 : Int32)))) v9 M6) fun M15 =>
    f_X8_holdMap_J121 N x7 x10 M15 (f_X8_holdMap_L58 N x1 x2 x3 x4 t39_0 v5 n58))))
def f_X8_holdMap_J39 (N : Nat → Nat) (x1 : Int32) (x2 : Int32) (x3 : Int32) (x4 : Int32) (t39_0 : Int64) (M1 : cm) (k : Int32 → cm → Option (cm)) : Option (cm) :=
nm_l (f_X0_heads t39_0) fun v4 =>
nm_l (f_J13_bitCount_95d88 v4) fun v5 =>
nm_s1 (f_X8_holdMap_L58 N x1 x2 x3 x4 t39_0 v5 nm_F v4 (0 : Int32) M1) fun M17 =>
k (x4 + 1) M17
def f_X8_holdMap_L3 (N : Nat → Nat) (x1 : Int32) (x2 : Int32) (x3 : Int32) : Nat → Int32 → cm → Option (cm)
  | 0, _, _ => none
  | n3 + 1, x4, M1 =>
    (if (64 : Int32) ≤ x4 then
    some M1
    else
    nm_c x1 16 (
    (if (M1.1 204 x1.toNatClampNeg) = 0 then
    nm_c x4 64 (
    f_X8_holdMap_J39 N x1 x2 x3 x4 (M1.2 208 x4.toNatClampNeg) M1 (f_X8_holdMap_L3 N x1 x2 x3 n3))
    else
    nm_c x4 64 (
    nm_s1 (f_X0_gaps (M1.2 208 x4.toNatClampNeg)) fun r21 =>
    f_X8_holdMap_J39 N x1 x2 x3 x4 r21 M1 (f_X8_holdMap_L3 N x1 x2 x3 n3)))))
def f_X8_holdMap (N : Nat → Nat) (x1 : Int32) (x2 : Int32) (x3 : Int32) (M : cm) : Option (cm) :=
nm_s1 (f_X8_holdMap_L3 N x1 x2 x3 nm_F (0 : Int32) M) fun M24 =>
some M24
set_option maxHeartbeats 4000000 in
set_option maxRecDepth 100000 in
theorem k_X8_holdMap {l : Launch} {D : va_G} {Y : nm_Y} {s0 : Nat} {X : va_W} {ad : Nat → Nat} {nl : List Nat} {N K : Nat → Nat} (hL : cl_L nl K) (hN : cl_N N) {x1 : Int32} {x2 : Int32} {x3 : Int32} {M : cm} {M0 : cm} (hf : f_X8_holdMap N x1 x2 x3 M = some M0) :
    nm_Met l yX8_holdMap cX8_holdMap 14 none { frames := 3, cells := 0, slots := 0, locals := 64 } [.ref (ad 200), .int x1, .int x2, .int x3] D Y s0 (nm_W Y X nl ad (M.1, M.2, N, K)) (nm_Qv D s0 (nm_W Y X nl ad (M0.1, M0.2, N, K))) 0 0 := by
  refine nm_of (by decide) (Nat.le_of_ble_eq_true rfl) ?_
  intro p e R s m args below meth c Q ls hx hb hr hlocks hml hown hts hs0 hK hZ hRf hRl hRc hRs hQ hP hD hl
  have hH : nm_H D Y (fun q => s0 ≤ q) s.heap X nl ad (M.1, M.2, N, K) s.heap [] := ⟨hP, hD, va_S.rf⟩
  have hl : lv_has ls 14 [(0, .ref (ad 200)), (1, .int x1), (2, .int x2), (3, .int x3)] := hl
  unfold f_X8_holdMap at hf
  refine lv_iconst (v := 0) hx hb dX8_holdMap_0 (by decide) ?_
  refine lv_istore (lv' := [(4, .int (0 : Int32)), (0, .ref (ad 200)), (1, .int x1), (2, .int x2), (3, .int x3)]) hx hb dX8_holdMap_1 hl (by decide) rfl (fun ls hl => ?_)
  have hL3 : ∀ (n3 : Nat) (x4 : Int32) (M1 : cm) (H : Heap) (locs : List Loc) (ls : Array Slot) (o3 : cm), nm_H D Y (fun q => s0 ≤ q) s.heap X nl ad (M1.1, M1.2, N, K) H locs → lv_has ls 14 [(0, .ref (ad 200)), (1, .int x1), (2, .int x2), (3, .int x3), (4, .int x4)] → f_X8_holdMap_L3 N x1 x2 x3 n3 x4 M1 = some o3 → (∀ (H : Heap) (locs : List Loc) (ls : Array Slot), nm_H D Y (fun q => s0 ≤ q) s.heap X nl ad (o3.1, o3.2, N, K) H locs → lv_has ls 14 [] → W p l e R s m args below meth c H locs 0 0 Q (F0 m 142 ls [])) → W p l e R s m args below meth c H locs 0 0 Q (F0 m 3 ls []) := by
    intro n3
    induction n3 with
    | zero =>
      intro x4 M1 H locs ls o3 hH hl hf hX3
      cases hf
    | succ n3 ih3 =>
      intro x4 M1 H locs ls o3 hH hl hf hX3
      rw [f_X8_holdMap_L3] at hf
      refine lv_iload hx hb dX8_holdMap_3 (lv_at hl 4 rfl) ?_
      refine lv_bipush (v := 64) hx hb dX8_holdMap_5 (by decide) ?_
      refine lv_icmp_ge (tgt := 142) hx hb dX8_holdMap_7 (by decide) (fun c2 => ?_) (fun c2 => ?_)
      · have hf := nm_it c2 hf
        cases hf
        exact hX3 _ _ _ hH (lv_sub hl [] rfl)
      · have hf := nm_ie c2 hf
        refine lv_aload_n hx hb dX8_holdMap_10 rfl (lv_at hl 0 rfl) ?_
        refine gf_8_6 hK hx hb hts hown hH (cl_n200 hL) (cl_k200 hL) (hts _ tw_132) (fun _ h9 => h9) dX8_holdMap_11 ?_
        refine lv_iload_n hx hb dX8_holdMap_14 rfl (lv_at hl 1 rfl) ?_
        obtain ⟨hi3, hf⟩ := nm_chk hf
        refine nm_iald hx hb hK hH (cl_n204 hL) (cl_k204 hL) (cl_l204 hN) hi3 dX8_holdMap_15 ?_
        have hJ39 : ∀ (t39_0 : Int64) (H : Heap) (locs : List Loc) (ls : Array Slot), nm_H D Y (fun q => s0 ≤ q) s.heap X nl ad (M1.1, M1.2, N, K) H locs → lv_has ls 14 [(0, .ref (ad 200)), (1, .int x1), (2, .int x2), (3, .int x3), (4, .int x4)] → f_X8_holdMap_J39 N x1 x2 x3 x4 t39_0 M1 (f_X8_holdMap_L3 N x1 x2 x3 n3) = some o3 → W p l e R s m args below meth c H locs 0 0 Q (F0 m 39 ls [.long t39_0]) := by
          intro t39_0 H locs ls hH hl hf
          unfold f_X8_holdMap_J39 at hf
          refine lv_lstore (lv' := [(5, .long t39_0), (0, .ref (ad 200)), (1, .int x1), (2, .int x2), (3, .int x3), (4, .int x4)]) hx hb dX8_holdMap_39 hl (by decide) rfl (fun ls hl => ?_)
          refine lv_lload hx hb dX8_holdMap_41 (lv_at hl 0 rfl) ?_
          refine nm_calll (nm_runS (X := X) (nl := nl) (k_X0_heads hL hN (hf := (rfl : f_X0_heads t39_0 = _))) hx hb hml hown hts hs0 hK hZ hH tw_608 tw_750 tw_607 tw_13 hd_X0_heads rfl rfl ⟨Nat.le_trans (Nat.le_of_ble_eq_true rfl) hRf, Nat.le_trans (Nat.le_of_ble_eq_true rfl) hRl⟩ rfl hl.1 rfl (Nat.le_of_ble_eq_true rfl) dX8_holdMap_43 ⟨Nat.zero_le _, Nat.zero_le _⟩) hH (fun H locs hH => ?_)
          have hH : nm_H D Y (fun q => s0 ≤ q) s.heap X nl ad (M1.1, M1.2, N, K) H locs := hH
          obtain ⟨v4, ev4, hf⟩ := nm_let hf
          refine nm_topl ev4 ?_
          refine lv_lstore (lv' := [(7, .long v4), (5, .long t39_0), (0, .ref (ad 200)), (1, .int x1), (2, .int x2), (3, .int x3), (4, .int x4)]) hx hb dX8_holdMap_46 hl (by decide) rfl (fun ls hl => ?_)
          refine lv_lload hx hb dX8_holdMap_48 (lv_at hl 0 rfl) ?_
          refine nm_calli (nm_runS (X := X) (nl := nl) (k_J13_bitCount_95d88 hL hN (hf := (rfl : f_J13_bitCount_95d88 v4 = _))) hx hb hml hown hts hs0 hK hZ hH tw_611 tw_717 tw_610 tw_17 hd_J13_bitCount_95d88 rfl rfl ⟨Nat.le_trans (Nat.le_of_ble_eq_true rfl) hRf, Nat.le_trans (Nat.le_of_ble_eq_true rfl) hRl⟩ rfl hl.1 rfl (Nat.le_of_ble_eq_true rfl) dX8_holdMap_50 ⟨Nat.zero_le _, Nat.zero_le _⟩) hH (fun H locs hH => ?_)
          have hH : nm_H D Y (fun q => s0 ≤ q) s.heap X nl ad (M1.1, M1.2, N, K) H locs := hH
          obtain ⟨v5, ev5, hf⟩ := nm_let hf
          refine nm_topi ev5 ?_
          refine lv_istore (lv' := [(9, .int v5), (7, .long v4), (5, .long t39_0), (0, .ref (ad 200)), (1, .int x1), (2, .int x2), (3, .int x3), (4, .int x4)]) hx hb dX8_holdMap_53 hl (by decide) rfl (fun ls hl => ?_)
          refine lv_iconst (v := 0) hx hb dX8_holdMap_55 (by decide) ?_
          refine lv_istore (lv' := [(10, .int (0 : Int32)), (9, .int v5), (7, .long v4), (5, .long t39_0), (0, .ref (ad 200)), (1, .int x1), (2, .int x2), (3, .int x3), (4, .int x4)]) hx hb dX8_holdMap_56 hl (by decide) rfl (fun ls hl => ?_)
          have hL58 : ∀ (n58 : Nat) (x7 : Int64) (x10 : Int32) (M6 : cm) (H : Heap) (locs : List Loc) (ls : Array Slot) (o58 : cm), nm_H D Y (fun q => s0 ≤ q) s.heap X nl ad (M6.1, M6.2, N, K) H locs → lv_has ls 14 [(0, .ref (ad 200)), (1, .int x1), (2, .int x2), (3, .int x3), (4, .int x4), (5, .long t39_0), (7, .long x7), (9, .int v5), (10, .int x10)] → f_X8_holdMap_L58 N x1 x2 x3 x4 t39_0 v5 n58 x7 x10 M6 = some o58 → (∀ (H : Heap) (locs : List Loc) (ls : Array Slot), nm_H D Y (fun q => s0 ≤ q) s.heap X nl ad (o58.1, o58.2, N, K) H locs → lv_has ls 14 [(0, .ref (ad 200)), (1, .int x1), (2, .int x2), (3, .int x3), (4, .int x4)] → W p l e R s m args below meth c H locs 0 0 Q (F0 m 136 ls [])) → W p l e R s m args below meth c H locs 0 0 Q (F0 m 58 ls []) := by
            intro n58
            induction n58 with
            | zero =>
              intro x7 x10 M6 H locs ls o58 hH hl hf hX58
              cases hf
            | succ n58 ih58 =>
              intro x7 x10 M6 H locs ls o58 hH hl hf hX58
              rw [f_X8_holdMap_L58] at hf
              refine lv_iload hx hb dX8_holdMap_58 (lv_at hl 8 rfl) ?_
              refine lv_iload hx hb dX8_holdMap_60 (lv_at hl 7 rfl) ?_
              refine lv_icmp_ge (tgt := 136) hx hb dX8_holdMap_62 (by decide) (fun c7 => ?_) (fun c7 => ?_)
              · have hf := nm_it c7 hf
                cases hf
                exact hX58 _ _ _ hH (lv_sub hl [0, 1, 2, 3, 4] rfl)
              · have hf := nm_ie c7 hf
                refine lv_lload hx hb dX8_holdMap_65 (lv_at hl 6 rfl) ?_
                refine nm_calli (nm_runS (X := X) (nl := nl) (k_X0_lowest hL hN (hf := (rfl : f_X0_lowest x7 = _))) hx hb hml hown hts hs0 hK hZ hH tw_625 tw_718 tw_624 tw_13 hd_X0_lowest rfl rfl ⟨Nat.le_trans (Nat.le_of_ble_eq_true rfl) hRf, Nat.le_trans (Nat.le_of_ble_eq_true rfl) hRl⟩ rfl hl.1 rfl (Nat.le_of_ble_eq_true rfl) dX8_holdMap_67 ⟨Nat.zero_le _, Nat.zero_le _⟩) hH (fun H locs hH => ?_)
                have hH : nm_H D Y (fun q => s0 ≤ q) s.heap X nl ad (M6.1, M6.2, N, K) H locs := hH
                obtain ⟨v8, ev8, hf⟩ := nm_let hf
                refine nm_topi ev8 ?_
                refine lv_istore (lv' := [(11, .int v8), (0, .ref (ad 200)), (1, .int x1), (2, .int x2), (3, .int x3), (4, .int x4), (5, .long t39_0), (7, .long x7), (9, .int v5), (10, .int x10)]) hx hb dX8_holdMap_70 hl (by decide) rfl (fun ls hl => ?_)
                refine lv_lload hx hb dX8_holdMap_72 (lv_at hl 6 rfl) ?_
                refine lv_iload hx hb dX8_holdMap_74 (lv_at hl 0 rfl) ?_
                refine nm_calli (nm_runS (X := X) (nl := nl) (k_X0_stretch hL hN (hf := (rfl : f_X0_stretch t39_0 v8 = _))) hx hb hml hown hts hs0 hK hZ hH tw_649 tw_751 tw_648 tw_13 hd_X0_stretch rfl rfl ⟨Nat.le_trans (Nat.le_of_ble_eq_true rfl) hRf, Nat.le_trans (Nat.le_of_ble_eq_true rfl) hRl⟩ rfl hl.1 rfl (Nat.le_of_ble_eq_true rfl) dX8_holdMap_76 ⟨Nat.zero_le _, Nat.zero_le _⟩) hH (fun H locs hH => ?_)
                have hH : nm_H D Y (fun q => s0 ≤ q) s.heap X nl ad (M6.1, M6.2, N, K) H locs := hH
                obtain ⟨v9, ev9, hf⟩ := nm_let hf
                refine nm_topi ev9 ?_
                refine lv_istore (lv' := [(12, .int v9), (11, .int v8), (0, .ref (ad 200)), (1, .int x1), (2, .int x2), (3, .int x3), (4, .int x4), (5, .long t39_0), (7, .long x7), (9, .int v5), (10, .int x10)]) hx hb dX8_holdMap_79 hl (by decide) rfl (fun ls hl => ?_)
                refine lv_iload hx hb dX8_holdMap_81 (lv_at hl 0 rfl) ?_
                refine lv_aload_n hx hb dX8_holdMap_83 rfl (lv_at hl 2 rfl) ?_
                refine gf_8_9 hK hx hb hts hown hH (cl_n200 hL) (cl_k200 hL) (hts _ tw_135) (fun _ h9 => h9) dX8_holdMap_84 ?_
                refine lv_iload_n hx hb dX8_holdMap_87 rfl (lv_at hl 3 rfl) ?_
                obtain ⟨hi10, hf⟩ := nm_chk hf
                refine nm_iald hx hb hK hH (cl_n207 hL) (cl_k207 hL) (cl_l207 hN) hi10 dX8_holdMap_88 ?_
                have hJ121 : ∀ (M11 : cm) (H : Heap) (locs : List Loc) (ls : Array Slot), nm_H D Y (fun q => s0 ≤ q) s.heap X nl ad (M11.1, M11.2, N, K) H locs → lv_has ls 14 [(0, .ref (ad 200)), (1, .int x1), (2, .int x2), (3, .int x3), (4, .int x4), (5, .long t39_0), (7, .long x7), (9, .int v5), (10, .int x10)] → f_X8_holdMap_J121 N x7 x10 M11 (f_X8_holdMap_L58 N x1 x2 x3 x4 t39_0 v5 n58) = some o58 → W p l e R s m args below meth c H locs 0 0 Q (F0 m 121 ls []) := by
                  intro M11 H locs ls hH hl hf
                  unfold f_X8_holdMap_J121 at hf
                  refine lv_lload hx hb dX8_holdMap_121 (lv_at hl 6 rfl) ?_
                  refine lv_lload hx hb dX8_holdMap_123 (lv_at hl 6 rfl) ?_
                  refine lv_lconst (v := 1) hx hb dX8_holdMap_125 (by decide) ?_
                  refine lv_lsub hx hb dX8_holdMap_126 ?_
                  refine lv_land hx hb dX8_holdMap_127 ?_
                  obtain ⟨v12, ev12, hf⟩ := nm_let hf
                  refine nm_topl ev12 ?_
                  refine lv_lstore (lv' := [(7, .long v12), (0, .ref (ad 200)), (1, .int x1), (2, .int x2), (3, .int x3), (4, .int x4), (5, .long t39_0), (9, .int v5), (10, .int x10)]) hx hb dX8_holdMap_128 hl (by decide) rfl (fun ls hl => ?_)
                  refine lv_iinc (v := x10 + 1) (lv' := [(10, .int (x10 + 1)), (7, .long v12), (0, .ref (ad 200)), (1, .int x1), (2, .int x2), (3, .int x3), (4, .int x4), (5, .long t39_0), (9, .int v5)]) hx hb dX8_holdMap_130 hl (k := 8) rfl rfl (by decide) rfl (fun ls hl => ?_)
                  refine lv_goto (tgt := 58) hx hb dX8_holdMap_133 (by decide) ?_
                  exact ih58 v12 (x10 + 1) M11 _ _ _ _ hH (lv_sub hl [2, 3, 4, 5, 6, 7, 1, 8, 0] rfl) hf hX58
                refine lv_icmp_ge (tgt := 121) hx hb dX8_holdMap_89 (by decide) (fun c13 => ?_) (fun c13 => ?_)
                · have hf := nm_it c13 hf
                  exact hJ121  M6 _ _ _ hH (lv_sub hl [2, 3, 4, 5, 6, 7, 8, 9, 10] rfl) hf
                · have hf := nm_ie c13 hf
                  refine lv_iload_n hx hb dX8_holdMap_92 rfl (lv_at hl 4 rfl) ?_
                  refine lv_iload hx hb dX8_holdMap_93 (lv_at hl 6 rfl) ?_
                  refine lv_imul hx hb dX8_holdMap_95 ?_
                  refine lv_iload_n hx hb dX8_holdMap_96 rfl (lv_at hl 5 rfl) ?_
                  refine lv_iload hx hb dX8_holdMap_97 (lv_at hl 1 rfl) ?_
                  refine lv_imul hx hb dX8_holdMap_99 ?_
                  refine lv_iadd hx hb dX8_holdMap_100 ?_
                  obtain ⟨v14, ev14, hf⟩ := nm_let hf
                  refine nm_topi ev14 ?_
                  refine lv_istore (lv' := [(13, .int v14), (12, .int v9), (11, .int v8), (0, .ref (ad 200)), (1, .int x1), (2, .int x2), (3, .int x3), (4, .int x4), (5, .long t39_0), (7, .long x7), (9, .int v5), (10, .int x10)]) hx hb dX8_holdMap_101 hl (by decide) rfl (fun ls hl => ?_)
                  refine lv_aload_n hx hb dX8_holdMap_103 rfl (lv_at hl 3 rfl) ?_
                  refine lv_iload_n hx hb dX8_holdMap_104 rfl (lv_at hl 4 rfl) ?_
                  refine lv_iload hx hb dX8_holdMap_105 (lv_at hl 0 rfl) ?_
                  refine lv_iload hx hb dX8_holdMap_107 (lv_at hl 0 rfl) ?_
                  refine lv_iload_n hx hb dX8_holdMap_109 rfl (lv_at hl 6 rfl) ?_
                  refine lv_iload hx hb dX8_holdMap_110 (lv_at hl 1 rfl) ?_
                  refine lv_iconst (v := 1) hx hb dX8_holdMap_112 (by decide) ?_
                  refine lv_isub hx hb dX8_holdMap_113 ?_
                  refine lv_imul hx hb dX8_holdMap_114 ?_
                  refine lv_iadd hx hb dX8_holdMap_115 ?_
                  refine lv_iload hx hb dX8_holdMap_116 (lv_at hl 1 rfl) ?_
                  obtain ⟨M15, hc16, hf⟩ := nm_sd1 hf
                  refine nm_callv (nm_runV (X := X) (nl := nl) (k_X8_note hL hN (hf := hc16)) hx hb hml hown hts hs0 hK hZ hH tw_728 tw_725 tw_727 (sw_X8_note) tw_5 hd_X8_note (cl_n200 hL) (cl_k200 hL) (by decide) rfl rfl rfl ⟨Nat.le_trans (Nat.le_of_ble_eq_true rfl) hRf, Nat.le_trans (Nat.le_of_ble_eq_true rfl) hRl⟩ rfl hl.1 rfl (Nat.le_of_ble_eq_true rfl) dX8_holdMap_118 ⟨Nat.zero_le _, Nat.zero_le _⟩) hH (fun H locs hH => ?_)
                  have hH : nm_H D Y (fun q => s0 ≤ q) s.heap X nl ad (M15.1, M15.2, N, K) H locs := hH
                  exact hJ121  M15 _ _ _ hH (lv_sub hl [3, 4, 5, 6, 7, 8, 9, 10, 11] rfl) hf
          obtain ⟨M17, hl18, hf⟩ := nm_sd1 hf
          refine hL58 nm_F v4 (0 : Int32) M1 _ _ _ _ hH (lv_sub hl [4, 5, 6, 7, 8, 3, 2, 1, 0] rfl) hl18 (fun H locs ls hH hl => ?_)
          have hl : lv_has ls 14 [(0, .ref (ad 200)), (1, .int x1), (2, .int x2), (3, .int x3), (4, .int x4)] := hl
          have hH : nm_H D Y (fun q => s0 ≤ q) s.heap X nl ad (M17.1, M17.2, N, K) H locs := hH
          refine lv_iinc (v := x4 + 1) (lv' := [(4, .int (x4 + 1)), (0, .ref (ad 200)), (1, .int x1), (2, .int x2), (3, .int x3)]) hx hb dX8_holdMap_136 hl (k := 4) rfl rfl (by decide) rfl (fun ls hl => ?_)
          refine lv_goto (tgt := 3) hx hb dX8_holdMap_139 (by decide) ?_
          exact ih3 (x4 + 1) M17 _ _ _ _ hH (lv_sub hl [1, 2, 3, 4, 0] rfl) hf hX3
        refine lv_if_ne (tgt := 29) hx hb dX8_holdMap_16 (by decide) (fun c19 => ?_) (fun c19 => ?_)
        · have hf := nm_ie c19 hf
          refine lv_aload_n hx hb dX8_holdMap_29 rfl (lv_at hl 0 rfl) ?_
          refine gf_8_10 hK hx hb hts hown hH (cl_n200 hL) (cl_k200 hL) (hts _ tw_136) (fun _ h9 => h9) dX8_holdMap_30 ?_
          refine lv_iload hx hb dX8_holdMap_33 (lv_at hl 4 rfl) ?_
          obtain ⟨hi20, hf⟩ := nm_chk hf
          refine nm_lald hx hb hK hH (cl_n208 hL) (cl_k208 hL) (cl_l208 hN) hi20 dX8_holdMap_35 ?_
          obtain ⟨r21, hc22, hf⟩ := nm_sd1 hf
          refine nm_calll (nm_runS (X := X) (nl := nl) (k_X0_gaps hL hN (hf := hc22)) hx hb hml hown hts hs0 hK hZ hH tw_749 tw_747 tw_748 tw_13 hd_X0_gaps rfl rfl ⟨Nat.le_trans (Nat.le_of_ble_eq_true rfl) hRf, Nat.le_trans (Nat.le_of_ble_eq_true rfl) hRl⟩ rfl hl.1 rfl (Nat.le_of_ble_eq_true rfl) dX8_holdMap_36 ⟨Nat.zero_le _, Nat.zero_le _⟩) hH (fun H locs hH => ?_)
          have hH : nm_H D Y (fun q => s0 ≤ q) s.heap X nl ad (M1.1, M1.2, N, K) H locs := hH
          exact hJ39 r21 _ _ _ hH (lv_sub hl [0, 1, 2, 3, 4] rfl) hf
        · have hf := nm_it c19 hf
          refine lv_aload_n hx hb dX8_holdMap_19 rfl (lv_at hl 0 rfl) ?_
          refine gf_8_10 hK hx hb hts hown hH (cl_n200 hL) (cl_k200 hL) (hts _ tw_136) (fun _ h9 => h9) dX8_holdMap_20 ?_
          refine lv_iload hx hb dX8_holdMap_23 (lv_at hl 4 rfl) ?_
          obtain ⟨hi23, hf⟩ := nm_chk hf
          refine nm_lald hx hb hK hH (cl_n208 hL) (cl_k208 hL) (cl_l208 hN) hi23 dX8_holdMap_25 ?_
          refine lv_goto (tgt := 39) hx hb dX8_holdMap_26 (by decide) ?_
          exact hJ39 (M1.2 208 x4.toNatClampNeg) _ _ _ hH (lv_sub hl [0, 1, 2, 3, 4] rfl) hf
  obtain ⟨M24, hl25, hf⟩ := nm_sd1 hf
  refine hL3 nm_F (0 : Int32) M _ _ _ _ hH (lv_sub hl [1, 2, 3, 4, 0] rfl) hl25 (fun H locs ls hH hl => ?_)
  have hl : lv_has ls 14 [] := hl
  have hH : nm_H D Y (fun q => s0 ≤ q) s.heap X nl ad (M24.1, M24.2, N, K) H locs := hH
  exact nm_vret hx hb hr hlocks hQ hH (congrArg (fun q => (q.1, q.2, N, K)) (Option.some.inj hf)) dX8_holdMap_142
def f_X8_holdLines (N : Nat → Nat) (x1 : Int32) (M : cm) : Option (cm) :=
nm_c x1 16 (
nm_cp ((64 : Int32) * (M.1 205 x1.toNatClampNeg)) (0 : Int32) (64 : Int32) 1024 64 (
nm_l ((M.1, va_up M.2 208 (va_cpy (M.2 101) (M.2 208) ((64 : Int32) * (M.1 205 x1.toNatClampNeg)).toNatClampNeg (0 : Int32).toNatClampNeg (64 : Int32).toNatClampNeg))) fun M3 =>
nm_s1 (f_X8_holdMap N x1 (64 : Int32) (1 : Int32) M3) fun M4 =>
nm_s1 (f_X0_transpose 208 N M4) fun M6 =>
nm_s1 (f_X8_holdMap N x1 (1 : Int32) (64 : Int32) M6) fun M8 =>
some M8))
set_option maxHeartbeats 4000000 in
set_option maxRecDepth 100000 in
theorem k_X8_holdLines {l : Launch} {D : va_G} {Y : nm_Y} {s0 : Nat} {X : va_W} {ad : Nat → Nat} {nl : List Nat} {N K : Nat → Nat} (hL : cl_L nl K) (hN : cl_N N) {x1 : Int32} {M : cm} {M0 : cm} (hf : f_X8_holdLines N x1 M = some M0) :
    nm_Met l yX8_holdLines cX8_holdLines 3 none { frames := 4, cells := 0, slots := 0, locals := 97 } [.ref (ad 200), .int x1, .ref (ad 100)] D Y s0 (nm_W Y X nl ad (M.1, M.2, N, K)) (nm_Qv D s0 (nm_W Y X nl ad (M0.1, M0.2, N, K))) 0 0 := by
  refine nm_of (by decide) (Nat.le_of_ble_eq_true rfl) ?_
  intro p e R s m args below meth c Q ls hx hb hr hlocks hml hown hts hs0 hK hZ hRf hRl hRc hRs hQ hP hD hl
  have hH : nm_H D Y (fun q => s0 ≤ q) s.heap X nl ad (M.1, M.2, N, K) s.heap [] := ⟨hP, hD, va_S.rf⟩
  have hl : lv_has ls 3 [(0, .ref (ad 200)), (1, .int x1), (2, .ref (ad 100))] := hl
  unfold f_X8_holdLines at hf
  refine lv_aload_n hx hb dX8_holdLines_0 rfl (lv_at hl 2 rfl) ?_
  refine gf_3_1 hK hx hb hts hown hH (cl_n100 hL) (cl_k100 hL) (hts _ tw_87) (fun _ h9 => h9) dX8_holdLines_1 ?_
  refine lv_bipush (v := 64) hx hb dX8_holdLines_4 (by decide) ?_
  refine lv_aload_n hx hb dX8_holdLines_6 rfl (lv_at hl 0 rfl) ?_
  refine gf_8_7 hK hx hb hts hown hH (cl_n200 hL) (cl_k200 hL) (hts _ tw_133) (fun _ h9 => h9) dX8_holdLines_7 ?_
  refine lv_iload_n hx hb dX8_holdLines_10 rfl (lv_at hl 1 rfl) ?_
  obtain ⟨hi1, hf⟩ := nm_chk hf
  refine nm_iald hx hb hK hH (cl_n205 hL) (cl_k205 hL) (cl_l205 hN) hi1 dX8_holdLines_11 ?_
  refine lv_imul hx hb dX8_holdLines_12 ?_
  refine lv_aload_n hx hb dX8_holdLines_13 rfl (lv_at hl 0 rfl) ?_
  refine gf_8_10 hK hx hb hts hown hH (cl_n200 hL) (cl_k200 hL) (hts _ tw_136) (fun _ h9 => h9) dX8_holdLines_14 ?_
  refine lv_iconst (v := 0) hx hb dX8_holdLines_17 (by decide) ?_
  refine lv_bipush (v := 64) hx hb dX8_holdLines_18 (by decide) ?_
  obtain ⟨hi2, hf⟩ := nm_cpk hf
  obtain ⟨M3, eM3, hf⟩ := nm_let hf
  refine nm_copyJ hx hb (hml.trans hl.1.symm) hown hts tw_742 hK hH (cl_n101 hL) (cl_k101 hL) (cl_n208 hL) (cl_k208 hL) (cl_l101 hN) (cl_l208 hN) hi2 (Nat.le_trans (Nat.le_of_ble_eq_true rfl) hRf) (Nat.le_trans (by decide) hRl) dX8_holdLines_20 (fun H locs hH => ?_)
  have hH : nm_H D Y (fun q => s0 ≤ q) s.heap X nl ad (M3.1, M3.2, N, K) H locs := by rw [eM3]; exact hH
  refine lv_aload_n hx hb dX8_holdLines_23 rfl (lv_at hl 0 rfl) ?_
  refine lv_iload_n hx hb dX8_holdLines_24 rfl (lv_at hl 1 rfl) ?_
  refine lv_bipush (v := 64) hx hb dX8_holdLines_25 (by decide) ?_
  refine lv_iconst (v := 1) hx hb dX8_holdLines_27 (by decide) ?_
  obtain ⟨M4, hc5, hf⟩ := nm_sd1 hf
  refine nm_callv (nm_runV (X := X) (nl := nl) (k_X8_holdMap hL hN (hf := hc5)) hx hb hml hown hts hs0 hK hZ hH tw_746 tw_743 tw_745 (sw_X8_holdMap) tw_5 hd_X8_holdMap (cl_n200 hL) (cl_k200 hL) (by decide) rfl rfl rfl ⟨Nat.le_trans (Nat.le_of_ble_eq_true rfl) hRf, Nat.le_trans (Nat.le_of_ble_eq_true rfl) hRl⟩ rfl hl.1 rfl (Nat.le_of_ble_eq_true rfl) dX8_holdLines_28 ⟨Nat.zero_le _, Nat.zero_le _⟩) hH (fun H locs hH => ?_)
  have hH : nm_H D Y (fun q => s0 ≤ q) s.heap X nl ad (M4.1, M4.2, N, K) H locs := hH
  refine lv_aload_n hx hb dX8_holdLines_31 rfl (lv_at hl 0 rfl) ?_
  refine gf_8_10 hK hx hb hts hown hH (cl_n200 hL) (cl_k200 hL) (hts _ tw_136) (fun _ h9 => h9) dX8_holdLines_32 ?_
  obtain ⟨M6, hc7, hf⟩ := nm_sd1 hf
  refine nm_callv (nm_runS (X := X) (nl := nl) (k_X0_transpose hL hN (cl_n208 hL) (cl_k208 hL) (hf := hc7)) hx hb hml hown hts hs0 hK hZ hH tw_539 tw_752 tw_538 tw_13 hd_X0_transpose rfl rfl ⟨Nat.le_trans (Nat.le_of_ble_eq_true rfl) hRf, Nat.le_trans (Nat.le_of_ble_eq_true rfl) hRl⟩ rfl hl.1 rfl (Nat.le_of_ble_eq_true rfl) dX8_holdLines_35 ⟨Nat.zero_le _, Nat.zero_le _⟩) hH (fun H locs hH => ?_)
  have hH : nm_H D Y (fun q => s0 ≤ q) s.heap X nl ad (M6.1, M6.2, N, K) H locs := hH
  refine lv_aload_n hx hb dX8_holdLines_38 rfl (lv_at hl 0 rfl) ?_
  refine lv_iload_n hx hb dX8_holdLines_39 rfl (lv_at hl 1 rfl) ?_
  refine lv_iconst (v := 1) hx hb dX8_holdLines_40 (by decide) ?_
  refine lv_bipush (v := 64) hx hb dX8_holdLines_41 (by decide) ?_
  obtain ⟨M8, hc9, hf⟩ := nm_sd1 hf
  refine nm_callv (nm_runV (X := X) (nl := nl) (k_X8_holdMap hL hN (hf := hc9)) hx hb hml hown hts hs0 hK hZ hH tw_746 tw_743 tw_745 (sw_X8_holdMap) tw_5 hd_X8_holdMap (cl_n200 hL) (cl_k200 hL) (by decide) rfl rfl rfl ⟨Nat.le_trans (Nat.le_of_ble_eq_true rfl) hRf, Nat.le_trans (Nat.le_of_ble_eq_true rfl) hRl⟩ rfl hl.1 rfl (Nat.le_of_ble_eq_true rfl) dX8_holdLines_43 ⟨Nat.zero_le _, Nat.zero_le _⟩) hH (fun H locs hH => ?_)
  have hH : nm_H D Y (fun q => s0 ≤ q) s.heap X nl ad (M8.1, M8.2, N, K) H locs := hH
  exact nm_vret hx hb hr hlocks hQ hH (congrArg (fun q => (q.1, q.2, N, K)) (Option.some.inj hf)) dX8_holdLines_46
def f_X8_leastLacking_L64 (x1 : Int32) (v3 : Int32) (v4 : Int64) (M : cm) (kx64 : Unit → Option Int32) : Nat → Int32 → Option Int32
  | 0, _ => none
  | n64 + 1, x9 =>
    (if v3 < x9 then
    kx64 ()
    else
    nm_c (x1 + x9) 1024 (
    nm_l (v4 &&& ((M.2 101 (x1 + x9).toNatClampNeg) ^^^ (-1 : Int64))) fun v8 =>
    (if (lg_cmp v8 (0 : Int64)) = 0 then
    f_X8_leastLacking_L64 x1 v3 v4 M kx64 n64 (x9 + 1)
    else
    some (((64 : Int32) * x9) + (f_X0_lowest v8)))))
def f_X8_leastLacking (x1 : Int32) (x2 : Int32) (x3 : Int32) (M : cm) : Option Int32 :=
nm_l (nm_max ((x2 - x2 / (64 : Int32) * (64 : Int32)) - x3) (0 : Int32)) fun v1 =>
nm_l (nm_min ((x2 - x2 / (64 : Int32) * (64 : Int32)) + x3) (63 : Int32)) fun v2 =>
nm_l (nm_min ((x2 / (64 : Int32)) + x3) (63 : Int32)) fun v3 =>
nm_l (f_X0_span v1 ((v2 - v1) + (1 : Int32))) fun v4 =>
nm_l (nm_max ((x2 / (64 : Int32)) - x3) (0 : Int32)) fun v5 =>
nm_l (fun (_ : Unit) =>
some x2) fun kx64 =>
f_X8_leastLacking_L64 x1 v3 v4 M kx64 nm_F v5
set_option maxHeartbeats 4000000 in
set_option maxRecDepth 100000 in
theorem k_X8_leastLacking {l : Launch} {D : va_G} {Y : nm_Y} {s0 : Nat} {X : va_W} {ad : Nat → Nat} {nl : List Nat} {N K : Nat → Nat} (hL : cl_L nl K) (hN : cl_N N) {x1 : Int32} {x2 : Int32} {x3 : Int32} {M : cm} {r0 : Int32} (hf : f_X8_leastLacking x1 x2 x3 M = some r0) :
    nm_Met l yX8_leastLacking cX8_leastLacking 12 (some .int) { frames := 2, cells := 0, slots := 0, locals := 42 } [.ref (ad 101), .int x1, .int x2, .int x3] D Y s0 (nm_W Y X nl ad (M.1, M.2, N, K)) (nm_Qi D s0 r0 (nm_W Y X nl ad (M.1, M.2, N, K))) 0 0 := by
  refine nm_of (by decide) (Nat.le_of_ble_eq_true rfl) ?_
  intro p e R s m args below meth c Q ls hx hb hr hlocks hml hown hts hs0 hK hZ hRf hRl hRc hRs hQ hP hD hl
  have hH : nm_H D Y (fun q => s0 ≤ q) s.heap X nl ad (M.1, M.2, N, K) s.heap [] := ⟨hP, hD, va_S.rf⟩
  have hl : lv_has ls 12 [(0, .ref (ad 101)), (1, .int x1), (2, .int x2), (3, .int x3)] := hl
  unfold f_X8_leastLacking at hf
  refine lv_iload_n hx hb dX8_leastLacking_0 rfl (lv_at hl 2 rfl) ?_
  refine lv_bipush (v := 64) hx hb dX8_leastLacking_1 (by decide) ?_
  refine lv_irem hx hb dX8_leastLacking_3 (by decide) ?_
  refine lv_iload_n hx hb dX8_leastLacking_4 rfl (lv_at hl 3 rfl) ?_
  refine lv_isub hx hb dX8_leastLacking_5 ?_
  refine lv_iconst (v := 0) hx hb dX8_leastLacking_6 (by decide) ?_
  refine nm_mmax hx hb (hml.trans hl.1.symm) hown hts tw_722 (Nat.le_trans (Nat.le_of_ble_eq_true rfl) hRf) (Nat.le_trans (Nat.le_of_ble_eq_true rfl) hRl) (Nat.zero_le _) (Nat.zero_le _) dX8_leastLacking_7 ?_
  obtain ⟨v1, ev1, hf⟩ := nm_let hf
  refine nm_topi ev1 ?_
  refine lv_istore (lv' := [(4, .int v1), (0, .ref (ad 101)), (1, .int x1), (2, .int x2), (3, .int x3)]) hx hb dX8_leastLacking_10 hl (by decide) rfl (fun ls hl => ?_)
  refine lv_iload_n hx hb dX8_leastLacking_12 rfl (lv_at hl 3 rfl) ?_
  refine lv_bipush (v := 64) hx hb dX8_leastLacking_13 (by decide) ?_
  refine lv_irem hx hb dX8_leastLacking_15 (by decide) ?_
  refine lv_iload_n hx hb dX8_leastLacking_16 rfl (lv_at hl 4 rfl) ?_
  refine lv_iadd hx hb dX8_leastLacking_17 ?_
  refine lv_bipush (v := 63) hx hb dX8_leastLacking_18 (by decide) ?_
  refine nm_mmin hx hb (hml.trans hl.1.symm) hown hts tw_723 (Nat.le_trans (Nat.le_of_ble_eq_true rfl) hRf) (Nat.le_trans (Nat.le_of_ble_eq_true rfl) hRl) (Nat.zero_le _) (Nat.zero_le _) dX8_leastLacking_20 ?_
  obtain ⟨v2, ev2, hf⟩ := nm_let hf
  refine nm_topi ev2 ?_
  refine lv_istore (lv' := [(5, .int v2), (4, .int v1), (0, .ref (ad 101)), (1, .int x1), (2, .int x2), (3, .int x3)]) hx hb dX8_leastLacking_23 hl (by decide) rfl (fun ls hl => ?_)
  refine lv_iload_n hx hb dX8_leastLacking_25 rfl (lv_at hl 4 rfl) ?_
  refine lv_bipush (v := 64) hx hb dX8_leastLacking_26 (by decide) ?_
  refine lv_idiv hx hb dX8_leastLacking_28 (by decide) ?_
  refine lv_iload_n hx hb dX8_leastLacking_29 rfl (lv_at hl 5 rfl) ?_
  refine lv_iadd hx hb dX8_leastLacking_30 ?_
  refine lv_bipush (v := 63) hx hb dX8_leastLacking_31 (by decide) ?_
  refine nm_mmin hx hb (hml.trans hl.1.symm) hown hts tw_723 (Nat.le_trans (Nat.le_of_ble_eq_true rfl) hRf) (Nat.le_trans (Nat.le_of_ble_eq_true rfl) hRl) (Nat.zero_le _) (Nat.zero_le _) dX8_leastLacking_33 ?_
  obtain ⟨v3, ev3, hf⟩ := nm_let hf
  refine nm_topi ev3 ?_
  refine lv_istore (lv' := [(6, .int v3), (5, .int v2), (4, .int v1), (0, .ref (ad 101)), (1, .int x1), (2, .int x2), (3, .int x3)]) hx hb dX8_leastLacking_36 hl (by decide) rfl (fun ls hl => ?_)
  refine lv_iload hx hb dX8_leastLacking_38 (lv_at hl 2 rfl) ?_
  refine lv_iload hx hb dX8_leastLacking_40 (lv_at hl 1 rfl) ?_
  refine lv_iload hx hb dX8_leastLacking_42 (lv_at hl 2 rfl) ?_
  refine lv_isub hx hb dX8_leastLacking_44 ?_
  refine lv_iconst (v := 1) hx hb dX8_leastLacking_45 (by decide) ?_
  refine lv_iadd hx hb dX8_leastLacking_46 ?_
  refine nm_calll (nm_runS (X := X) (nl := nl) (k_X0_span hL hN (hf := (rfl : f_X0_span v1 ((v2 - v1) + (1 : Int32)) = _))) hx hb hml hown hts hs0 hK hZ hH tw_378 tw_724 tw_377 tw_13 hd_X0_span rfl rfl ⟨Nat.le_trans (Nat.le_of_ble_eq_true rfl) hRf, Nat.le_trans (Nat.le_of_ble_eq_true rfl) hRl⟩ rfl hl.1 rfl (Nat.le_of_ble_eq_true rfl) dX8_leastLacking_47 ⟨Nat.zero_le _, Nat.zero_le _⟩) hH (fun H locs hH => ?_)
  have hH : nm_H D Y (fun q => s0 ≤ q) s.heap X nl ad (M.1, M.2, N, K) H locs := hH
  obtain ⟨v4, ev4, hf⟩ := nm_let hf
  refine nm_topl ev4 ?_
  refine lv_lstore (lv' := [(7, .long v4), (6, .int v3), (5, .int v2), (4, .int v1), (0, .ref (ad 101)), (1, .int x1), (2, .int x2), (3, .int x3)]) hx hb dX8_leastLacking_50 hl (by decide) rfl (fun ls hl => ?_)
  refine lv_iload_n hx hb dX8_leastLacking_52 rfl (lv_at hl 6 rfl) ?_
  refine lv_bipush (v := 64) hx hb dX8_leastLacking_53 (by decide) ?_
  refine lv_idiv hx hb dX8_leastLacking_55 (by decide) ?_
  refine lv_iload_n hx hb dX8_leastLacking_56 rfl (lv_at hl 7 rfl) ?_
  refine lv_isub hx hb dX8_leastLacking_57 ?_
  refine lv_iconst (v := 0) hx hb dX8_leastLacking_58 (by decide) ?_
  refine nm_mmax hx hb (hml.trans hl.1.symm) hown hts tw_722 (Nat.le_trans (Nat.le_of_ble_eq_true rfl) hRf) (Nat.le_trans (Nat.le_of_ble_eq_true rfl) hRl) (Nat.zero_le _) (Nat.zero_le _) dX8_leastLacking_59 ?_
  obtain ⟨v5, ev5, hf⟩ := nm_let hf
  refine nm_topi ev5 ?_
  refine lv_istore (lv' := [(9, .int v5), (7, .long v4), (6, .int v3), (5, .int v2), (4, .int v1), (0, .ref (ad 101)), (1, .int x1), (2, .int x2), (3, .int x3)]) hx hb dX8_leastLacking_62 hl (by decide) rfl (fun ls hl => ?_)
  obtain ⟨kx64, hkx64, hf⟩ := nm_let hf
  have hX64 : ∀  (H : Heap) (locs : List Loc) (ls : Array Slot), nm_H D Y (fun q => s0 ≤ q) s.heap X nl ad (M.1, M.2, N, K) H locs → lv_has ls 12 [(2, .int x2)] → kx64 () = some r0 → W p l e R s m args below meth c H locs 0 0 Q (F0 m 111 ls []) := by
    intro  H locs ls hH hl hf
    rw [hkx64] at hf
    refine lv_iload_n hx hb dX8_leastLacking_111 rfl (lv_at hl 0 rfl) ?_
    exact nm_iret hx hb hr hlocks hQ hH (Option.some.inj hf) rfl dX8_leastLacking_112
  have hL64 : ∀ (n64 : Nat) (x9 : Int32) (H : Heap) (locs : List Loc) (ls : Array Slot), nm_H D Y (fun q => s0 ≤ q) s.heap X nl ad (M.1, M.2, N, K) H locs → lv_has ls 12 [(0, .ref (ad 101)), (1, .int x1), (2, .int x2), (6, .int v3), (7, .long v4), (9, .int x9)] → f_X8_leastLacking_L64 x1 v3 v4 M kx64 n64 x9 = some r0 → W p l e R s m args below meth c H locs 0 0 Q (F0 m 64 ls []) := by
    intro n64
    induction n64 with
    | zero =>
      intro x9 H locs ls hH hl hf
      cases hf
    | succ n64 ih64 =>
      intro x9 H locs ls hH hl hf
      rw [f_X8_leastLacking_L64] at hf
      refine lv_iload hx hb dX8_leastLacking_64 (lv_at hl 5 rfl) ?_
      refine lv_iload hx hb dX8_leastLacking_66 (lv_at hl 3 rfl) ?_
      refine lv_icmp_gt (tgt := 111) hx hb dX8_leastLacking_68 (by decide) (fun c6 => ?_) (fun c6 => ?_)
      · have hf := nm_it c6 hf
        exact hX64  _ _ _ hH (lv_sub hl [2] rfl) hf
      · have hf := nm_ie c6 hf
        refine lv_lload hx hb dX8_leastLacking_71 (lv_at hl 4 rfl) ?_
        refine lv_aload_n hx hb dX8_leastLacking_73 rfl (lv_at hl 0 rfl) ?_
        refine lv_iload_n hx hb dX8_leastLacking_74 rfl (lv_at hl 1 rfl) ?_
        refine lv_iload hx hb dX8_leastLacking_75 (lv_at hl 5 rfl) ?_
        refine lv_iadd hx hb dX8_leastLacking_77 ?_
        obtain ⟨hi7, hf⟩ := nm_chk hf
        refine nm_lald hx hb hK hH (cl_n101 hL) (cl_k101 hL) (cl_l101 hN) hi7 dX8_leastLacking_78 ?_
        refine lv_ldc2 hx hb hown (hts _ tw_716) dX8_leastLacking_79 ?_
        refine lv_lxor hx hb dX8_leastLacking_82 ?_
        refine lv_land hx hb dX8_leastLacking_83 ?_
        obtain ⟨v8, ev8, hf⟩ := nm_let hf
        refine nm_topl ev8 ?_
        refine lv_lstore (lv' := [(10, .long v8), (0, .ref (ad 101)), (1, .int x1), (2, .int x2), (6, .int v3), (7, .long v4), (9, .int x9)]) hx hb dX8_leastLacking_84 hl (by decide) rfl (fun ls hl => ?_)
        refine lv_lload hx hb dX8_leastLacking_86 (lv_at hl 0 rfl) ?_
        refine lv_lconst (v := 0) hx hb dX8_leastLacking_88 (by decide) ?_
        refine W.lcmp hx hb dX8_leastLacking_89 ?_
        refine lv_if_eq (tgt := 105) hx hb dX8_leastLacking_90 (by decide) (fun c9 => ?_) (fun c9 => ?_)
        · have hf := nm_it c9 hf
          refine lv_iinc (v := x9 + 1) (lv' := [(9, .int (x9 + 1)), (10, .long v8), (0, .ref (ad 101)), (1, .int x1), (2, .int x2), (6, .int v3), (7, .long v4)]) hx hb dX8_leastLacking_105 hl (k := 6) rfl rfl (by decide) rfl (fun ls hl => ?_)
          refine lv_goto (tgt := 64) hx hb dX8_leastLacking_108 (by decide) ?_
          exact ih64 (x9 + 1) _ _ _ hH (lv_sub hl [2, 3, 4, 5, 6, 0] rfl) hf
        · have hf := nm_ie c9 hf
          refine lv_bipush (v := 64) hx hb dX8_leastLacking_93 (by decide) ?_
          refine lv_iload hx hb dX8_leastLacking_95 (lv_at hl 6 rfl) ?_
          refine lv_imul hx hb dX8_leastLacking_97 ?_
          refine lv_lload hx hb dX8_leastLacking_98 (lv_at hl 0 rfl) ?_
          refine nm_calli (nm_runS (X := X) (nl := nl) (k_X0_lowest hL hN (hf := (rfl : f_X0_lowest v8 = _))) hx hb hml hown hts hs0 hK hZ hH tw_625 tw_718 tw_624 tw_13 hd_X0_lowest rfl rfl ⟨Nat.le_trans (Nat.le_of_ble_eq_true rfl) hRf, Nat.le_trans (Nat.le_of_ble_eq_true rfl) hRl⟩ rfl hl.1 rfl (Nat.le_of_ble_eq_true rfl) dX8_leastLacking_100 ⟨Nat.zero_le _, Nat.zero_le _⟩) hH (fun H locs hH => ?_)
          have hH : nm_H D Y (fun q => s0 ≤ q) s.heap X nl ad (M.1, M.2, N, K) H locs := hH
          refine lv_iadd hx hb dX8_leastLacking_103 ?_
          exact nm_iret hx hb hr hlocks hQ hH (Option.some.inj hf) rfl dX8_leastLacking_104
  exact hL64 nm_F v5 _ _ _ hH (lv_sub hl [5, 6, 7, 2, 1, 0] rfl) hf
def f_X8_holdInside_L85 (N : Nat → Nat) (x1 : Int32) (v2 : Int32) (v4 : Int32) (x5 : Int32) (v13 : Int32) : Nat → Int64 → Int32 → cm → Option (cm)
  | 0, _, _, _ => none
  | n85 + 1, x6, x9, M14 =>
    (if v13 ≤ x9 then
    some M14
    else
    nm_l (((64 : Int32) * x5) + (f_X0_lowest x6)) fun v16 =>
    nm_s1 (f_X8_leastLacking v4 v16 v2 M14) fun r17 =>
    nm_s1 (f_X8_note N x1 v16 r17 v2 M14) fun M19 =>
    nm_l (x6 &&& (x6 - (1 : Int64))) fun v21 =>
    f_X8_holdInside_L85 N x1 v2 v4 x5 v13 n85 v21 (x9 + 1) M19)
def f_X8_holdInside_L37 (N : Nat → Nat) (x1 : Int32) (v2 : Int32) (v4 : Int32) : Nat → Int32 → cm → Option (cm)
  | 0, _, _ => none
  | n37 + 1, x5, M7 =>
    (if (64 : Int32) ≤ x5 then
    some M7
    else
    nm_c x1 16 (
    nm_c (((64 : Int32) * (M7.1 205 x1.toNatClampNeg)) + x5) 1024 (
    nm_c x5 64 (
    nm_l ((M7.2 101 (((64 : Int32) * (M7.1 205 x1.toNatClampNeg)) + x5).toNatClampNeg) &&& ((M7.2 208 x5.toNatClampNeg) ^^^ (-1 : Int64))) fun v12 =>
    nm_l (f_J13_bitCount_95d88 v12) fun v13 =>
    nm_s1 (f_X8_holdInside_L85 N x1 v2 v4 x5 v13 nm_F v12 (0 : Int32) M7) fun M22 =>
    f_X8_holdInside_L37 N x1 v2 v4 n37 (x5 + 1) M22))))
def f_X8_holdInside (N : Nat → Nat) (x1 : Int32) (M : cm) : Option (cm) :=
nm_c x1 16 (
nm_l (M.1 207 x1.toNatClampNeg) fun v2 =>
nm_c x1 16 (
nm_l ((64 : Int32) * (M.1 206 x1.toNatClampNeg)) fun v4 =>
nm_s1 (f_X0_spread 208 N v4 (0 : Int32) v2 (0 : Int32) M) fun M5 =>
nm_s1 (f_X8_holdInside_L37 N x1 v2 v4 nm_F (0 : Int32) M5) fun M24 =>
some M24))
set_option maxHeartbeats 4000000 in
set_option maxRecDepth 100000 in
theorem k_X8_holdInside {l : Launch} {D : va_G} {Y : nm_Y} {s0 : Nat} {X : va_W} {ad : Nat → Nat} {nl : List Nat} {N K : Nat → Nat} (hL : cl_L nl K) (hN : cl_N N) {x1 : Int32} {M : cm} {M0 : cm} (hf : f_X8_holdInside N x1 M = some M0) :
    nm_Met l yX8_holdInside cX8_holdInside 11 none { frames := 3, cells := 0, slots := 0, locals := 73 } [.ref (ad 200), .int x1, .ref (ad 100)] D Y s0 (nm_W Y X nl ad (M.1, M.2, N, K)) (nm_Qv D s0 (nm_W Y X nl ad (M0.1, M0.2, N, K))) 0 0 := by
  refine nm_of (by decide) (Nat.le_of_ble_eq_true rfl) ?_
  intro p e R s m args below meth c Q ls hx hb hr hlocks hml hown hts hs0 hK hZ hRf hRl hRc hRs hQ hP hD hl
  have hH : nm_H D Y (fun q => s0 ≤ q) s.heap X nl ad (M.1, M.2, N, K) s.heap [] := ⟨hP, hD, va_S.rf⟩
  have hl : lv_has ls 11 [(0, .ref (ad 200)), (1, .int x1), (2, .ref (ad 100))] := hl
  unfold f_X8_holdInside at hf
  refine lv_aload_n hx hb dX8_holdInside_0 rfl (lv_at hl 0 rfl) ?_
  refine gf_8_9 hK hx hb hts hown hH (cl_n200 hL) (cl_k200 hL) (hts _ tw_135) (fun _ h9 => h9) dX8_holdInside_1 ?_
  refine lv_iload_n hx hb dX8_holdInside_4 rfl (lv_at hl 1 rfl) ?_
  obtain ⟨hi1, hf⟩ := nm_chk hf
  refine nm_iald hx hb hK hH (cl_n207 hL) (cl_k207 hL) (cl_l207 hN) hi1 dX8_holdInside_5 ?_
  obtain ⟨v2, ev2, hf⟩ := nm_let hf
  refine nm_topi ev2 ?_
  refine lv_istore_n (lv' := [(3, .int v2), (0, .ref (ad 200)), (1, .int x1), (2, .ref (ad 100))]) hx hb dX8_holdInside_6 rfl hl (by decide) rfl (fun ls hl => ?_)
  refine lv_bipush (v := 64) hx hb dX8_holdInside_7 (by decide) ?_
  refine lv_aload_n hx hb dX8_holdInside_9 rfl (lv_at hl 1 rfl) ?_
  refine gf_8_8 hK hx hb hts hown hH (cl_n200 hL) (cl_k200 hL) (hts _ tw_134) (fun _ h9 => h9) dX8_holdInside_10 ?_
  refine lv_iload_n hx hb dX8_holdInside_13 rfl (lv_at hl 2 rfl) ?_
  obtain ⟨hi3, hf⟩ := nm_chk hf
  refine nm_iald hx hb hK hH (cl_n206 hL) (cl_k206 hL) (cl_l206 hN) hi3 dX8_holdInside_14 ?_
  refine lv_imul hx hb dX8_holdInside_15 ?_
  obtain ⟨v4, ev4, hf⟩ := nm_let hf
  refine nm_topi ev4 ?_
  refine lv_istore (lv' := [(4, .int v4), (3, .int v2), (0, .ref (ad 200)), (1, .int x1), (2, .ref (ad 100))]) hx hb dX8_holdInside_16 hl (by decide) rfl (fun ls hl => ?_)
  refine lv_aload_n hx hb dX8_holdInside_18 rfl (lv_at hl 4 rfl) ?_
  refine gf_3_1 hK hx hb hts hown hH (cl_n100 hL) (cl_k100 hL) (hts _ tw_87) (fun _ h9 => h9) dX8_holdInside_19 ?_
  refine lv_iload hx hb dX8_holdInside_22 (lv_at hl 0 rfl) ?_
  refine lv_aload_n hx hb dX8_holdInside_24 rfl (lv_at hl 2 rfl) ?_
  refine gf_8_10 hK hx hb hts hown hH (cl_n200 hL) (cl_k200 hL) (hts _ tw_136) (fun _ h9 => h9) dX8_holdInside_25 ?_
  refine lv_iconst (v := 0) hx hb dX8_holdInside_28 (by decide) ?_
  refine lv_iload_n hx hb dX8_holdInside_29 rfl (lv_at hl 1 rfl) ?_
  refine lv_iconst (v := 0) hx hb dX8_holdInside_30 (by decide) ?_
  obtain ⟨M5, hc6, hf⟩ := nm_sd1 hf
  refine nm_callv (nm_runS (X := X) (nl := nl) (k_X0_spread hL hN (cl_n208 hL) (cl_k208 hL) (hf := hc6)) hx hb hml hown hts hs0 hK hZ hH tw_596 tw_715 tw_595 tw_13 hd_X0_spread rfl rfl ⟨Nat.le_trans (Nat.le_of_ble_eq_true rfl) hRf, Nat.le_trans (Nat.le_of_ble_eq_true rfl) hRl⟩ rfl hl.1 rfl (Nat.le_of_ble_eq_true rfl) dX8_holdInside_31 ⟨Nat.zero_le _, Nat.zero_le _⟩) hH (fun H locs hH => ?_)
  have hH : nm_H D Y (fun q => s0 ≤ q) s.heap X nl ad (M5.1, M5.2, N, K) H locs := hH
  refine lv_iconst (v := 0) hx hb dX8_holdInside_34 (by decide) ?_
  refine lv_istore (lv' := [(5, .int (0 : Int32)), (4, .int v4), (3, .int v2), (0, .ref (ad 200)), (1, .int x1), (2, .ref (ad 100))]) hx hb dX8_holdInside_35 hl (by decide) rfl (fun ls hl => ?_)
  have hL37 : ∀ (n37 : Nat) (x5 : Int32) (M7 : cm) (H : Heap) (locs : List Loc) (ls : Array Slot) (o37 : cm), nm_H D Y (fun q => s0 ≤ q) s.heap X nl ad (M7.1, M7.2, N, K) H locs → lv_has ls 11 [(0, .ref (ad 200)), (1, .int x1), (2, .ref (ad 100)), (3, .int v2), (4, .int v4), (5, .int x5)] → f_X8_holdInside_L37 N x1 v2 v4 n37 x5 M7 = some o37 → (∀ (H : Heap) (locs : List Loc) (ls : Array Slot), nm_H D Y (fun q => s0 ≤ q) s.heap X nl ad (o37.1, o37.2, N, K) H locs → lv_has ls 11 [] → W p l e R s m args below meth c H locs 0 0 Q (F0 m 146 ls [])) → W p l e R s m args below meth c H locs 0 0 Q (F0 m 37 ls []) := by
    intro n37
    induction n37 with
    | zero =>
      intro x5 M7 H locs ls o37 hH hl hf hX37
      cases hf
    | succ n37 ih37 =>
      intro x5 M7 H locs ls o37 hH hl hf hX37
      rw [f_X8_holdInside_L37] at hf
      refine lv_iload hx hb dX8_holdInside_37 (lv_at hl 5 rfl) ?_
      refine lv_bipush (v := 64) hx hb dX8_holdInside_39 (by decide) ?_
      refine lv_icmp_ge (tgt := 146) hx hb dX8_holdInside_41 (by decide) (fun c8 => ?_) (fun c8 => ?_)
      · have hf := nm_it c8 hf
        cases hf
        exact hX37 _ _ _ hH (lv_sub hl [] rfl)
      · have hf := nm_ie c8 hf
        refine lv_aload_n hx hb dX8_holdInside_44 rfl (lv_at hl 2 rfl) ?_
        refine gf_3_1 hK hx hb hts hown hH (cl_n100 hL) (cl_k100 hL) (hts _ tw_87) (fun _ h9 => h9) dX8_holdInside_45 ?_
        refine lv_bipush (v := 64) hx hb dX8_holdInside_48 (by decide) ?_
        refine lv_aload_n hx hb dX8_holdInside_50 rfl (lv_at hl 0 rfl) ?_
        refine gf_8_7 hK hx hb hts hown hH (cl_n200 hL) (cl_k200 hL) (hts _ tw_133) (fun _ h9 => h9) dX8_holdInside_51 ?_
        refine lv_iload_n hx hb dX8_holdInside_54 rfl (lv_at hl 1 rfl) ?_
        obtain ⟨hi9, hf⟩ := nm_chk hf
        refine nm_iald hx hb hK hH (cl_n205 hL) (cl_k205 hL) (cl_l205 hN) hi9 dX8_holdInside_55 ?_
        refine lv_imul hx hb dX8_holdInside_56 ?_
        refine lv_iload hx hb dX8_holdInside_57 (lv_at hl 5 rfl) ?_
        refine lv_iadd hx hb dX8_holdInside_59 ?_
        obtain ⟨hi10, hf⟩ := nm_chk hf
        refine nm_lald hx hb hK hH (cl_n101 hL) (cl_k101 hL) (cl_l101 hN) hi10 dX8_holdInside_60 ?_
        refine lv_aload_n hx hb dX8_holdInside_61 rfl (lv_at hl 0 rfl) ?_
        refine gf_8_10 hK hx hb hts hown hH (cl_n200 hL) (cl_k200 hL) (hts _ tw_136) (fun _ h9 => h9) dX8_holdInside_62 ?_
        refine lv_iload hx hb dX8_holdInside_65 (lv_at hl 5 rfl) ?_
        obtain ⟨hi11, hf⟩ := nm_chk hf
        refine nm_lald hx hb hK hH (cl_n208 hL) (cl_k208 hL) (cl_l208 hN) hi11 dX8_holdInside_67 ?_
        refine lv_ldc2 hx hb hown (hts _ tw_716) dX8_holdInside_68 ?_
        refine lv_lxor hx hb dX8_holdInside_71 ?_
        refine lv_land hx hb dX8_holdInside_72 ?_
        obtain ⟨v12, ev12, hf⟩ := nm_let hf
        refine nm_topl ev12 ?_
        refine lv_lstore (lv' := [(6, .long v12), (0, .ref (ad 200)), (1, .int x1), (2, .ref (ad 100)), (3, .int v2), (4, .int v4), (5, .int x5)]) hx hb dX8_holdInside_73 hl (by decide) rfl (fun ls hl => ?_)
        refine lv_lload hx hb dX8_holdInside_75 (lv_at hl 0 rfl) ?_
        refine nm_calli (nm_runS (X := X) (nl := nl) (k_J13_bitCount_95d88 hL hN (hf := (rfl : f_J13_bitCount_95d88 v12 = _))) hx hb hml hown hts hs0 hK hZ hH tw_611 tw_717 tw_610 tw_17 hd_J13_bitCount_95d88 rfl rfl ⟨Nat.le_trans (Nat.le_of_ble_eq_true rfl) hRf, Nat.le_trans (Nat.le_of_ble_eq_true rfl) hRl⟩ rfl hl.1 rfl (Nat.le_of_ble_eq_true rfl) dX8_holdInside_77 ⟨Nat.zero_le _, Nat.zero_le _⟩) hH (fun H locs hH => ?_)
        have hH : nm_H D Y (fun q => s0 ≤ q) s.heap X nl ad (M7.1, M7.2, N, K) H locs := hH
        obtain ⟨v13, ev13, hf⟩ := nm_let hf
        refine nm_topi ev13 ?_
        refine lv_istore (lv' := [(8, .int v13), (6, .long v12), (0, .ref (ad 200)), (1, .int x1), (2, .ref (ad 100)), (3, .int v2), (4, .int v4), (5, .int x5)]) hx hb dX8_holdInside_80 hl (by decide) rfl (fun ls hl => ?_)
        refine lv_iconst (v := 0) hx hb dX8_holdInside_82 (by decide) ?_
        refine lv_istore (lv' := [(9, .int (0 : Int32)), (8, .int v13), (6, .long v12), (0, .ref (ad 200)), (1, .int x1), (2, .ref (ad 100)), (3, .int v2), (4, .int v4), (5, .int x5)]) hx hb dX8_holdInside_83 hl (by decide) rfl (fun ls hl => ?_)
        have hL85 : ∀ (n85 : Nat) (x6 : Int64) (x9 : Int32) (M14 : cm) (H : Heap) (locs : List Loc) (ls : Array Slot) (o85 : cm), nm_H D Y (fun q => s0 ≤ q) s.heap X nl ad (M14.1, M14.2, N, K) H locs → lv_has ls 11 [(0, .ref (ad 200)), (1, .int x1), (2, .ref (ad 100)), (3, .int v2), (4, .int v4), (5, .int x5), (6, .long x6), (8, .int v13), (9, .int x9)] → f_X8_holdInside_L85 N x1 v2 v4 x5 v13 n85 x6 x9 M14 = some o85 → (∀ (H : Heap) (locs : List Loc) (ls : Array Slot), nm_H D Y (fun q => s0 ≤ q) s.heap X nl ad (o85.1, o85.2, N, K) H locs → lv_has ls 11 [(0, .ref (ad 200)), (1, .int x1), (2, .ref (ad 100)), (3, .int v2), (4, .int v4), (5, .int x5)] → W p l e R s m args below meth c H locs 0 0 Q (F0 m 140 ls [])) → W p l e R s m args below meth c H locs 0 0 Q (F0 m 85 ls []) := by
          intro n85
          induction n85 with
          | zero =>
            intro x6 x9 M14 H locs ls o85 hH hl hf hX85
            cases hf
          | succ n85 ih85 =>
            intro x6 x9 M14 H locs ls o85 hH hl hf hX85
            rw [f_X8_holdInside_L85] at hf
            refine lv_iload hx hb dX8_holdInside_85 (lv_at hl 8 rfl) ?_
            refine lv_iload hx hb dX8_holdInside_87 (lv_at hl 7 rfl) ?_
            refine lv_icmp_ge (tgt := 140) hx hb dX8_holdInside_89 (by decide) (fun c15 => ?_) (fun c15 => ?_)
            · have hf := nm_it c15 hf
              cases hf
              exact hX85 _ _ _ hH (lv_sub hl [0, 1, 2, 3, 4, 5] rfl)
            · have hf := nm_ie c15 hf
              refine lv_bipush (v := 64) hx hb dX8_holdInside_92 (by decide) ?_
              refine lv_iload hx hb dX8_holdInside_94 (lv_at hl 5 rfl) ?_
              refine lv_imul hx hb dX8_holdInside_96 ?_
              refine lv_lload hx hb dX8_holdInside_97 (lv_at hl 6 rfl) ?_
              refine nm_calli (nm_runS (X := X) (nl := nl) (k_X0_lowest hL hN (hf := (rfl : f_X0_lowest x6 = _))) hx hb hml hown hts hs0 hK hZ hH tw_625 tw_718 tw_624 tw_13 hd_X0_lowest rfl rfl ⟨Nat.le_trans (Nat.le_of_ble_eq_true rfl) hRf, Nat.le_trans (Nat.le_of_ble_eq_true rfl) hRl⟩ rfl hl.1 rfl (Nat.le_of_ble_eq_true rfl) dX8_holdInside_99 ⟨Nat.zero_le _, Nat.zero_le _⟩) hH (fun H locs hH => ?_)
              have hH : nm_H D Y (fun q => s0 ≤ q) s.heap X nl ad (M14.1, M14.2, N, K) H locs := hH
              refine lv_iadd hx hb dX8_holdInside_102 ?_
              obtain ⟨v16, ev16, hf⟩ := nm_let hf
              refine nm_topi ev16 ?_
              refine lv_istore (lv' := [(10, .int v16), (0, .ref (ad 200)), (1, .int x1), (2, .ref (ad 100)), (3, .int v2), (4, .int v4), (5, .int x5), (6, .long x6), (8, .int v13), (9, .int x9)]) hx hb dX8_holdInside_103 hl (by decide) rfl (fun ls hl => ?_)
              refine lv_aload_n hx hb dX8_holdInside_105 rfl (lv_at hl 1 rfl) ?_
              refine lv_iload_n hx hb dX8_holdInside_106 rfl (lv_at hl 2 rfl) ?_
              refine lv_iload hx hb dX8_holdInside_107 (lv_at hl 0 rfl) ?_
              refine lv_aload_n hx hb dX8_holdInside_109 rfl (lv_at hl 3 rfl) ?_
              refine gf_3_1 hK hx hb hts hown hH (cl_n100 hL) (cl_k100 hL) (hts _ tw_87) (fun _ h9 => h9) dX8_holdInside_110 ?_
              refine lv_iload hx hb dX8_holdInside_113 (lv_at hl 5 rfl) ?_
              refine lv_iload hx hb dX8_holdInside_115 (lv_at hl 0 rfl) ?_
              refine lv_iload_n hx hb dX8_holdInside_117 rfl (lv_at hl 4 rfl) ?_
              obtain ⟨r17, hc18, hf⟩ := nm_sd1 hf
              refine nm_calli (nm_runS (X := X) (nl := nl) (k_X8_leastLacking hL hN (hf := hc18)) hx hb hml hown hts hs0 hK hZ hH tw_721 tw_719 tw_720 tw_5 hd_X8_leastLacking rfl rfl ⟨Nat.le_trans (Nat.le_of_ble_eq_true rfl) hRf, Nat.le_trans (Nat.le_of_ble_eq_true rfl) hRl⟩ rfl hl.1 rfl (Nat.le_of_ble_eq_true rfl) dX8_holdInside_118 ⟨Nat.zero_le _, Nat.zero_le _⟩) hH (fun H locs hH => ?_)
              have hH : nm_H D Y (fun q => s0 ≤ q) s.heap X nl ad (M14.1, M14.2, N, K) H locs := hH
              refine lv_iload_n hx hb dX8_holdInside_121 rfl (lv_at hl 4 rfl) ?_
              obtain ⟨M19, hc20, hf⟩ := nm_sd1 hf
              refine nm_callv (nm_runV (X := X) (nl := nl) (k_X8_note hL hN (hf := hc20)) hx hb hml hown hts hs0 hK hZ hH tw_728 tw_725 tw_727 (sw_X8_note) tw_5 hd_X8_note (cl_n200 hL) (cl_k200 hL) (by decide) rfl rfl rfl ⟨Nat.le_trans (Nat.le_of_ble_eq_true rfl) hRf, Nat.le_trans (Nat.le_of_ble_eq_true rfl) hRl⟩ rfl hl.1 rfl (Nat.le_of_ble_eq_true rfl) dX8_holdInside_122 ⟨Nat.zero_le _, Nat.zero_le _⟩) hH (fun H locs hH => ?_)
              have hH : nm_H D Y (fun q => s0 ≤ q) s.heap X nl ad (M19.1, M19.2, N, K) H locs := hH
              refine lv_lload hx hb dX8_holdInside_125 (lv_at hl 7 rfl) ?_
              refine lv_lload hx hb dX8_holdInside_127 (lv_at hl 7 rfl) ?_
              refine lv_lconst (v := 1) hx hb dX8_holdInside_129 (by decide) ?_
              refine lv_lsub hx hb dX8_holdInside_130 ?_
              refine lv_land hx hb dX8_holdInside_131 ?_
              obtain ⟨v21, ev21, hf⟩ := nm_let hf
              refine nm_topl ev21 ?_
              refine lv_lstore (lv' := [(6, .long v21), (10, .int v16), (0, .ref (ad 200)), (1, .int x1), (2, .ref (ad 100)), (3, .int v2), (4, .int v4), (5, .int x5), (8, .int v13), (9, .int x9)]) hx hb dX8_holdInside_132 hl (by decide) rfl (fun ls hl => ?_)
              refine lv_iinc (v := x9 + 1) (lv' := [(9, .int (x9 + 1)), (6, .long v21), (10, .int v16), (0, .ref (ad 200)), (1, .int x1), (2, .ref (ad 100)), (3, .int v2), (4, .int v4), (5, .int x5), (8, .int v13)]) hx hb dX8_holdInside_134 hl (k := 9) rfl rfl (by decide) rfl (fun ls hl => ?_)
              refine lv_goto (tgt := 85) hx hb dX8_holdInside_137 (by decide) ?_
              exact ih85 v21 (x9 + 1) M19 _ _ _ _ hH (lv_sub hl [3, 4, 5, 6, 7, 8, 1, 9, 0] rfl) hf hX85
        obtain ⟨M22, hl23, hf⟩ := nm_sd1 hf
        refine hL85 nm_F v12 (0 : Int32) M7 _ _ _ _ hH (lv_sub hl [3, 4, 5, 6, 7, 8, 2, 1, 0] rfl) hl23 (fun H locs ls hH hl => ?_)
        have hl : lv_has ls 11 [(0, .ref (ad 200)), (1, .int x1), (2, .ref (ad 100)), (3, .int v2), (4, .int v4), (5, .int x5)] := hl
        have hH : nm_H D Y (fun q => s0 ≤ q) s.heap X nl ad (M22.1, M22.2, N, K) H locs := hH
        refine lv_iinc (v := x5 + 1) (lv' := [(5, .int (x5 + 1)), (0, .ref (ad 200)), (1, .int x1), (2, .ref (ad 100)), (3, .int v2), (4, .int v4)]) hx hb dX8_holdInside_140 hl (k := 5) rfl rfl (by decide) rfl (fun ls hl => ?_)
        refine lv_goto (tgt := 37) hx hb dX8_holdInside_143 (by decide) ?_
        exact ih37 (x5 + 1) M22 _ _ _ _ hH (lv_sub hl [1, 2, 3, 4, 5, 0] rfl) hf hX37
  obtain ⟨M24, hl25, hf⟩ := nm_sd1 hf
  refine hL37 nm_F (0 : Int32) M5 _ _ _ _ hH (lv_sub hl [3, 4, 5, 2, 1, 0] rfl) hl25 (fun H locs ls hH hl => ?_)
  have hl : lv_has ls 11 [] := hl
  have hH : nm_H D Y (fun q => s0 ≤ q) s.heap X nl ad (M24.1, M24.2, N, K) H locs := hH
  exact nm_vret hx hb hr hlocks hQ hH (congrArg (fun q => (q.1, q.2, N, K)) (Option.some.inj hf)) dX8_holdInside_146
def f_X8_holdArea_J48 (N : Nat → Nat) (x3 : Int32) (M5 : cm) (k : Int32 → cm → Option (cm)) : Option (cm) :=
k (x3 + 1) M5
def f_X8_holdArea_L2 (N : Nat → Nat) (x1 : Int32) : Nat → Int32 → cm → Option (cm)
  | 0, _, _ => none
  | n2 + 1, x3, M1 =>
    (if (M1.1 110 1) ≤ x3 then
    some M1
    else
    nm_c x3 (N 112) (
    nm_c x1 16 (
    (if (M1.1 207 x1.toNatClampNeg) ≤ (M1.1 112 x3.toNatClampNeg) then
    f_X8_holdArea_J48 N x3 M1 (f_X8_holdArea_L2 N x1 n2)
    else
    nm_c x3 (N 113) (
    nm_c x3 (N 114) (
    nm_c x3 (N 112) (
    nm_s1 (f_X8_note N x1 (M1.1 113 x3.toNatClampNeg) (M1.1 114 x3.toNatClampNeg) (M1.1 112 x3.toNatClampNeg) M1) fun M10 =>
    f_X8_holdArea_J48 N x3 M10 (f_X8_holdArea_L2 N x1 n2))))))))
def f_X8_holdArea (N : Nat → Nat) (x1 : Int32) (M : cm) : Option (cm) :=
nm_s1 (f_X8_holdArea_L2 N x1 nm_F (0 : Int32) M) fun M12 =>
some M12
set_option maxHeartbeats 4000000 in
set_option maxRecDepth 100000 in
theorem k_X8_holdArea {l : Launch} {D : va_G} {Y : nm_Y} {s0 : Nat} {X : va_W} {ad : Nat → Nat} {nl : List Nat} {N K : Nat → Nat} (hL : cl_L nl K) (hN : cl_N N) {x1 : Int32} {M : cm} {M0 : cm} (hf : f_X8_holdArea N x1 M = some M0) :
    nm_Met l yX8_holdArea cX8_holdArea 4 none { frames := 1, cells := 0, slots := 0, locals := 24 } [.ref (ad 200), .int x1, .ref (ad 110)] D Y s0 (nm_W Y X nl ad (M.1, M.2, N, K)) (nm_Qv D s0 (nm_W Y X nl ad (M0.1, M0.2, N, K))) 0 0 := by
  refine nm_of (by decide) (Nat.le_of_ble_eq_true rfl) ?_
  intro p e R s m args below meth c Q ls hx hb hr hlocks hml hown hts hs0 hK hZ hRf hRl hRc hRs hQ hP hD hl
  have hH : nm_H D Y (fun q => s0 ≤ q) s.heap X nl ad (M.1, M.2, N, K) s.heap [] := ⟨hP, hD, va_S.rf⟩
  have hl : lv_has ls 4 [(0, .ref (ad 200)), (1, .int x1), (2, .ref (ad 110))] := hl
  unfold f_X8_holdArea at hf
  refine lv_iconst (v := 0) hx hb dX8_holdArea_0 (by decide) ?_
  refine lv_istore_n (lv' := [(3, .int (0 : Int32)), (0, .ref (ad 200)), (1, .int x1), (2, .ref (ad 110))]) hx hb dX8_holdArea_1 rfl hl (by decide) rfl (fun ls hl => ?_)
  have hL2 : ∀ (n2 : Nat) (x3 : Int32) (M1 : cm) (H : Heap) (locs : List Loc) (ls : Array Slot) (o2 : cm), nm_H D Y (fun q => s0 ≤ q) s.heap X nl ad (M1.1, M1.2, N, K) H locs → lv_has ls 4 [(0, .ref (ad 200)), (1, .int x1), (2, .ref (ad 110)), (3, .int x3)] → f_X8_holdArea_L2 N x1 n2 x3 M1 = some o2 → (∀ (H : Heap) (locs : List Loc) (ls : Array Slot), nm_H D Y (fun q => s0 ≤ q) s.heap X nl ad (o2.1, o2.2, N, K) H locs → lv_has ls 4 [] → W p l e R s m args below meth c H locs 0 0 Q (F0 m 54 ls [])) → W p l e R s m args below meth c H locs 0 0 Q (F0 m 2 ls []) := by
    intro n2
    induction n2 with
    | zero =>
      intro x3 M1 H locs ls o2 hH hl hf hX2
      cases hf
    | succ n2 ih2 =>
      intro x3 M1 H locs ls o2 hH hl hf hX2
      rw [f_X8_holdArea_L2] at hf
      refine lv_iload_n hx hb dX8_holdArea_2 rfl (lv_at hl 3 rfl) ?_
      refine lv_aload_n hx hb dX8_holdArea_3 rfl (lv_at hl 2 rfl) ?_
      refine gf_4_1 hK hx hb hts hown hH (cl_n110 hL) (cl_k110 hL) (hts _ tw_44) (fun _ h9 => h9) dX8_holdArea_4 ?_
      refine lv_icmp_ge (tgt := 54) hx hb dX8_holdArea_7 (by decide) (fun c2 => ?_) (fun c2 => ?_)
      · have hf := nm_it c2 hf
        cases hf
        exact hX2 _ _ _ hH (lv_sub hl [] rfl)
      · have hf := nm_ie c2 hf
        refine lv_aload_n hx hb dX8_holdArea_10 rfl (lv_at hl 2 rfl) ?_
        refine gf_4_2 hK hx hb hts hown hH (cl_n110 hL) (cl_k110 hL) (hts _ tw_47) (fun _ h9 => h9) dX8_holdArea_11 ?_
        refine lv_iload_n hx hb dX8_holdArea_14 rfl (lv_at hl 3 rfl) ?_
        obtain ⟨hi3, hf⟩ := nm_chk hf
        refine nm_iald hx hb hK hH (cl_n112 hL) (cl_k112 hL) rfl hi3 dX8_holdArea_15 ?_
        refine lv_aload_n hx hb dX8_holdArea_16 rfl (lv_at hl 0 rfl) ?_
        refine gf_8_9 hK hx hb hts hown hH (cl_n200 hL) (cl_k200 hL) (hts _ tw_135) (fun _ h9 => h9) dX8_holdArea_17 ?_
        refine lv_iload_n hx hb dX8_holdArea_20 rfl (lv_at hl 1 rfl) ?_
        obtain ⟨hi4, hf⟩ := nm_chk hf
        refine nm_iald hx hb hK hH (cl_n207 hL) (cl_k207 hL) (cl_l207 hN) hi4 dX8_holdArea_21 ?_
        have hJ48 : ∀ (M5 : cm) (H : Heap) (locs : List Loc) (ls : Array Slot), nm_H D Y (fun q => s0 ≤ q) s.heap X nl ad (M5.1, M5.2, N, K) H locs → lv_has ls 4 [(0, .ref (ad 200)), (1, .int x1), (2, .ref (ad 110)), (3, .int x3)] → f_X8_holdArea_J48 N x3 M5 (f_X8_holdArea_L2 N x1 n2) = some o2 → W p l e R s m args below meth c H locs 0 0 Q (F0 m 48 ls []) := by
          intro M5 H locs ls hH hl hf
          unfold f_X8_holdArea_J48 at hf
          refine lv_iinc (v := x3 + 1) (lv' := [(3, .int (x3 + 1)), (0, .ref (ad 200)), (1, .int x1), (2, .ref (ad 110))]) hx hb dX8_holdArea_48 hl (k := 3) rfl rfl (by decide) rfl (fun ls hl => ?_)
          refine lv_goto (tgt := 2) hx hb dX8_holdArea_51 (by decide) ?_
          exact ih2 (x3 + 1) M5 _ _ _ _ hH (lv_sub hl [1, 2, 3, 0] rfl) hf hX2
        refine lv_icmp_ge (tgt := 48) hx hb dX8_holdArea_22 (by decide) (fun c6 => ?_) (fun c6 => ?_)
        · have hf := nm_it c6 hf
          exact hJ48  M1 _ _ _ hH (lv_sub hl [0, 1, 2, 3] rfl) hf
        · have hf := nm_ie c6 hf
          refine lv_aload_n hx hb dX8_holdArea_25 rfl (lv_at hl 0 rfl) ?_
          refine lv_iload_n hx hb dX8_holdArea_26 rfl (lv_at hl 1 rfl) ?_
          refine lv_aload_n hx hb dX8_holdArea_27 rfl (lv_at hl 2 rfl) ?_
          refine gf_4_3 hK hx hb hts hown hH (cl_n110 hL) (cl_k110 hL) (hts _ tw_52) (fun _ h9 => h9) dX8_holdArea_28 ?_
          refine lv_iload_n hx hb dX8_holdArea_31 rfl (lv_at hl 3 rfl) ?_
          obtain ⟨hi7, hf⟩ := nm_chk hf
          refine nm_iald hx hb hK hH (cl_n113 hL) (cl_k113 hL) rfl hi7 dX8_holdArea_32 ?_
          refine lv_aload_n hx hb dX8_holdArea_33 rfl (lv_at hl 2 rfl) ?_
          refine gf_4_4 hK hx hb hts hown hH (cl_n110 hL) (cl_k110 hL) (hts _ tw_54) (fun _ h9 => h9) dX8_holdArea_34 ?_
          refine lv_iload_n hx hb dX8_holdArea_37 rfl (lv_at hl 3 rfl) ?_
          obtain ⟨hi8, hf⟩ := nm_chk hf
          refine nm_iald hx hb hK hH (cl_n114 hL) (cl_k114 hL) rfl hi8 dX8_holdArea_38 ?_
          refine lv_aload_n hx hb dX8_holdArea_39 rfl (lv_at hl 2 rfl) ?_
          refine gf_4_2 hK hx hb hts hown hH (cl_n110 hL) (cl_k110 hL) (hts _ tw_47) (fun _ h9 => h9) dX8_holdArea_40 ?_
          refine lv_iload_n hx hb dX8_holdArea_43 rfl (lv_at hl 3 rfl) ?_
          obtain ⟨hi9, hf⟩ := nm_chk hf
          refine nm_iald hx hb hK hH (cl_n112 hL) (cl_k112 hL) rfl hi9 dX8_holdArea_44 ?_
          obtain ⟨M10, hc11, hf⟩ := nm_sd1 hf
          refine nm_callv (nm_runV (X := X) (nl := nl) (k_X8_note hL hN (hf := hc11)) hx hb hml hown hts hs0 hK hZ hH tw_728 tw_725 tw_727 (sw_X8_note) tw_5 hd_X8_note (cl_n200 hL) (cl_k200 hL) (by decide) rfl rfl rfl ⟨Nat.le_trans (Nat.le_of_ble_eq_true rfl) hRf, Nat.le_trans (Nat.le_of_ble_eq_true rfl) hRl⟩ rfl hl.1 rfl (Nat.le_of_ble_eq_true rfl) dX8_holdArea_45 ⟨Nat.zero_le _, Nat.zero_le _⟩) hH (fun H locs hH => ?_)
          have hH : nm_H D Y (fun q => s0 ≤ q) s.heap X nl ad (M10.1, M10.2, N, K) H locs := hH
          exact hJ48  M10 _ _ _ hH (lv_sub hl [0, 1, 2, 3] rfl) hf
  obtain ⟨M12, hl13, hf⟩ := nm_sd1 hf
  refine hL2 nm_F (0 : Int32) M _ _ _ _ hH (lv_sub hl [1, 2, 3, 0] rfl) hl13 (fun H locs ls hH hl => ?_)
  have hl : lv_has ls 4 [] := hl
  have hH : nm_H D Y (fun q => s0 ≤ q) s.heap X nl ad (M12.1, M12.2, N, K) H locs := hH
  exact nm_vret hx hb hr hlocks hQ hH (congrArg (fun q => (q.1, q.2, N, K)) (Option.some.inj hf)) dX8_holdArea_54
def f_X8_holdShare_L24 (N : Nat → Nat) (x1 : Int32) (x3 : Int32) (x4 : Int32) (M3 : cm) : Nat → Int32 → Int32 → Option (Int32)
  | 0, _, _ => none
  | n24 + 1, x5, x6 =>
    (if (x3 + (16 : Int32)) ≤ x6 then
    some x5
    else
    nm_c x1 16 (
    nm_c (((64 : Int32) * (M3.1 205 x1.toNatClampNeg)) + x6) 1024 (
    nm_l (M3.2 101 (((64 : Int32) * (M3.1 205 x1.toNatClampNeg)) + x6).toNatClampNeg) fun v8 =>
    nm_l (x5 + (f_J13_bitCount_95d88 (v8 &&& (f_X0_span x4 (16 : Int32))))) fun v9 =>
    f_X8_holdShare_L24 N x1 x3 x4 M3 n24 v9 (x6 + 1))))
def f_X8_holdShare_J111 (N : Nat → Nat) (x4 : Int32) (M12 : cm) (k : Int32 → cm → Option (cm)) : Option (cm) :=
k (x4 + 16) M12
def f_X8_holdShare_L11 (N : Nat → Nat) (x1 : Int32) (x3 : Int32) : Nat → Int32 → cm → Option (cm)
  | 0, _, _ => none
  | n11 + 1, x4, M3 =>
    (if (64 : Int32) ≤ x4 then
    some M3
    else
    nm_s1 (f_X8_holdShare_L24 N x1 x3 x4 M3 nm_F (0 : Int32) x3) fun y10 =>
    nm_c x1 16 (
    (if (M3.1 207 x1.toNatClampNeg) ≤ y10 then
    f_X8_holdShare_J111 N x4 M3 (f_X8_holdShare_L11 N x1 x3 n11)
    else
    nm_l (((64 : Int32) * x3) + x4) fun v14 =>
    nm_s1 (f_X8_note N x1 v14 (v14 + (975 : Int32)) y10 M3) fun M15 =>
    f_X8_holdShare_J111 N x4 M15 (f_X8_holdShare_L11 N x1 x3 n11))))
def f_X8_holdShare_L2 (N : Nat → Nat) (x1 : Int32) : Nat → Int32 → cm → Option (cm)
  | 0, _, _ => none
  | n2 + 1, x3, M1 =>
    (if (64 : Int32) ≤ x3 then
    some M1
    else
    nm_s1 (f_X8_holdShare_L11 N x1 x3 nm_F (0 : Int32) M1) fun M18 =>
    f_X8_holdShare_L2 N x1 n2 (x3 + 16) M18)
def f_X8_holdShare (N : Nat → Nat) (x1 : Int32) (M : cm) : Option (cm) :=
nm_s1 (f_X8_holdShare_L2 N x1 nm_F (0 : Int32) M) fun M20 =>
some M20
set_option maxHeartbeats 4000000 in
set_option maxRecDepth 100000 in
theorem k_X8_holdShare {l : Launch} {D : va_G} {Y : nm_Y} {s0 : Nat} {X : va_W} {ad : Nat → Nat} {nl : List Nat} {N K : Nat → Nat} (hL : cl_L nl K) (hN : cl_N N) {x1 : Int32} {M : cm} {M0 : cm} (hf : f_X8_holdShare N x1 M = some M0) :
    nm_Met l yX8_holdShare cX8_holdShare 9 none { frames := 1, cells := 0, slots := 0, locals := 24 } [.ref (ad 200), .int x1, .ref (ad 100)] D Y s0 (nm_W Y X nl ad (M.1, M.2, N, K)) (nm_Qv D s0 (nm_W Y X nl ad (M0.1, M0.2, N, K))) 0 0 := by
  refine nm_of (by decide) (Nat.le_of_ble_eq_true rfl) ?_
  intro p e R s m args below meth c Q ls hx hb hr hlocks hml hown hts hs0 hK hZ hRf hRl hRc hRs hQ hP hD hl
  have hH : nm_H D Y (fun q => s0 ≤ q) s.heap X nl ad (M.1, M.2, N, K) s.heap [] := ⟨hP, hD, va_S.rf⟩
  have hl : lv_has ls 9 [(0, .ref (ad 200)), (1, .int x1), (2, .ref (ad 100))] := hl
  unfold f_X8_holdShare at hf
  refine lv_iconst (v := 0) hx hb dX8_holdShare_0 (by decide) ?_
  refine lv_istore_n (lv' := [(3, .int (0 : Int32)), (0, .ref (ad 200)), (1, .int x1), (2, .ref (ad 100))]) hx hb dX8_holdShare_1 rfl hl (by decide) rfl (fun ls hl => ?_)
  have hL2 : ∀ (n2 : Nat) (x3 : Int32) (M1 : cm) (H : Heap) (locs : List Loc) (ls : Array Slot) (o2 : cm), nm_H D Y (fun q => s0 ≤ q) s.heap X nl ad (M1.1, M1.2, N, K) H locs → lv_has ls 9 [(0, .ref (ad 200)), (1, .int x1), (2, .ref (ad 100)), (3, .int x3)] → f_X8_holdShare_L2 N x1 n2 x3 M1 = some o2 → (∀ (H : Heap) (locs : List Loc) (ls : Array Slot), nm_H D Y (fun q => s0 ≤ q) s.heap X nl ad (o2.1, o2.2, N, K) H locs → lv_has ls 9 [] → W p l e R s m args below meth c H locs 0 0 Q (F0 m 123 ls [])) → W p l e R s m args below meth c H locs 0 0 Q (F0 m 2 ls []) := by
    intro n2
    induction n2 with
    | zero =>
      intro x3 M1 H locs ls o2 hH hl hf hX2
      cases hf
    | succ n2 ih2 =>
      intro x3 M1 H locs ls o2 hH hl hf hX2
      rw [f_X8_holdShare_L2] at hf
      refine lv_iload_n hx hb dX8_holdShare_2 rfl (lv_at hl 3 rfl) ?_
      refine lv_bipush (v := 64) hx hb dX8_holdShare_3 (by decide) ?_
      refine lv_icmp_ge (tgt := 123) hx hb dX8_holdShare_5 (by decide) (fun c2 => ?_) (fun c2 => ?_)
      · have hf := nm_it c2 hf
        cases hf
        exact hX2 _ _ _ hH (lv_sub hl [] rfl)
      · have hf := nm_ie c2 hf
        refine lv_iconst (v := 0) hx hb dX8_holdShare_8 (by decide) ?_
        refine lv_istore (lv' := [(4, .int (0 : Int32)), (0, .ref (ad 200)), (1, .int x1), (2, .ref (ad 100)), (3, .int x3)]) hx hb dX8_holdShare_9 hl (by decide) rfl (fun ls hl => ?_)
        have hL11 : ∀ (n11 : Nat) (x4 : Int32) (M3 : cm) (H : Heap) (locs : List Loc) (ls : Array Slot) (o11 : cm), nm_H D Y (fun q => s0 ≤ q) s.heap X nl ad (M3.1, M3.2, N, K) H locs → lv_has ls 9 [(0, .ref (ad 200)), (1, .int x1), (2, .ref (ad 100)), (3, .int x3), (4, .int x4)] → f_X8_holdShare_L11 N x1 x3 n11 x4 M3 = some o11 → (∀ (H : Heap) (locs : List Loc) (ls : Array Slot), nm_H D Y (fun q => s0 ≤ q) s.heap X nl ad (o11.1, o11.2, N, K) H locs → lv_has ls 9 [(0, .ref (ad 200)), (1, .int x1), (2, .ref (ad 100)), (3, .int x3)] → W p l e R s m args below meth c H locs 0 0 Q (F0 m 117 ls [])) → W p l e R s m args below meth c H locs 0 0 Q (F0 m 11 ls []) := by
          intro n11
          induction n11 with
          | zero =>
            intro x4 M3 H locs ls o11 hH hl hf hX11
            cases hf
          | succ n11 ih11 =>
            intro x4 M3 H locs ls o11 hH hl hf hX11
            rw [f_X8_holdShare_L11] at hf
            refine lv_iload hx hb dX8_holdShare_11 (lv_at hl 4 rfl) ?_
            refine lv_bipush (v := 64) hx hb dX8_holdShare_13 (by decide) ?_
            refine lv_icmp_ge (tgt := 117) hx hb dX8_holdShare_15 (by decide) (fun c4 => ?_) (fun c4 => ?_)
            · have hf := nm_it c4 hf
              cases hf
              exact hX11 _ _ _ hH (lv_sub hl [0, 1, 2, 3] rfl)
            · have hf := nm_ie c4 hf
              refine lv_iconst (v := 0) hx hb dX8_holdShare_18 (by decide) ?_
              refine lv_istore (lv' := [(5, .int (0 : Int32)), (0, .ref (ad 200)), (1, .int x1), (2, .ref (ad 100)), (3, .int x3), (4, .int x4)]) hx hb dX8_holdShare_19 hl (by decide) rfl (fun ls hl => ?_)
              refine lv_iload_n hx hb dX8_holdShare_21 rfl (lv_at hl 4 rfl) ?_
              refine lv_istore (lv' := [(6, .int x3), (5, .int (0 : Int32)), (0, .ref (ad 200)), (1, .int x1), (2, .ref (ad 100)), (3, .int x3), (4, .int x4)]) hx hb dX8_holdShare_22 hl (by decide) rfl (fun ls hl => ?_)
              have hL24 : ∀ (n24 : Nat) (x5 : Int32) (x6 : Int32) (H : Heap) (locs : List Loc) (ls : Array Slot) (o24 : Int32), nm_H D Y (fun q => s0 ≤ q) s.heap X nl ad (M3.1, M3.2, N, K) H locs → lv_has ls 9 [(0, .ref (ad 200)), (1, .int x1), (2, .ref (ad 100)), (3, .int x3), (4, .int x4), (5, .int x5), (6, .int x6)] → f_X8_holdShare_L24 N x1 x3 x4 M3 n24 x5 x6 = some o24 → (∀ (H : Heap) (locs : List Loc) (ls : Array Slot), nm_H D Y (fun q => s0 ≤ q) s.heap X nl ad (M3.1, M3.2, N, K) H locs → lv_has ls 9 [(0, .ref (ad 200)), (1, .int x1), (2, .ref (ad 100)), (3, .int x3), (4, .int x4), (5, .int o24)] → W p l e R s m args below meth c H locs 0 0 Q (F0 m 76 ls [])) → W p l e R s m args below meth c H locs 0 0 Q (F0 m 24 ls []) := by
                intro n24
                induction n24 with
                | zero =>
                  intro x5 x6 H locs ls o24 hH hl hf hX24
                  cases hf
                | succ n24 ih24 =>
                  intro x5 x6 H locs ls o24 hH hl hf hX24
                  rw [f_X8_holdShare_L24] at hf
                  refine lv_iload hx hb dX8_holdShare_24 (lv_at hl 6 rfl) ?_
                  refine lv_iload_n hx hb dX8_holdShare_26 rfl (lv_at hl 3 rfl) ?_
                  refine lv_bipush (v := 16) hx hb dX8_holdShare_27 (by decide) ?_
                  refine lv_iadd hx hb dX8_holdShare_29 ?_
                  refine lv_icmp_ge (tgt := 76) hx hb dX8_holdShare_30 (by decide) (fun c5 => ?_) (fun c5 => ?_)
                  · have hf := nm_it c5 hf
                    cases hf
                    exact hX24 _ _ _ hH (lv_sub hl [0, 1, 2, 3, 4, 5] rfl)
                  · have hf := nm_ie c5 hf
                    refine lv_aload_n hx hb dX8_holdShare_33 rfl (lv_at hl 2 rfl) ?_
                    refine gf_3_1 hK hx hb hts hown hH (cl_n100 hL) (cl_k100 hL) (hts _ tw_87) (fun _ h9 => h9) dX8_holdShare_34 ?_
                    refine lv_bipush (v := 64) hx hb dX8_holdShare_37 (by decide) ?_
                    refine lv_aload_n hx hb dX8_holdShare_39 rfl (lv_at hl 0 rfl) ?_
                    refine gf_8_7 hK hx hb hts hown hH (cl_n200 hL) (cl_k200 hL) (hts _ tw_133) (fun _ h9 => h9) dX8_holdShare_40 ?_
                    refine lv_iload_n hx hb dX8_holdShare_43 rfl (lv_at hl 1 rfl) ?_
                    obtain ⟨hi6, hf⟩ := nm_chk hf
                    refine nm_iald hx hb hK hH (cl_n205 hL) (cl_k205 hL) (cl_l205 hN) hi6 dX8_holdShare_44 ?_
                    refine lv_imul hx hb dX8_holdShare_45 ?_
                    refine lv_iload hx hb dX8_holdShare_46 (lv_at hl 6 rfl) ?_
                    refine lv_iadd hx hb dX8_holdShare_48 ?_
                    obtain ⟨hi7, hf⟩ := nm_chk hf
                    refine nm_lald hx hb hK hH (cl_n101 hL) (cl_k101 hL) (cl_l101 hN) hi7 dX8_holdShare_49 ?_
                    obtain ⟨v8, ev8, hf⟩ := nm_let hf
                    refine nm_topl ev8 ?_
                    refine lv_lstore (lv' := [(7, .long v8), (0, .ref (ad 200)), (1, .int x1), (2, .ref (ad 100)), (3, .int x3), (4, .int x4), (5, .int x5), (6, .int x6)]) hx hb dX8_holdShare_50 hl (by decide) rfl (fun ls hl => ?_)
                    refine lv_iload hx hb dX8_holdShare_52 (lv_at hl 6 rfl) ?_
                    refine lv_lload hx hb dX8_holdShare_54 (lv_at hl 0 rfl) ?_
                    refine lv_iload hx hb dX8_holdShare_56 (lv_at hl 5 rfl) ?_
                    refine lv_bipush (v := 16) hx hb dX8_holdShare_58 (by decide) ?_
                    refine nm_calll (nm_runS (X := X) (nl := nl) (k_X0_span hL hN (hf := (rfl : f_X0_span x4 (16 : Int32) = _))) hx hb hml hown hts hs0 hK hZ hH tw_378 tw_724 tw_377 tw_13 hd_X0_span rfl rfl ⟨Nat.le_trans (Nat.le_of_ble_eq_true rfl) hRf, Nat.le_trans (Nat.le_of_ble_eq_true rfl) hRl⟩ rfl hl.1 rfl (Nat.le_of_ble_eq_true rfl) dX8_holdShare_60 ⟨Nat.zero_le _, Nat.zero_le _⟩) hH (fun H locs hH => ?_)
                    have hH : nm_H D Y (fun q => s0 ≤ q) s.heap X nl ad (M3.1, M3.2, N, K) H locs := hH
                    refine lv_land hx hb dX8_holdShare_63 ?_
                    refine nm_calli (nm_runS (X := X) (nl := nl) (k_J13_bitCount_95d88 hL hN (hf := (rfl : f_J13_bitCount_95d88 (v8 &&& (f_X0_span x4 (16 : Int32))) = _))) hx hb hml hown hts hs0 hK hZ hH tw_611 tw_717 tw_610 tw_17 hd_J13_bitCount_95d88 rfl rfl ⟨Nat.le_trans (Nat.le_of_ble_eq_true rfl) hRf, Nat.le_trans (Nat.le_of_ble_eq_true rfl) hRl⟩ rfl hl.1 rfl (Nat.le_of_ble_eq_true rfl) dX8_holdShare_64 ⟨Nat.zero_le _, Nat.zero_le _⟩) hH (fun H locs hH => ?_)
                    have hH : nm_H D Y (fun q => s0 ≤ q) s.heap X nl ad (M3.1, M3.2, N, K) H locs := hH
                    refine lv_iadd hx hb dX8_holdShare_67 ?_
                    obtain ⟨v9, ev9, hf⟩ := nm_let hf
                    refine nm_topi ev9 ?_
                    refine lv_istore (lv' := [(5, .int v9), (7, .long v8), (0, .ref (ad 200)), (1, .int x1), (2, .ref (ad 100)), (3, .int x3), (4, .int x4), (6, .int x6)]) hx hb dX8_holdShare_68 hl (by decide) rfl (fun ls hl => ?_)
                    refine lv_iinc (v := x6 + 1) (lv' := [(6, .int (x6 + 1)), (5, .int v9), (7, .long v8), (0, .ref (ad 200)), (1, .int x1), (2, .ref (ad 100)), (3, .int x3), (4, .int x4)]) hx hb dX8_holdShare_70 hl (k := 7) rfl rfl (by decide) rfl (fun ls hl => ?_)
                    refine lv_goto (tgt := 24) hx hb dX8_holdShare_73 (by decide) ?_
                    exact ih24 v9 (x6 + 1) _ _ _ _ hH (lv_sub hl [3, 4, 5, 6, 7, 1, 0] rfl) hf hX24
              obtain ⟨y10, hl17, hf⟩ := nm_sd1 hf
              refine hL24 nm_F (0 : Int32) x3 _ _ _ _ hH (lv_sub hl [2, 3, 4, 5, 6, 1, 0] rfl) hl17 (fun H locs ls hH hl => ?_)
              have hl : lv_has ls 9 [(0, .ref (ad 200)), (1, .int x1), (2, .ref (ad 100)), (3, .int x3), (4, .int x4), (5, .int y10)] := hl
              have hH : nm_H D Y (fun q => s0 ≤ q) s.heap X nl ad (M3.1, M3.2, N, K) H locs := hH
              refine lv_iload hx hb dX8_holdShare_76 (lv_at hl 5 rfl) ?_
              refine lv_aload_n hx hb dX8_holdShare_78 rfl (lv_at hl 0 rfl) ?_
              refine gf_8_9 hK hx hb hts hown hH (cl_n200 hL) (cl_k200 hL) (hts _ tw_135) (fun _ h9 => h9) dX8_holdShare_79 ?_
              refine lv_iload_n hx hb dX8_holdShare_82 rfl (lv_at hl 1 rfl) ?_
              obtain ⟨hi11, hf⟩ := nm_chk hf
              refine nm_iald hx hb hK hH (cl_n207 hL) (cl_k207 hL) (cl_l207 hN) hi11 dX8_holdShare_83 ?_
              have hJ111 : ∀ (M12 : cm) (H : Heap) (locs : List Loc) (ls : Array Slot), nm_H D Y (fun q => s0 ≤ q) s.heap X nl ad (M12.1, M12.2, N, K) H locs → lv_has ls 9 [(0, .ref (ad 200)), (1, .int x1), (2, .ref (ad 100)), (3, .int x3), (4, .int x4)] → f_X8_holdShare_J111 N x4 M12 (f_X8_holdShare_L11 N x1 x3 n11) = some o11 → W p l e R s m args below meth c H locs 0 0 Q (F0 m 111 ls []) := by
                intro M12 H locs ls hH hl hf
                unfold f_X8_holdShare_J111 at hf
                refine lv_iinc (v := x4 + 16) (lv' := [(4, .int (x4 + 16)), (0, .ref (ad 200)), (1, .int x1), (2, .ref (ad 100)), (3, .int x3)]) hx hb dX8_holdShare_111 hl (k := 4) rfl rfl (by decide) rfl (fun ls hl => ?_)
                refine lv_goto (tgt := 11) hx hb dX8_holdShare_114 (by decide) ?_
                exact ih11 (x4 + 16) M12 _ _ _ _ hH (lv_sub hl [1, 2, 3, 4, 0] rfl) hf hX11
              refine lv_icmp_ge (tgt := 111) hx hb dX8_holdShare_84 (by decide) (fun c13 => ?_) (fun c13 => ?_)
              · have hf := nm_it c13 hf
                exact hJ111  M3 _ _ _ hH (lv_sub hl [0, 1, 2, 3, 4] rfl) hf
              · have hf := nm_ie c13 hf
                refine lv_bipush (v := 64) hx hb dX8_holdShare_87 (by decide) ?_
                refine lv_iload_n hx hb dX8_holdShare_89 rfl (lv_at hl 3 rfl) ?_
                refine lv_imul hx hb dX8_holdShare_90 ?_
                refine lv_iload hx hb dX8_holdShare_91 (lv_at hl 4 rfl) ?_
                refine lv_iadd hx hb dX8_holdShare_93 ?_
                obtain ⟨v14, ev14, hf⟩ := nm_let hf
                refine nm_topi ev14 ?_
                refine lv_istore (lv' := [(6, .int v14), (0, .ref (ad 200)), (1, .int x1), (2, .ref (ad 100)), (3, .int x3), (4, .int x4), (5, .int y10)]) hx hb dX8_holdShare_94 hl (by decide) rfl (fun ls hl => ?_)
                refine lv_aload_n hx hb dX8_holdShare_96 rfl (lv_at hl 1 rfl) ?_
                refine lv_iload_n hx hb dX8_holdShare_97 rfl (lv_at hl 2 rfl) ?_
                refine lv_iload hx hb dX8_holdShare_98 (lv_at hl 0 rfl) ?_
                refine lv_iload hx hb dX8_holdShare_100 (lv_at hl 0 rfl) ?_
                refine lv_sipush (v := 975) hx hb dX8_holdShare_102 (by decide) ?_
                refine lv_iadd hx hb dX8_holdShare_105 ?_
                refine lv_iload hx hb dX8_holdShare_106 (lv_at hl 6 rfl) ?_
                obtain ⟨M15, hc16, hf⟩ := nm_sd1 hf
                refine nm_callv (nm_runV (X := X) (nl := nl) (k_X8_note hL hN (hf := hc16)) hx hb hml hown hts hs0 hK hZ hH tw_728 tw_725 tw_727 (sw_X8_note) tw_5 hd_X8_note (cl_n200 hL) (cl_k200 hL) (by decide) rfl rfl rfl ⟨Nat.le_trans (Nat.le_of_ble_eq_true rfl) hRf, Nat.le_trans (Nat.le_of_ble_eq_true rfl) hRl⟩ rfl hl.1 rfl (Nat.le_of_ble_eq_true rfl) dX8_holdShare_108 ⟨Nat.zero_le _, Nat.zero_le _⟩) hH (fun H locs hH => ?_)
                have hH : nm_H D Y (fun q => s0 ≤ q) s.heap X nl ad (M15.1, M15.2, N, K) H locs := hH
                exact hJ111  M15 _ _ _ hH (lv_sub hl [1, 2, 3, 4, 5] rfl) hf
        obtain ⟨M18, hl19, hf⟩ := nm_sd1 hf
        refine hL11 nm_F (0 : Int32) M1 _ _ _ _ hH (lv_sub hl [1, 2, 3, 4, 0] rfl) hl19 (fun H locs ls hH hl => ?_)
        have hl : lv_has ls 9 [(0, .ref (ad 200)), (1, .int x1), (2, .ref (ad 100)), (3, .int x3)] := hl
        have hH : nm_H D Y (fun q => s0 ≤ q) s.heap X nl ad (M18.1, M18.2, N, K) H locs := hH
        refine lv_iinc (v := x3 + 16) (lv' := [(3, .int (x3 + 16)), (0, .ref (ad 200)), (1, .int x1), (2, .ref (ad 100))]) hx hb dX8_holdShare_117 hl (k := 3) rfl rfl (by decide) rfl (fun ls hl => ?_)
        refine lv_goto (tgt := 2) hx hb dX8_holdShare_120 (by decide) ?_
        exact ih2 (x3 + 16) M18 _ _ _ _ hH (lv_sub hl [1, 2, 3, 0] rfl) hf hX2
  obtain ⟨M20, hl21, hf⟩ := nm_sd1 hf
  refine hL2 nm_F (0 : Int32) M _ _ _ _ hH (lv_sub hl [1, 2, 3, 0] rfl) hl21 (fun H locs ls hH hl => ?_)
  have hl : lv_has ls 9 [] := hl
  have hH : nm_H D Y (fun q => s0 ≤ q) s.heap X nl ad (M20.1, M20.2, N, K) H locs := hH
  exact nm_vret hx hb hr hlocks hQ hH (congrArg (fun q => (q.1, q.2, N, K)) (Option.some.inj hf)) dX8_holdShare_123
def f_X2_addJoint (x1 : Int32) (x2 : Int32) (x3 : Int32) (M : cm) : Option (Int32 × cm) :=
nm_c ((3 : Int32) * (M.1 300 1)) 24 (
nm_l ((nm_up M.1 301 (((3 : Int32) * (M.1 300 1)).toNatClampNeg) x1, M.2)) fun M2 =>
nm_c (((3 : Int32) * (M2.1 300 1)) + (1 : Int32)) 24 (
nm_l ((nm_up M2.1 301 ((((3 : Int32) * (M2.1 300 1)) + (1 : Int32)).toNatClampNeg) x2, M2.2)) fun M4 =>
nm_c (((3 : Int32) * (M4.1 300 1)) + (2 : Int32)) 24 (
nm_l ((nm_up M4.1 301 ((((3 : Int32) * (M4.1 300 1)) + (2 : Int32)).toNatClampNeg) x3, M4.2)) fun M6 =>
nm_l ((nm_up M6.1 300 1 ((M6.1 300 1) + (1 : Int32)), M6.2)) fun M7 =>
some (M7.1 300 1, M7))))
set_option maxHeartbeats 4000000 in
set_option maxRecDepth 100000 in
theorem k_X2_addJoint {l : Launch} {D : va_G} {Y : nm_Y} {s0 : Nat} {X : va_W} {ad : Nat → Nat} {nl : List Nat} {N K : Nat → Nat} (hL : cl_L nl K) (hN : cl_N N) {x1 : Int32} {x2 : Int32} {x3 : Int32} {M : cm} {r0 : Int32} {M0 : cm} (hf : f_X2_addJoint x1 x2 x3 M = some (r0, M0)) :
    nm_Met l yX2_addJoint cX2_addJoint 4 (some .int) { frames := 0, cells := 0, slots := 0, locals := 0 } [.ref (ad 300), .int x1, .int x2, .int x3] D Y s0 (nm_W Y X nl ad (M.1, M.2, N, K)) (nm_Qi D s0 r0 (nm_W Y X nl ad (M0.1, M0.2, N, K))) 0 0 := by
  refine nm_of (by decide) (Nat.le_of_ble_eq_true rfl) ?_
  intro p e R s m args below meth c Q ls hx hb hr hlocks hml hown hts hs0 hK hZ hRf hRl hRc hRs hQ hP hD hl
  have hH : nm_H D Y (fun q => s0 ≤ q) s.heap X nl ad (M.1, M.2, N, K) s.heap [] := ⟨hP, hD, va_S.rf⟩
  have hl : lv_has ls 4 [(0, .ref (ad 300)), (1, .int x1), (2, .int x2), (3, .int x3)] := hl
  unfold f_X2_addJoint at hf
  refine lv_aload_n hx hb dX2_addJoint_0 rfl (lv_at hl 0 rfl) ?_
  refine gf_2_5 hK hx hb hts hown hH (cl_n300 hL) (cl_k300 hL) (hts _ tw_179) (fun _ h9 => h9) dX2_addJoint_1 ?_
  refine lv_iconst (v := 3) hx hb dX2_addJoint_4 (by decide) ?_
  refine lv_aload_n hx hb dX2_addJoint_5 rfl (lv_at hl 0 rfl) ?_
  refine gf_2_1 hK hx hb hts hown hH (cl_n300 hL) (cl_k300 hL) (hts _ tw_170) (fun _ h9 => h9) dX2_addJoint_6 ?_
  refine lv_imul hx hb dX2_addJoint_9 ?_
  refine lv_iload_n hx hb dX2_addJoint_10 rfl (lv_at hl 1 rfl) ?_
  obtain ⟨hi1, hf⟩ := nm_chk hf
  obtain ⟨M2, eM2, hf⟩ := nm_let hf
  refine nm_iast hx hb hK hH (cl_n301 hL) (cl_k301 hL) (cl_l301 hN) hi1 dX2_addJoint_11 (fun H locs hH => ?_)
  have hH : nm_H D Y (fun q => s0 ≤ q) s.heap X nl ad (M2.1, M2.2, N, K) H locs := by rw [eM2]; exact hH
  refine lv_aload_n hx hb dX2_addJoint_12 rfl (lv_at hl 0 rfl) ?_
  refine gf_2_5 hK hx hb hts hown hH (cl_n300 hL) (cl_k300 hL) (hts _ tw_179) (fun _ h9 => h9) dX2_addJoint_13 ?_
  refine lv_iconst (v := 3) hx hb dX2_addJoint_16 (by decide) ?_
  refine lv_aload_n hx hb dX2_addJoint_17 rfl (lv_at hl 0 rfl) ?_
  refine gf_2_1 hK hx hb hts hown hH (cl_n300 hL) (cl_k300 hL) (hts _ tw_170) (fun _ h9 => h9) dX2_addJoint_18 ?_
  refine lv_imul hx hb dX2_addJoint_21 ?_
  refine lv_iconst (v := 1) hx hb dX2_addJoint_22 (by decide) ?_
  refine lv_iadd hx hb dX2_addJoint_23 ?_
  refine lv_iload_n hx hb dX2_addJoint_24 rfl (lv_at hl 2 rfl) ?_
  obtain ⟨hi3, hf⟩ := nm_chk hf
  obtain ⟨M4, eM4, hf⟩ := nm_let hf
  refine nm_iast hx hb hK hH (cl_n301 hL) (cl_k301 hL) (cl_l301 hN) hi3 dX2_addJoint_25 (fun H locs hH => ?_)
  have hH : nm_H D Y (fun q => s0 ≤ q) s.heap X nl ad (M4.1, M4.2, N, K) H locs := by rw [eM4]; exact hH
  refine lv_aload_n hx hb dX2_addJoint_26 rfl (lv_at hl 0 rfl) ?_
  refine gf_2_5 hK hx hb hts hown hH (cl_n300 hL) (cl_k300 hL) (hts _ tw_179) (fun _ h9 => h9) dX2_addJoint_27 ?_
  refine lv_iconst (v := 3) hx hb dX2_addJoint_30 (by decide) ?_
  refine lv_aload_n hx hb dX2_addJoint_31 rfl (lv_at hl 0 rfl) ?_
  refine gf_2_1 hK hx hb hts hown hH (cl_n300 hL) (cl_k300 hL) (hts _ tw_170) (fun _ h9 => h9) dX2_addJoint_32 ?_
  refine lv_imul hx hb dX2_addJoint_35 ?_
  refine lv_iconst (v := 2) hx hb dX2_addJoint_36 (by decide) ?_
  refine lv_iadd hx hb dX2_addJoint_37 ?_
  refine lv_iload_n hx hb dX2_addJoint_38 rfl (lv_at hl 3 rfl) ?_
  obtain ⟨hi5, hf⟩ := nm_chk hf
  obtain ⟨M6, eM6, hf⟩ := nm_let hf
  refine nm_iast hx hb hK hH (cl_n301 hL) (cl_k301 hL) (cl_l301 hN) hi5 dX2_addJoint_39 (fun H locs hH => ?_)
  have hH : nm_H D Y (fun q => s0 ≤ q) s.heap X nl ad (M6.1, M6.2, N, K) H locs := by rw [eM6]; exact hH
  refine lv_aload_n hx hb dX2_addJoint_40 rfl (lv_at hl 0 rfl) ?_
  refine lv_dup hx hb dX2_addJoint_41 rfl ?_
  refine gf_2_1 hK hx hb hts hown hH (cl_n300 hL) (cl_k300 hL) (hts _ tw_170) (fun _ h9 => h9) dX2_addJoint_42 ?_
  refine lv_iconst (v := 1) hx hb dX2_addJoint_45 (by decide) ?_
  refine lv_iadd hx hb dX2_addJoint_46 ?_
  obtain ⟨M7, eM7, hf⟩ := nm_let hf
  refine pf_2_1 hK hx hb hts hown hH (cl_n300 hL) (cl_k300 hL) (hts _ tw_170) (fun _ h9 => h9) dX2_addJoint_47 (fun H locs hH => ?_)
  have hH : nm_H D Y (fun q => s0 ≤ q) s.heap X nl ad (M7.1, M7.2, N, K) H locs := by rw [eM7]; exact hH
  refine lv_aload_n hx hb dX2_addJoint_50 rfl (lv_at hl 0 rfl) ?_
  refine gf_2_1 hK hx hb hts hown hH (cl_n300 hL) (cl_k300 hL) (hts _ tw_170) (fun _ h9 => h9) dX2_addJoint_51 ?_
  exact nm_iret hx hb hr hlocks hQ hH (congrArg Prod.fst (Option.some.inj hf)) (congrArg (fun q => (q.2.1, q.2.2, N, K)) (Option.some.inj hf)) dX2_addJoint_54
def f_X2_tellGates (x1 : Int32) (x2 : Int32) (x3 : Int32) (M : cm) : Option (cm) :=
nm_l (nm_up M.1 300 6 x1, M.2) fun M1 =>
nm_l (nm_up M1.1 300 7 x2, M1.2) fun M2 =>
nm_l (nm_up M2.1 300 8 x3, M2.2) fun M3 =>
some M3
set_option maxHeartbeats 4000000 in
set_option maxRecDepth 100000 in
theorem k_X2_tellGates {l : Launch} {D : va_G} {Y : nm_Y} {s0 : Nat} {X : va_W} {ad : Nat → Nat} {nl : List Nat} {N K : Nat → Nat} (hL : cl_L nl K) (hN : cl_N N) {x1 : Int32} {x2 : Int32} {x3 : Int32} {M : cm} {M0 : cm} (hf : f_X2_tellGates x1 x2 x3 M = some M0) :
    nm_Met l yX2_tellGates cX2_tellGates 4 none { frames := 0, cells := 0, slots := 0, locals := 0 } [.ref (ad 300), .int x1, .int x2, .int x3] D Y s0 (nm_W Y X nl ad (M.1, M.2, N, K)) (nm_Qv D s0 (nm_W Y X nl ad (M0.1, M0.2, N, K))) 0 0 := by
  refine nm_of (by decide) (Nat.le_of_ble_eq_true rfl) ?_
  intro p e R s m args below meth c Q ls hx hb hr hlocks hml hown hts hs0 hK hZ hRf hRl hRc hRs hQ hP hD hl
  have hH : nm_H D Y (fun q => s0 ≤ q) s.heap X nl ad (M.1, M.2, N, K) s.heap [] := ⟨hP, hD, va_S.rf⟩
  have hl : lv_has ls 4 [(0, .ref (ad 300)), (1, .int x1), (2, .int x2), (3, .int x3)] := hl
  unfold f_X2_tellGates at hf
  refine lv_aload_n hx hb dX2_tellGates_0 rfl (lv_at hl 0 rfl) ?_
  refine lv_iload_n hx hb dX2_tellGates_1 rfl (lv_at hl 1 rfl) ?_
  obtain ⟨M1, eM1, hf⟩ := nm_let hf
  refine pf_2_6 hK hx hb hts hown hH (cl_n300 hL) (cl_k300 hL) (hts _ tw_180) (fun _ h9 => h9) dX2_tellGates_2 (fun H locs hH => ?_)
  have hH : nm_H D Y (fun q => s0 ≤ q) s.heap X nl ad (M1.1, M1.2, N, K) H locs := by rw [eM1]; exact hH
  refine lv_aload_n hx hb dX2_tellGates_5 rfl (lv_at hl 0 rfl) ?_
  refine lv_iload_n hx hb dX2_tellGates_6 rfl (lv_at hl 2 rfl) ?_
  obtain ⟨M2, eM2, hf⟩ := nm_let hf
  refine pf_2_7 hK hx hb hts hown hH (cl_n300 hL) (cl_k300 hL) (hts _ tw_181) (fun _ h9 => h9) dX2_tellGates_7 (fun H locs hH => ?_)
  have hH : nm_H D Y (fun q => s0 ≤ q) s.heap X nl ad (M2.1, M2.2, N, K) H locs := by rw [eM2]; exact hH
  refine lv_aload_n hx hb dX2_tellGates_10 rfl (lv_at hl 0 rfl) ?_
  refine lv_iload_n hx hb dX2_tellGates_11 rfl (lv_at hl 3 rfl) ?_
  obtain ⟨M3, eM3, hf⟩ := nm_let hf
  refine pf_2_8 hK hx hb hts hown hH (cl_n300 hL) (cl_k300 hL) (hts _ tw_182) (fun _ h9 => h9) dX2_tellGates_12 (fun H locs hH => ?_)
  have hH : nm_H D Y (fun q => s0 ≤ q) s.heap X nl ad (M3.1, M3.2, N, K) H locs := by rw [eM3]; exact hH
  exact nm_vret hx hb hr hlocks hQ hH (congrArg (fun q => (q.1, q.2, N, K)) (Option.some.inj hf)) dX2_tellGates_15
def f_X2_lacksConductor (M : cm) : Int32 :=
(if (M.1 300 8) = (-1 : Int32) then
(0 : Int32)
else
(if ((M.1 300 0) &&& ((1 : Int32) <<< ((M.1 300 8) &&& 31))) = 0 then
(1 : Int32)
else
(0 : Int32)))
set_option maxHeartbeats 4000000 in
set_option maxRecDepth 100000 in
theorem k_X2_lacksConductor {l : Launch} {D : va_G} {Y : nm_Y} {s0 : Nat} {X : va_W} {ad : Nat → Nat} {nl : List Nat} {N K : Nat → Nat} (hL : cl_L nl K) (hN : cl_N N) {M : cm} {r0 : Int32} (hf : f_X2_lacksConductor M = r0) :
    nm_Met l yX2_lacksConductor cX2_lacksConductor 1 (some .boolean) { frames := 0, cells := 0, slots := 0, locals := 0 } [.ref (ad 300)] D Y s0 (nm_W Y X nl ad (M.1, M.2, N, K)) (nm_Qi D s0 r0 (nm_W Y X nl ad (M.1, M.2, N, K))) 0 0 := by
  refine nm_of (by decide) (Nat.le_of_ble_eq_true rfl) ?_
  intro p e R s m args below meth c Q ls hx hb hr hlocks hml hown hts hs0 hK hZ hRf hRl hRc hRs hQ hP hD hl
  have hH : nm_H D Y (fun q => s0 ≤ q) s.heap X nl ad (M.1, M.2, N, K) s.heap [] := ⟨hP, hD, va_S.rf⟩
  have hl : lv_has ls 1 [(0, .ref (ad 300))] := hl
  unfold f_X2_lacksConductor at hf
  refine lv_aload_n hx hb dX2_lacksConductor_0 rfl (lv_at hl 0 rfl) ?_
  refine gf_2_8 hK hx hb hts hown hH (cl_n300 hL) (cl_k300 hL) (hts _ tw_182) (fun _ h9 => h9) dX2_lacksConductor_1 ?_
  refine lv_iconst (v := -1) hx hb dX2_lacksConductor_4 (by decide) ?_
  refine lv_icmp_eq (tgt := 26) hx hb dX2_lacksConductor_5 (by decide) (fun c1 => ?_) (fun c1 => ?_)
  · have hf := nm_it c1 hf
    refine lv_iconst (v := 0) hx hb dX2_lacksConductor_26 (by decide) ?_
    exact nm_zret hx hb hr hlocks hQ hH rfl hf rfl dX2_lacksConductor_27
  · have hf := nm_ie c1 hf
    refine lv_aload_n hx hb dX2_lacksConductor_8 rfl (lv_at hl 0 rfl) ?_
    refine gf_2_0 hK hx hb hts hown hH (cl_n300 hL) (cl_k300 hL) (hts _ tw_168) (fun _ h9 => h9) dX2_lacksConductor_9 ?_
    refine lv_iconst (v := 1) hx hb dX2_lacksConductor_12 (by decide) ?_
    refine lv_aload_n hx hb dX2_lacksConductor_13 rfl (lv_at hl 0 rfl) ?_
    refine gf_2_8 hK hx hb hts hown hH (cl_n300 hL) (cl_k300 hL) (hts _ tw_182) (fun _ h9 => h9) dX2_lacksConductor_14 ?_
    refine lv_ishl hx hb dX2_lacksConductor_17 ?_
    refine lv_iand hx hb dX2_lacksConductor_18 ?_
    refine lv_if_ne (tgt := 26) hx hb dX2_lacksConductor_19 (by decide) (fun c2 => ?_) (fun c2 => ?_)
    · have hf := nm_ie c2 hf
      refine lv_iconst (v := 0) hx hb dX2_lacksConductor_26 (by decide) ?_
      exact nm_zret hx hb hr hlocks hQ hH rfl hf rfl dX2_lacksConductor_27
    · have hf := nm_it c2 hf
      refine lv_iconst (v := 1) hx hb dX2_lacksConductor_22 (by decide) ?_
      refine lv_goto (tgt := 27) hx hb dX2_lacksConductor_23 (by decide) ?_
      exact nm_zret hx hb hr hlocks hQ hH rfl hf rfl dX2_lacksConductor_27
