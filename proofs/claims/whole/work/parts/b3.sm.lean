/-! box, path, text, put, by the program -/
def mk_i (l : List Int32) (k : Nat) : Int32 := l.getD k 0
section MK3
variable {p : Program} {l : Launch} {e : Env} {R : Room} {s : State} {m : MethodId} {args : Array Value} {below : List Frame} {meth : Method} {c : Code} {H : Heap} {locs : List Loc} {cells slots : Nat} {Q : State → Prop}
variable {cc : ByteArray} {pc : Nat} {ls : Array Slot} {rest : List Value}
variable {D : va_G} {Y : nm_Y} {X : va_W} {nl nl' : List Nat} {ad ad' : Nat → Nat} {C C' : nm_M} {s0 : Nat}
theorem mk_iretA {mc ms : Nat} (hx : p.tables.exec = Jvm.exec) (hb : c.code = cc) (hr : meth.sig.returnType = some .int) (hlocks : meth.locks = false) {v r0 : Int32} (hQ : Q = MQ below (mk_Q D Y s0 X ad r0 C') args s mc ms (fun q => s0 ≤ q)) (hRc : R.cells = mc) (hRs : R.slots = ms) (hcm : cells ≤ mc) (hsm : slots ≤ ms) (hH : nm_H D Y (fun q => s0 ≤ q) s.heap X nl' ad' C H locs) (hL : cl_L nl' C.2.2.2) (ha : ∀ x, ¬ cl_sh x → ad' x = ad x) (e1 : v = r0) (e2 : C = C') (hdg : decode cc pc = .ok (.ireturn, 1)) :
    W p l e R s m args below meth c H locs cells slots Q (F0 m pc ls [.int v]) := by
  subst e2
  subst hQ
  refine W.widen (k := mc) (n := ms) hcm hsm ?_
  exact W.iret (v := v) hx hb hr (fun t ht hW => ⟨⟨v, (nl', ad'), rfl, ⟨e1, hL, ha⟩, by rw [ht]; exact hH.1, hH.2.1⟩, hH.2.2.F ht⟩) hH.2.2.2.2 hdg hlocks
/-- a call on what is made -/
theorem mk_runV {y : MethodName} {bytes : ByteArray} {maxL nL n index mc ms ci q N : Nat} {fs : List Value} {ret : Option FieldType} {rm : Room} {As st : List Value} {own : String} {T : u_T} {Qc : Array Value → State → Outcome → State → Prop}
    (hM : nm_Met l y bytes maxL ret rm (.ref q :: As) D Y s0 (nm_W Y (X ++ [(q, .inr (ci, fs))]) nl ad C) Qc mc ms) (hx : p.tables.exec = Jvm.exec) (hb : c.code = cc) (hml : c.maxLocals = nL) (hown : s.vm.findClass own = some m.cls) (hts : ∀ w ∈ nm_T, w.before args s = true) (hs0 : s0 ≤ s.heap.size) (hK : nm_K D Y s) (hZ : nm_Z s) (hH : nm_H D Y (fun q => s0 ≤ q) s.heap (X ++ [(q, .inr (ci, fs))]) nl ad C H locs)
    (hcd : Cond.code y bytes maxL ret ∈ nm_T) (hlk : Cond.methodLink own index y ∈ nm_T) (him : Cond.instanceMethod y ∈ nm_T) (hse : Cond.selects y.cls y y ∈ nm_T) (hin : Cond.initialized y.cls ∈ nm_T) (hd : nm_hd y n) (hc : vwCl[ci]? = some (y.cls, T, N))
    (hrc : rm.cells = mc) (hrs : rm.slots = ms) (hR : rm.frames + 1 ≤ R.frames ∧ 8 + (maxL + 11) + rm.locals ≤ R.locals) (hlen : As.length = n) (hsz : ls.size = nL) (hst : st = As.reverse ++ .ref q :: rest) (hW8 : (rest.map fun v => v.category).sum ≤ 8) (hdg : decode cc pc = .ok (.invokevirtual index, 3)) (hf : cells + mc ≤ R.cells ∧ slots + ms ≤ R.slots) :
    va_Run p l e R s m args below meth c H locs cells slots mc ms (F0 m pc ls st) rest (Qc (Value.ref q :: As).toArray) (fun q => s0 ≤ q) := by
  refine va_runV (own := own) (Ts := nm_T) (C := y.cls) (n := n) (bytes := bytes) (maxL := maxL) (ret := ret) (ws := Cond.code y bytes maxL ret :: nm_T) ⟨hx, hb, hml, hown, hts⟩ hM ?_ ⟨nm_B.blind, va_recv hK hH.1 hc mk_get, nm_pre hK hZ hs0 hH _⟩ rfl hlen hsz hst (lv_room hW8) hdg hf
  refine cwV n hts ?_ rfl hrc hrs ⟨rfl, hd⟩ hR
  intro w hw
  unfold wsV at hw
  rcases List.mem_append.mp hw with h | h
  · have hw' : w ∈ nm_T := by
      simp only [List.mem_cons, List.not_mem_nil, or_false] at h
      rcases h with h | h | h | h <;> subst h <;> assumption
    exact ⟨hw', good_of_word (List.mem_filter.mp hw').2⟩
  · exact nm_gd (fun _ h => h) hcd w h
end MK3
theorem mw_326 : (Jvm.Cond.classLink "RulePlate" (72 : Nat) "RulePlate$Patch") ∈ nm_T := nm_tb 326 (by decide +kernel) (by decide +kernel)
theorem mw_327 : (Jvm.Cond.instantiable "RulePlate$Patch" (6 : Nat)) ∈ nm_T := nm_tb 327 (by decide +kernel) (by decide +kernel)
theorem mw_328 : (Jvm.Cond.methodLink "RulePlate" (74 : Nat) ({ cls := "RulePlate$Patch", name := "<init>", desc := "(III)V" } : Jvm.MethodName)) ∈ nm_T := nm_tb 328 (by decide +kernel) (by decide +kernel)
theorem mw_329 : (Jvm.Cond.instanceMethod ({ cls := "RulePlate$Patch", name := "<init>", desc := "(III)V" } : Jvm.MethodName)) ∈ nm_T := nm_tb 329 (by decide +kernel) (by decide +kernel)
theorem mw_330 : (Jvm.Cond.code ({ cls := "RulePlate$Patch", name := "<init>", desc := "(III)V" } : Jvm.MethodName) prog_8_method_1_code (4 : Nat) (Option.none : Option Jvm.ClassFile.FieldType)) ∈ nm_T := nm_tb 330 (by decide +kernel) (by decide +kernel)
theorem mw_366 : (Jvm.Cond.methodLink "RulePlate" (77 : Nat) ({ cls := "RulePlate$Patch", name := "reach", desc := "(IIII)V" } : Jvm.MethodName)) ∈ nm_T := nm_tb 366 (by decide +kernel) (by decide +kernel)
theorem mw_367 : (Jvm.Cond.instanceMethod ({ cls := "RulePlate$Patch", name := "reach", desc := "(IIII)V" } : Jvm.MethodName)) ∈ nm_T := nm_tb 367 (by decide +kernel) (by decide +kernel)
theorem mw_369 : (Jvm.Cond.code ({ cls := "RulePlate$Patch", name := "reach", desc := "(IIII)V" } : Jvm.MethodName) prog_8_method_2_code (7 : Nat) (Option.none : Option Jvm.ClassFile.FieldType)) ∈ nm_T := nm_tb 369 (by decide +kernel) (by decide +kernel)
theorem mw_380 : (Jvm.Cond.methodLink "RulePlate" (81 : Nat) ({ cls := "RulePlate", name := "drawn", desc := "(ILRulePlate$Shape;)I" } : Jvm.MethodName)) ∈ nm_T := nm_tb 380 (by decide +kernel) (by decide +kernel)
theorem mw_382 : (Jvm.Cond.instanceMethod ({ cls := "RulePlate", name := "drawn", desc := "(ILRulePlate$Shape;)I" } : Jvm.MethodName)) ∈ nm_T := nm_tb 382 (by decide +kernel) (by decide +kernel)
theorem mw_383 : (Jvm.Cond.code ({ cls := "RulePlate", name := "drawn", desc := "(ILRulePlate$Shape;)I" } : Jvm.MethodName) prog_1_method_37_code (3 : Nat) (Option.some Jvm.ClassFile.FieldType.int)) ∈ nm_T := nm_tb 383 (by decide +kernel) (by decide +kernel)
theorem mw_397 : (Jvm.Cond.methodLink "RulePlate" (91 : Nat) ({ cls := "java/lang/Math", name := "max", desc := "(II)I" } : Jvm.MethodName)) ∈ nm_T := nm_tb 397 (by decide +kernel) (by decide +kernel)
theorem mw_402 : (Jvm.Cond.classLink "RulePlate" (94 : Nat) "RulePlate$Label") ∈ nm_T := nm_tb 402 (by decide +kernel) (by decide +kernel)
theorem mw_403 : (Jvm.Cond.instantiable "RulePlate$Label" (4 : Nat)) ∈ nm_T := nm_tb 403 (by decide +kernel) (by decide +kernel)
theorem mw_404 : (Jvm.Cond.methodLink "RulePlate" (96 : Nat) ({ cls := "RulePlate$Label", name := "<init>", desc := "(III)V" } : Jvm.MethodName)) ∈ nm_T := nm_tb 404 (by decide +kernel) (by decide +kernel)
theorem mw_405 : (Jvm.Cond.instanceMethod ({ cls := "RulePlate$Label", name := "<init>", desc := "(III)V" } : Jvm.MethodName)) ∈ nm_T := nm_tb 405 (by decide +kernel) (by decide +kernel)
theorem mw_406 : (Jvm.Cond.code ({ cls := "RulePlate$Label", name := "<init>", desc := "(III)V" } : Jvm.MethodName) prog_7_method_1_code (4 : Nat) (Option.none : Option Jvm.ClassFile.FieldType)) ∈ nm_T := nm_tb 406 (by decide +kernel) (by decide +kernel)
theorem mw_424 : (Jvm.Cond.instantiable "RulePlate$Put" (9 : Nat)) ∈ nm_T := nm_tb 424 (by decide +kernel) (by decide +kernel)
theorem mw_425 : (Jvm.Cond.methodLink "RulePlate" (99 : Nat) ({ cls := "RulePlate$Put", name := "<init>", desc := "(IIIZ)V" } : Jvm.MethodName)) ∈ nm_T := nm_tb 425 (by decide +kernel) (by decide +kernel)
theorem mw_426 : (Jvm.Cond.instanceMethod ({ cls := "RulePlate$Put", name := "<init>", desc := "(IIIZ)V" } : Jvm.MethodName)) ∈ nm_T := nm_tb 426 (by decide +kernel) (by decide +kernel)
theorem mw_427 : (Jvm.Cond.code ({ cls := "RulePlate$Put", name := "<init>", desc := "(IIIZ)V" } : Jvm.MethodName) prog_9_method_1_code (5 : Nat) (Option.none : Option Jvm.ClassFile.FieldType)) ∈ nm_T := nm_tb 427 (by decide +kernel) (by decide +kernel)
theorem mk_fs0_5 : ∀ j, j < 4 → defaultValue (tyX5 j) = vp_V [.int 0, .int 0, .int 0, .int 0] j := by
  intro j hj
  have h : j = 0 ∨ j = 1 ∨ j = 2 ∨ j = 3 := by omega
  rcases h with rfl | rfl | rfl | rfl <;> rfl
theorem mk_fs0_6 : ∀ j, j < 6 → defaultValue (tyX6 j) = vp_V [.int 0, .int 0, .int 0, .int 0, .int 0, .long 0] j := by
  intro j hj
  have h : j = 0 ∨ j = 1 ∨ j = 2 ∨ j = 3 ∨ j = 4 ∨ j = 5 := by omega
  rcases h with rfl | rfl | rfl | rfl | rfl | rfl <;> rfl
theorem mk_fs0_7 : ∀ j, j < 9 → defaultValue (tyX7 j) = vp_V [.int 0, .int 0, .int 0, .int 0, .int 0, .int 0, .int 0, .int 0, .int 0] j := by
  intro j hj
  have h : j = 0 ∨ j = 1 ∨ j = 2 ∨ j = 3 ∨ j = 4 ∨ j = 5 ∨ j = 6 ∨ j = 7 ∨ j = 8 := by omega
  rcases h with rfl | rfl | rfl | rfl | rfl | rfl | rfl | rfl | rfl <;> rfl
theorem hd_X6_reach : nm_hd yX6_reach 4 := by decide +kernel
theorem sw_X6_reach : Cond.selects yX6_reach.cls yX6_reach yX6_reach ∈ nm_T := nm_tb 368 (by decide +kernel) (by decide +kernel)
def f_X11_text (K : Nat → Nat) (x1 : Int32) (x2 : Int32) (x3 : Int32) (x4 : Int32) (M : cm) : Option (Int32 × cm × (Nat → Nat)) :=
(if (f_X11_outside x1 (8 : Int32)) = 0 then
(if (f_X11_outside x2 (16 : Int32)) = 0 then
(if (f_X11_outside x3 (4096 : Int32)) = 0 then
(if x4 < (1 : Int32) then
nm_s2 (f_X11_refuse (-7 : Int32) M) fun r13 M11 =>
some (r13, M11, K)
else
(if x4 ≤ (999 : Int32) then
nm_c x1 8 (
nm_l (1000 + 100 * x1.toNatClampNeg) fun w16 =>
(if (M.1 w16 1) < (16 : Int32) then
nm_s3 (f_X11_drawn x1 (mk_i [3, x2, x3, (f_X5_pack x2 x3 x4)]) (fun _ => 0) M) fun r19 M20 pz21 =>
some (r19, M20, va_up K pz21 5)
else
nm_s2 (f_X11_refuse (-8 : Int32) M) fun r24 M22 =>
some (r24, M22, K)))
else
nm_s2 (f_X11_refuse (-7 : Int32) M) fun r27 M25 =>
some (r27, M25, K)))
else
nm_s2 (f_X11_refuse (-3 : Int32) M) fun r30 M28 =>
some (r30, M28, K))
else
nm_s2 (f_X11_refuse (-3 : Int32) M) fun r8 M6 =>
some (r8, M6, K))
else
nm_s2 (f_X11_refuse (-3 : Int32) M) fun r4 M2 =>
some (r4, M2, K))
set_option maxHeartbeats 4000000 in
set_option maxRecDepth 100000 in
theorem k_X11_text {l : Launch} {D : va_G} {Y : nm_Y} {s0 : Nat} {X : va_W} {ad : Nat → Nat} {nl : List Nat} {N K : Nat → Nat} (hL : cl_L nl K) (hN : cl_N N) {x1 : Int32} {x2 : Int32} {x3 : Int32} {x4 : Int32} {M : cm} {r0 : Int32} {M0 : cm} {K0 : Nat → Nat} (hf : f_X11_text K x1 x2 x3 x4 M = some (r0, M0, K0)) :
    nm_Met l yX11_text cX11_text 5 (some .int) { frames := 3, cells := 1, slots := 9, locals := 58 } [.ref (ad 0), .int x1, .int x2, .int x3, .int x4] D Y s0 (nm_W Y X nl ad (M.1, M.2, N, K)) (mk_Q D Y s0 X ad r0 (M0.1, M0.2, N, K0)) 1 9 := by
  refine nm_of (by decide) (Nat.le_of_ble_eq_true rfl) ?_
  intro p e R s m args below meth c Q ls hx hb hr hlocks hml hown hts hs0 hK hZ hRf hRl hRc hRs hQ hP hD hl
  have hH : nm_H D Y (fun q => s0 ≤ q) s.heap X nl ad (M.1, M.2, N, K) s.heap [] := ⟨hP, hD, va_S.rf⟩
  have hl : lv_has ls 5 [(0, .ref (ad 0)), (1, .int x1), (2, .int x2), (3, .int x3), (4, .int x4)] := hl
  unfold f_X11_text at hf
  refine lv_iload_n hx hb dX11_text_0 rfl (lv_at hl 1 rfl) ?_
  refine lv_bipush (v := 8) hx hb dX11_text_1 (by decide) ?_
  refine nm_calli (nm_runS (X := X) (nl := nl) (k_X11_outside hL hN (hf := (rfl : f_X11_outside x1 (8 : Int32) = _))) hx hb hml hown hts hs0 hK hZ hH tw_321 tw_319 tw_320 tw_1 hd_X11_outside rfl rfl ⟨Nat.le_trans (Nat.le_of_ble_eq_true rfl) hRf, Nat.le_trans (Nat.le_of_ble_eq_true rfl) hRl⟩ rfl hl.1 rfl (Nat.le_of_ble_eq_true rfl) dX11_text_3 ⟨Nat.zero_le _, Nat.zero_le _⟩) hH (fun H locs hH => ?_)
  have hH : nm_H D Y (fun q => s0 ≤ q) s.heap X nl ad (M.1, M.2, N, K) H locs := hH
  refine lv_if_ne (tgt := 28) hx hb dX11_text_6 (by decide) (fun c1 => ?_) (fun c1 => ?_)
  · have hf := nm_ie c1 hf
    refine lv_aload_n hx hb dX11_text_28 rfl (lv_at hl 0 rfl) ?_
    refine lv_bipush (v := -3) hx hb dX11_text_29 (by decide) ?_
    obtain ⟨r4, M2, hc3, hf⟩ := nm_sd2 hf
    refine nm_calli (nm_runV (X := X) (nl := nl) (k_X11_refuse hL hN (hf := hc3)) hx hb hml hown hts hs0 hK hZ hH tw_325 tw_322 tw_324 (sw_X11_refuse) tw_1 hd_X11_refuse (cl_n0 hL) (cl_k0 hL) (by decide) rfl rfl rfl ⟨Nat.le_trans (Nat.le_of_ble_eq_true rfl) hRf, Nat.le_trans (Nat.le_of_ble_eq_true rfl) hRl⟩ rfl hl.1 rfl (Nat.le_of_ble_eq_true rfl) dX11_text_31 ⟨Nat.zero_le _, Nat.zero_le _⟩) hH (fun H locs hH => ?_)
    have hH : nm_H D Y (fun q => s0 ≤ q) s.heap X nl ad (M2.1, M2.2, N, K) H locs := hH
    cases hf
    exact mk_iretA hx hb hr hlocks hQ hRc hRs (by omega) (by omega) hH hL (fun _ _ => rfl) rfl rfl dX11_text_34
  · have hf := nm_it c1 hf
    refine lv_iload_n hx hb dX11_text_9 rfl (lv_at hl 2 rfl) ?_
    refine lv_bipush (v := 16) hx hb dX11_text_10 (by decide) ?_
    refine nm_calli (nm_runS (X := X) (nl := nl) (k_X11_outside hL hN (hf := (rfl : f_X11_outside x2 (16 : Int32) = _))) hx hb hml hown hts hs0 hK hZ hH tw_321 tw_319 tw_320 tw_1 hd_X11_outside rfl rfl ⟨Nat.le_trans (Nat.le_of_ble_eq_true rfl) hRf, Nat.le_trans (Nat.le_of_ble_eq_true rfl) hRl⟩ rfl hl.1 rfl (Nat.le_of_ble_eq_true rfl) dX11_text_12 ⟨Nat.zero_le _, Nat.zero_le _⟩) hH (fun H locs hH => ?_)
    have hH : nm_H D Y (fun q => s0 ≤ q) s.heap X nl ad (M.1, M.2, N, K) H locs := hH
    refine lv_if_ne (tgt := 28) hx hb dX11_text_15 (by decide) (fun c5 => ?_) (fun c5 => ?_)
    · have hf := nm_ie c5 hf
      refine lv_aload_n hx hb dX11_text_28 rfl (lv_at hl 0 rfl) ?_
      refine lv_bipush (v := -3) hx hb dX11_text_29 (by decide) ?_
      obtain ⟨r8, M6, hc7, hf⟩ := nm_sd2 hf
      refine nm_calli (nm_runV (X := X) (nl := nl) (k_X11_refuse hL hN (hf := hc7)) hx hb hml hown hts hs0 hK hZ hH tw_325 tw_322 tw_324 (sw_X11_refuse) tw_1 hd_X11_refuse (cl_n0 hL) (cl_k0 hL) (by decide) rfl rfl rfl ⟨Nat.le_trans (Nat.le_of_ble_eq_true rfl) hRf, Nat.le_trans (Nat.le_of_ble_eq_true rfl) hRl⟩ rfl hl.1 rfl (Nat.le_of_ble_eq_true rfl) dX11_text_31 ⟨Nat.zero_le _, Nat.zero_le _⟩) hH (fun H locs hH => ?_)
      have hH : nm_H D Y (fun q => s0 ≤ q) s.heap X nl ad (M6.1, M6.2, N, K) H locs := hH
      cases hf
      exact mk_iretA hx hb hr hlocks hQ hRc hRs (by omega) (by omega) hH hL (fun _ _ => rfl) rfl rfl dX11_text_34
    · have hf := nm_it c5 hf
      refine lv_iload_n hx hb dX11_text_18 rfl (lv_at hl 3 rfl) ?_
      refine lv_sipush (v := 4096) hx hb dX11_text_19 (by decide) ?_
      refine nm_calli (nm_runS (X := X) (nl := nl) (k_X11_outside hL hN (hf := (rfl : f_X11_outside x3 (4096 : Int32) = _))) hx hb hml hown hts hs0 hK hZ hH tw_321 tw_319 tw_320 tw_1 hd_X11_outside rfl rfl ⟨Nat.le_trans (Nat.le_of_ble_eq_true rfl) hRf, Nat.le_trans (Nat.le_of_ble_eq_true rfl) hRl⟩ rfl hl.1 rfl (Nat.le_of_ble_eq_true rfl) dX11_text_22 ⟨Nat.zero_le _, Nat.zero_le _⟩) hH (fun H locs hH => ?_)
      have hH : nm_H D Y (fun q => s0 ≤ q) s.heap X nl ad (M.1, M.2, N, K) H locs := hH
      refine lv_if_eq (tgt := 35) hx hb dX11_text_25 (by decide) (fun c9 => ?_) (fun c9 => ?_)
      · have hf := nm_it c9 hf
        refine lv_iload hx hb dX11_text_35 (lv_at hl 4 rfl) ?_
        refine lv_iconst (v := 1) hx hb dX11_text_37 (by decide) ?_
        refine lv_icmp_lt (tgt := 49) hx hb dX11_text_38 (by decide) (fun c10 => ?_) (fun c10 => ?_)
        · have hf := nm_it c10 hf
          refine lv_aload_n hx hb dX11_text_49 rfl (lv_at hl 0 rfl) ?_
          refine lv_bipush (v := -7) hx hb dX11_text_50 (by decide) ?_
          obtain ⟨r13, M11, hc12, hf⟩ := nm_sd2 hf
          refine nm_calli (nm_runV (X := X) (nl := nl) (k_X11_refuse hL hN (hf := hc12)) hx hb hml hown hts hs0 hK hZ hH tw_325 tw_322 tw_324 (sw_X11_refuse) tw_1 hd_X11_refuse (cl_n0 hL) (cl_k0 hL) (by decide) rfl rfl rfl ⟨Nat.le_trans (Nat.le_of_ble_eq_true rfl) hRf, Nat.le_trans (Nat.le_of_ble_eq_true rfl) hRl⟩ rfl hl.1 rfl (Nat.le_of_ble_eq_true rfl) dX11_text_52 ⟨Nat.zero_le _, Nat.zero_le _⟩) hH (fun H locs hH => ?_)
          have hH : nm_H D Y (fun q => s0 ≤ q) s.heap X nl ad (M11.1, M11.2, N, K) H locs := hH
          cases hf
          exact mk_iretA hx hb hr hlocks hQ hRc hRs (by omega) (by omega) hH hL (fun _ _ => rfl) rfl rfl dX11_text_55
        · have hf := nm_ie c10 hf
          refine lv_iload hx hb dX11_text_41 (lv_at hl 4 rfl) ?_
          refine lv_sipush (v := 999) hx hb dX11_text_43 (by decide) ?_
          refine lv_icmp_le (tgt := 56) hx hb dX11_text_46 (by decide) (fun c14 => ?_) (fun c14 => ?_)
          · have hf := nm_it c14 hf
            refine lv_aload_n hx hb dX11_text_56 rfl (lv_at hl 0 rfl) ?_
            refine gf_11_0 hK hx hb hts hown hH (cl_n0 hL) (cl_k0 hL) (hts _ tw_287) (fun _ h9 => h9) dX11_text_57 ?_
            refine lv_iload_n hx hb dX11_text_60 rfl (lv_at hl 1 rfl) ?_
            obtain ⟨hi15, hf⟩ := nm_chk hf
            obtain ⟨w16, ew16, hf⟩ := nm_let hf
            have hw16 : cl_w w16 := cl_wi ew16 hi15
            refine nm_cald hx hb hK hH (cl_n1 hL) (cl_k1 hL) (cl_l1 hN) hi15 ew16 dX11_text_61 ?_
            refine gf_1_1 hK hx hb hts hown hH (cl_nw0 hL hw16) (cl_kw0 hL hw16) (hts _ tw_265) (fun _ h9 => h9) dX11_text_62 ?_
            refine lv_bipush (v := 16) hx hb dX11_text_65 (by decide) ?_
            refine lv_icmp_lt (tgt := 77) hx hb dX11_text_67 (by decide) (fun c17 => ?_) (fun c17 => ?_)
            · have hf := nm_it c17 hf
              refine lv_aload_n hx hb dX11_text_77 rfl (lv_at hl 0 rfl) ?_
              refine lv_iload_n hx hb dX11_text_78 rfl (lv_at hl 1 rfl) ?_
              refine mk_new (ci := 4) hx hb hts inX5 tyX5 tyX5_ok hown mw_402 mw_403 tw_14 hK hs0 hH rfl (fs := [.int 0, .int 0, .int 0, .int 0]) mk_fs0_5 (by omega) (by omega) dX11_text_79 (fun q H hH => ?_)
              refine lv_dup hx hb dX11_text_82 rfl ?_
              refine lv_iload_n hx hb dX11_text_83 rfl (lv_at hl 2 rfl) ?_
              refine lv_iload_n hx hb dX11_text_84 rfl (lv_at hl 3 rfl) ?_
              refine lv_iload hx hb dX11_text_85 (lv_at hl 4 rfl) ?_
              refine nm_callv (mk_runI (X := (X ++ [(q, .inr (4, [.int 0, .int 0, .int 0, .int 0]))])) (nl := nl) (k_X5_init (D := D) (Y := Y) (s0 := s0) (X := X) (ad := ad) (nl := nl) (N := N) (K := K) (M := M) hL hN (q := q) (fs := [.int 0, .int 0, .int 0, .int 0]) rfl) hx hb hml hown hts hs0 hK hZ hH mw_406 mw_404 mw_405 tw_14 rfl hd_X5_init rfl rfl ⟨Nat.le_trans (Nat.le_of_ble_eq_true rfl) hRf, Nat.le_trans (Nat.le_of_ble_eq_true rfl) hRl⟩ rfl hl.1 rfl (Nat.le_of_ble_eq_true rfl) dX11_text_87 ⟨by omega, by omega⟩) hH (fun H locs hH => ?_)
              have hH : nm_H D Y (fun q => s0 ≤ q) s.heap (X ++ [(q, .inr (4, [.int 3, .int x2, .int x3, .int (f_X5_pack x2 x3 x4)]))]) nl ad (M.1, M.2, N, K) H locs := hH
              obtain ⟨r19, M20, pz21, hc18, hf⟩ := nm_sd3 hf
              have hH : nm_H D Y (fun q => s0 ≤ q) s.heap (X ++ [(q, .inr (4, mk_fs 4 (mk_i [3, x2, x3, (f_X5_pack x2 x3 x4)]) (fun _ => 0)))]) nl ad (M.1, M.2, N, K) H locs := hH
              refine mk_calli (mc := 0) (ms := 0) (nm_runV (X := (X ++ [(q, .inr (4, mk_fs 4 (mk_i [3, x2, x3, (f_X5_pack x2 x3 x4)]) (fun _ => 0)))])) (nl := nl) (k_X11_drawn hL hN (by decide) (by decide) hc18) hx hb hml hown hts hs0 hK hZ hH mw_383 mw_380 mw_382 sw_X11_drawn tw_1 hd_X11_drawn (cl_n0 hL) (cl_k0 hL) (by decide) rfl rfl rfl ⟨Nat.le_trans (Nat.le_of_ble_eq_true rfl) hRf, Nat.le_trans (Nat.le_of_ble_eq_true rfl) hRl⟩ rfl hl.1 rfl (Nat.le_of_ble_eq_true rfl) dX11_text_90 ⟨by omega, by omega⟩) hH (fun nl2 ad2 hL2 ha2 H locs hH => ?_)
              cases hf
              exact mk_iretA hx hb hr hlocks hQ hRc hRs (by omega) (by omega) hH hL2 ha2 rfl rfl dX11_text_93
            · have hf := nm_ie c17 hf
              refine lv_aload_n hx hb dX11_text_70 rfl (lv_at hl 0 rfl) ?_
              refine lv_bipush (v := -8) hx hb dX11_text_71 (by decide) ?_
              obtain ⟨r24, M22, hc23, hf⟩ := nm_sd2 hf
              refine nm_calli (nm_runV (X := X) (nl := nl) (k_X11_refuse hL hN (hf := hc23)) hx hb hml hown hts hs0 hK hZ hH tw_325 tw_322 tw_324 (sw_X11_refuse) tw_1 hd_X11_refuse (cl_n0 hL) (cl_k0 hL) (by decide) rfl rfl rfl ⟨Nat.le_trans (Nat.le_of_ble_eq_true rfl) hRf, Nat.le_trans (Nat.le_of_ble_eq_true rfl) hRl⟩ rfl hl.1 rfl (Nat.le_of_ble_eq_true rfl) dX11_text_73 ⟨Nat.zero_le _, Nat.zero_le _⟩) hH (fun H locs hH => ?_)
              have hH : nm_H D Y (fun q => s0 ≤ q) s.heap X nl ad (M22.1, M22.2, N, K) H locs := hH
              cases hf
              exact mk_iretA hx hb hr hlocks hQ hRc hRs (by omega) (by omega) hH hL (fun _ _ => rfl) rfl rfl dX11_text_76
          · have hf := nm_ie c14 hf
            refine lv_aload_n hx hb dX11_text_49 rfl (lv_at hl 0 rfl) ?_
            refine lv_bipush (v := -7) hx hb dX11_text_50 (by decide) ?_
            obtain ⟨r27, M25, hc26, hf⟩ := nm_sd2 hf
            refine nm_calli (nm_runV (X := X) (nl := nl) (k_X11_refuse hL hN (hf := hc26)) hx hb hml hown hts hs0 hK hZ hH tw_325 tw_322 tw_324 (sw_X11_refuse) tw_1 hd_X11_refuse (cl_n0 hL) (cl_k0 hL) (by decide) rfl rfl rfl ⟨Nat.le_trans (Nat.le_of_ble_eq_true rfl) hRf, Nat.le_trans (Nat.le_of_ble_eq_true rfl) hRl⟩ rfl hl.1 rfl (Nat.le_of_ble_eq_true rfl) dX11_text_52 ⟨Nat.zero_le _, Nat.zero_le _⟩) hH (fun H locs hH => ?_)
            have hH : nm_H D Y (fun q => s0 ≤ q) s.heap X nl ad (M25.1, M25.2, N, K) H locs := hH
            cases hf
            exact mk_iretA hx hb hr hlocks hQ hRc hRs (by omega) (by omega) hH hL (fun _ _ => rfl) rfl rfl dX11_text_55
      · have hf := nm_ie c9 hf
        refine lv_aload_n hx hb dX11_text_28 rfl (lv_at hl 0 rfl) ?_
        refine lv_bipush (v := -3) hx hb dX11_text_29 (by decide) ?_
        obtain ⟨r30, M28, hc29, hf⟩ := nm_sd2 hf
        refine nm_calli (nm_runV (X := X) (nl := nl) (k_X11_refuse hL hN (hf := hc29)) hx hb hml hown hts hs0 hK hZ hH tw_325 tw_322 tw_324 (sw_X11_refuse) tw_1 hd_X11_refuse (cl_n0 hL) (cl_k0 hL) (by decide) rfl rfl rfl ⟨Nat.le_trans (Nat.le_of_ble_eq_true rfl) hRf, Nat.le_trans (Nat.le_of_ble_eq_true rfl) hRl⟩ rfl hl.1 rfl (Nat.le_of_ble_eq_true rfl) dX11_text_31 ⟨Nat.zero_le _, Nat.zero_le _⟩) hH (fun H locs hH => ?_)
        have hH : nm_H D Y (fun q => s0 ≤ q) s.heap X nl ad (M28.1, M28.2, N, K) H locs := hH
        cases hf
        exact mk_iretA hx hb hr hlocks hQ hRc hRs (by omega) (by omega) hH hL (fun _ _ => rfl) rfl rfl dX11_text_34
theorem hd_X11_text : nm_hd yX11_text 4 := by decide +kernel
theorem sw_X11_text : Cond.selects yX11_text.cls yX11_text yX11_text ∈ nm_T := nm_tb 400 (by decide +kernel) (by decide +kernel)
def f_X11_put (K : Nat → Nat) (x1 : Int32) (x2 : Int32) (x3 : Int32) (x4 : Int32) (x5 : Int32) (M : cm) : Option (Int32 × cm × (Nat → Nat)) :=
(if (f_X11_outside x1 (8 : Int32)) = 0 then
(if (f_X11_outside x2 x1) = 0 then
(if (f_X11_outside x3 (4096 : Int32)) = 0 then
(if x4 < 0 then
nm_s2 (f_X11_refuse (-7 : Int32) M) fun r13 M11 =>
some (r13, M11, K)
else
(if x4 ≤ (3 : Int32) then
nm_c x1 8 (
nm_l (1000 + 100 * x1.toNatClampNeg) fun w16 =>
(if (M.1 w16 1) < (16 : Int32) then
nm_s3 (f_X11_drawn x1 (mk_i [4, x2, x3, x4, x5, 0, 0, 1, 1]) (fun _ => 0) M) fun r19 M20 pz21 =>
some (r19, M20, va_up K pz21 7)
else
nm_s2 (f_X11_refuse (-8 : Int32) M) fun r24 M22 =>
some (r24, M22, K)))
else
nm_s2 (f_X11_refuse (-7 : Int32) M) fun r27 M25 =>
some (r27, M25, K)))
else
nm_s2 (f_X11_refuse (-3 : Int32) M) fun r30 M28 =>
some (r30, M28, K))
else
nm_s2 (f_X11_refuse (-3 : Int32) M) fun r8 M6 =>
some (r8, M6, K))
else
nm_s2 (f_X11_refuse (-3 : Int32) M) fun r4 M2 =>
some (r4, M2, K))
set_option maxHeartbeats 4000000 in
set_option maxRecDepth 100000 in
theorem k_X11_put {l : Launch} {D : va_G} {Y : nm_Y} {s0 : Nat} {X : va_W} {ad : Nat → Nat} {nl : List Nat} {N K : Nat → Nat} (hL : cl_L nl K) (hN : cl_N N) {x1 : Int32} {x2 : Int32} {x3 : Int32} {x4 : Int32} {x5 : Int32} (hx5 : narrow .boolean (.int x5) = .int x5 ∧ fits .boolean (.int x5) = true) {M : cm} {r0 : Int32} {M0 : cm} {K0 : Nat → Nat} (hf : f_X11_put K x1 x2 x3 x4 x5 M = some (r0, M0, K0)) :
    nm_Met l yX11_put cX11_put 6 (some .int) { frames := 3, cells := 1, slots := 9, locals := 59 } [.ref (ad 0), .int x1, .int x2, .int x3, .int x4, .int x5] D Y s0 (nm_W Y X nl ad (M.1, M.2, N, K)) (mk_Q D Y s0 X ad r0 (M0.1, M0.2, N, K0)) 1 9 := by
  refine nm_of (by decide) (Nat.le_of_ble_eq_true rfl) ?_
  intro p e R s m args below meth c Q ls hx hb hr hlocks hml hown hts hs0 hK hZ hRf hRl hRc hRs hQ hP hD hl
  have hH : nm_H D Y (fun q => s0 ≤ q) s.heap X nl ad (M.1, M.2, N, K) s.heap [] := ⟨hP, hD, va_S.rf⟩
  have hl : lv_has ls 6 [(0, .ref (ad 0)), (1, .int x1), (2, .int x2), (3, .int x3), (4, .int x4), (5, .int x5)] := hl
  unfold f_X11_put at hf
  refine lv_iload_n hx hb dX11_put_0 rfl (lv_at hl 1 rfl) ?_
  refine lv_bipush (v := 8) hx hb dX11_put_1 (by decide) ?_
  refine nm_calli (nm_runS (X := X) (nl := nl) (k_X11_outside hL hN (hf := (rfl : f_X11_outside x1 (8 : Int32) = _))) hx hb hml hown hts hs0 hK hZ hH tw_321 tw_319 tw_320 tw_1 hd_X11_outside rfl rfl ⟨Nat.le_trans (Nat.le_of_ble_eq_true rfl) hRf, Nat.le_trans (Nat.le_of_ble_eq_true rfl) hRl⟩ rfl hl.1 rfl (Nat.le_of_ble_eq_true rfl) dX11_put_3 ⟨Nat.zero_le _, Nat.zero_le _⟩) hH (fun H locs hH => ?_)
  have hH : nm_H D Y (fun q => s0 ≤ q) s.heap X nl ad (M.1, M.2, N, K) H locs := hH
  refine lv_if_ne (tgt := 27) hx hb dX11_put_6 (by decide) (fun c1 => ?_) (fun c1 => ?_)
  · have hf := nm_ie c1 hf
    refine lv_aload_n hx hb dX11_put_27 rfl (lv_at hl 0 rfl) ?_
    refine lv_bipush (v := -3) hx hb dX11_put_28 (by decide) ?_
    obtain ⟨r4, M2, hc3, hf⟩ := nm_sd2 hf
    refine nm_calli (nm_runV (X := X) (nl := nl) (k_X11_refuse hL hN (hf := hc3)) hx hb hml hown hts hs0 hK hZ hH tw_325 tw_322 tw_324 (sw_X11_refuse) tw_1 hd_X11_refuse (cl_n0 hL) (cl_k0 hL) (by decide) rfl rfl rfl ⟨Nat.le_trans (Nat.le_of_ble_eq_true rfl) hRf, Nat.le_trans (Nat.le_of_ble_eq_true rfl) hRl⟩ rfl hl.1 rfl (Nat.le_of_ble_eq_true rfl) dX11_put_30 ⟨Nat.zero_le _, Nat.zero_le _⟩) hH (fun H locs hH => ?_)
    have hH : nm_H D Y (fun q => s0 ≤ q) s.heap X nl ad (M2.1, M2.2, N, K) H locs := hH
    cases hf
    exact mk_iretA hx hb hr hlocks hQ hRc hRs (by omega) (by omega) hH hL (fun _ _ => rfl) rfl rfl dX11_put_33
  · have hf := nm_it c1 hf
    refine lv_iload_n hx hb dX11_put_9 rfl (lv_at hl 2 rfl) ?_
    refine lv_iload_n hx hb dX11_put_10 rfl (lv_at hl 1 rfl) ?_
    refine nm_calli (nm_runS (X := X) (nl := nl) (k_X11_outside hL hN (hf := (rfl : f_X11_outside x2 x1 = _))) hx hb hml hown hts hs0 hK hZ hH tw_321 tw_319 tw_320 tw_1 hd_X11_outside rfl rfl ⟨Nat.le_trans (Nat.le_of_ble_eq_true rfl) hRf, Nat.le_trans (Nat.le_of_ble_eq_true rfl) hRl⟩ rfl hl.1 rfl (Nat.le_of_ble_eq_true rfl) dX11_put_11 ⟨Nat.zero_le _, Nat.zero_le _⟩) hH (fun H locs hH => ?_)
    have hH : nm_H D Y (fun q => s0 ≤ q) s.heap X nl ad (M.1, M.2, N, K) H locs := hH
    refine lv_if_ne (tgt := 27) hx hb dX11_put_14 (by decide) (fun c5 => ?_) (fun c5 => ?_)
    · have hf := nm_ie c5 hf
      refine lv_aload_n hx hb dX11_put_27 rfl (lv_at hl 0 rfl) ?_
      refine lv_bipush (v := -3) hx hb dX11_put_28 (by decide) ?_
      obtain ⟨r8, M6, hc7, hf⟩ := nm_sd2 hf
      refine nm_calli (nm_runV (X := X) (nl := nl) (k_X11_refuse hL hN (hf := hc7)) hx hb hml hown hts hs0 hK hZ hH tw_325 tw_322 tw_324 (sw_X11_refuse) tw_1 hd_X11_refuse (cl_n0 hL) (cl_k0 hL) (by decide) rfl rfl rfl ⟨Nat.le_trans (Nat.le_of_ble_eq_true rfl) hRf, Nat.le_trans (Nat.le_of_ble_eq_true rfl) hRl⟩ rfl hl.1 rfl (Nat.le_of_ble_eq_true rfl) dX11_put_30 ⟨Nat.zero_le _, Nat.zero_le _⟩) hH (fun H locs hH => ?_)
      have hH : nm_H D Y (fun q => s0 ≤ q) s.heap X nl ad (M6.1, M6.2, N, K) H locs := hH
      cases hf
      exact mk_iretA hx hb hr hlocks hQ hRc hRs (by omega) (by omega) hH hL (fun _ _ => rfl) rfl rfl dX11_put_33
    · have hf := nm_it c5 hf
      refine lv_iload_n hx hb dX11_put_17 rfl (lv_at hl 3 rfl) ?_
      refine lv_sipush (v := 4096) hx hb dX11_put_18 (by decide) ?_
      refine nm_calli (nm_runS (X := X) (nl := nl) (k_X11_outside hL hN (hf := (rfl : f_X11_outside x3 (4096 : Int32) = _))) hx hb hml hown hts hs0 hK hZ hH tw_321 tw_319 tw_320 tw_1 hd_X11_outside rfl rfl ⟨Nat.le_trans (Nat.le_of_ble_eq_true rfl) hRf, Nat.le_trans (Nat.le_of_ble_eq_true rfl) hRl⟩ rfl hl.1 rfl (Nat.le_of_ble_eq_true rfl) dX11_put_21 ⟨Nat.zero_le _, Nat.zero_le _⟩) hH (fun H locs hH => ?_)
      have hH : nm_H D Y (fun q => s0 ≤ q) s.heap X nl ad (M.1, M.2, N, K) H locs := hH
      refine lv_if_eq (tgt := 34) hx hb dX11_put_24 (by decide) (fun c9 => ?_) (fun c9 => ?_)
      · have hf := nm_it c9 hf
        refine lv_iload hx hb dX11_put_34 (lv_at hl 4 rfl) ?_
        refine lv_if_lt (tgt := 45) hx hb dX11_put_36 (by decide) (fun c10 => ?_) (fun c10 => ?_)
        · have hf := nm_it c10 hf
          refine lv_aload_n hx hb dX11_put_45 rfl (lv_at hl 0 rfl) ?_
          refine lv_bipush (v := -7) hx hb dX11_put_46 (by decide) ?_
          obtain ⟨r13, M11, hc12, hf⟩ := nm_sd2 hf
          refine nm_calli (nm_runV (X := X) (nl := nl) (k_X11_refuse hL hN (hf := hc12)) hx hb hml hown hts hs0 hK hZ hH tw_325 tw_322 tw_324 (sw_X11_refuse) tw_1 hd_X11_refuse (cl_n0 hL) (cl_k0 hL) (by decide) rfl rfl rfl ⟨Nat.le_trans (Nat.le_of_ble_eq_true rfl) hRf, Nat.le_trans (Nat.le_of_ble_eq_true rfl) hRl⟩ rfl hl.1 rfl (Nat.le_of_ble_eq_true rfl) dX11_put_48 ⟨Nat.zero_le _, Nat.zero_le _⟩) hH (fun H locs hH => ?_)
          have hH : nm_H D Y (fun q => s0 ≤ q) s.heap X nl ad (M11.1, M11.2, N, K) H locs := hH
          cases hf
          exact mk_iretA hx hb hr hlocks hQ hRc hRs (by omega) (by omega) hH hL (fun _ _ => rfl) rfl rfl dX11_put_51
        · have hf := nm_ie c10 hf
          refine lv_iload hx hb dX11_put_39 (lv_at hl 4 rfl) ?_
          refine lv_iconst (v := 3) hx hb dX11_put_41 (by decide) ?_
          refine lv_icmp_le (tgt := 52) hx hb dX11_put_42 (by decide) (fun c14 => ?_) (fun c14 => ?_)
          · have hf := nm_it c14 hf
            refine lv_aload_n hx hb dX11_put_52 rfl (lv_at hl 0 rfl) ?_
            refine gf_11_0 hK hx hb hts hown hH (cl_n0 hL) (cl_k0 hL) (hts _ tw_287) (fun _ h9 => h9) dX11_put_53 ?_
            refine lv_iload_n hx hb dX11_put_56 rfl (lv_at hl 1 rfl) ?_
            obtain ⟨hi15, hf⟩ := nm_chk hf
            obtain ⟨w16, ew16, hf⟩ := nm_let hf
            have hw16 : cl_w w16 := cl_wi ew16 hi15
            refine nm_cald hx hb hK hH (cl_n1 hL) (cl_k1 hL) (cl_l1 hN) hi15 ew16 dX11_put_57 ?_
            refine gf_1_1 hK hx hb hts hown hH (cl_nw0 hL hw16) (cl_kw0 hL hw16) (hts _ tw_265) (fun _ h9 => h9) dX11_put_58 ?_
            refine lv_bipush (v := 16) hx hb dX11_put_61 (by decide) ?_
            refine lv_icmp_lt (tgt := 73) hx hb dX11_put_63 (by decide) (fun c17 => ?_) (fun c17 => ?_)
            · have hf := nm_it c17 hf
              refine lv_aload_n hx hb dX11_put_73 rfl (lv_at hl 0 rfl) ?_
              refine lv_iload_n hx hb dX11_put_74 rfl (lv_at hl 1 rfl) ?_
              refine mk_new (ci := 6) hx hb hts inX7 tyX7 tyX7_ok hown tw_423 mw_424 tw_15 hK hs0 hH rfl (fs := [.int 0, .int 0, .int 0, .int 0, .int 0, .int 0, .int 0, .int 0, .int 0]) mk_fs0_7 (by omega) (by omega) dX11_put_75 (fun q H hH => ?_)
              refine lv_dup hx hb dX11_put_78 rfl ?_
              refine lv_iload_n hx hb dX11_put_79 rfl (lv_at hl 2 rfl) ?_
              refine lv_iload_n hx hb dX11_put_80 rfl (lv_at hl 3 rfl) ?_
              refine lv_iload hx hb dX11_put_81 (lv_at hl 4 rfl) ?_
              refine lv_iload hx hb dX11_put_83 (lv_at hl 5 rfl) ?_
              refine nm_callv (mk_runI (X := (X ++ [(q, .inr (6, [.int 0, .int 0, .int 0, .int 0, .int 0, .int 0, .int 0, .int 0, .int 0]))])) (nl := nl) (k_X7_init (D := D) (Y := Y) (s0 := s0) (X := X) (ad := ad) (nl := nl) (N := N) (K := K) (M := M) (q := q) (fs := [.int 0, .int 0, .int 0, .int 0, .int 0, .int 0, .int 0, .int 0, .int 0]) rfl hx5) hx hb hml hown hts hs0 hK hZ hH mw_427 mw_425 mw_426 tw_15 rfl hd_X7_init rfl rfl ⟨Nat.le_trans (Nat.le_of_ble_eq_true rfl) hRf, Nat.le_trans (Nat.le_of_ble_eq_true rfl) hRl⟩ rfl hl.1 rfl (Nat.le_of_ble_eq_true rfl) dX11_put_85 ⟨by omega, by omega⟩) hH (fun H locs hH => ?_)
              have hH : nm_H D Y (fun q => s0 ≤ q) s.heap (X ++ [(q, .inr (6, [.int 4, .int x2, .int x3, .int x4, .int x5, .int 0, .int 0, .int 1, .int 1]))]) nl ad (M.1, M.2, N, K) H locs := hH
              obtain ⟨r19, M20, pz21, hc18, hf⟩ := nm_sd3 hf
              have hH : nm_H D Y (fun q => s0 ≤ q) s.heap (X ++ [(q, .inr (6, mk_fs 6 (mk_i [4, x2, x3, x4, x5, 0, 0, 1, 1]) (fun _ => 0)))]) nl ad (M.1, M.2, N, K) H locs := hH
              refine mk_calli (mc := 0) (ms := 0) (nm_runV (X := (X ++ [(q, .inr (6, mk_fs 6 (mk_i [4, x2, x3, x4, x5, 0, 0, 1, 1]) (fun _ => 0)))])) (nl := nl) (k_X11_drawn hL hN (by decide) (by decide) hc18) hx hb hml hown hts hs0 hK hZ hH mw_383 mw_380 mw_382 sw_X11_drawn tw_1 hd_X11_drawn (cl_n0 hL) (cl_k0 hL) (by decide) rfl rfl rfl ⟨Nat.le_trans (Nat.le_of_ble_eq_true rfl) hRf, Nat.le_trans (Nat.le_of_ble_eq_true rfl) hRl⟩ rfl hl.1 rfl (Nat.le_of_ble_eq_true rfl) dX11_put_88 ⟨by omega, by omega⟩) hH (fun nl2 ad2 hL2 ha2 H locs hH => ?_)
              cases hf
              exact mk_iretA hx hb hr hlocks hQ hRc hRs (by omega) (by omega) hH hL2 ha2 rfl rfl dX11_put_91
            · have hf := nm_ie c17 hf
              refine lv_aload_n hx hb dX11_put_66 rfl (lv_at hl 0 rfl) ?_
              refine lv_bipush (v := -8) hx hb dX11_put_67 (by decide) ?_
              obtain ⟨r24, M22, hc23, hf⟩ := nm_sd2 hf
              refine nm_calli (nm_runV (X := X) (nl := nl) (k_X11_refuse hL hN (hf := hc23)) hx hb hml hown hts hs0 hK hZ hH tw_325 tw_322 tw_324 (sw_X11_refuse) tw_1 hd_X11_refuse (cl_n0 hL) (cl_k0 hL) (by decide) rfl rfl rfl ⟨Nat.le_trans (Nat.le_of_ble_eq_true rfl) hRf, Nat.le_trans (Nat.le_of_ble_eq_true rfl) hRl⟩ rfl hl.1 rfl (Nat.le_of_ble_eq_true rfl) dX11_put_69 ⟨Nat.zero_le _, Nat.zero_le _⟩) hH (fun H locs hH => ?_)
              have hH : nm_H D Y (fun q => s0 ≤ q) s.heap X nl ad (M22.1, M22.2, N, K) H locs := hH
              cases hf
              exact mk_iretA hx hb hr hlocks hQ hRc hRs (by omega) (by omega) hH hL (fun _ _ => rfl) rfl rfl dX11_put_72
          · have hf := nm_ie c14 hf
            refine lv_aload_n hx hb dX11_put_45 rfl (lv_at hl 0 rfl) ?_
            refine lv_bipush (v := -7) hx hb dX11_put_46 (by decide) ?_
            obtain ⟨r27, M25, hc26, hf⟩ := nm_sd2 hf
            refine nm_calli (nm_runV (X := X) (nl := nl) (k_X11_refuse hL hN (hf := hc26)) hx hb hml hown hts hs0 hK hZ hH tw_325 tw_322 tw_324 (sw_X11_refuse) tw_1 hd_X11_refuse (cl_n0 hL) (cl_k0 hL) (by decide) rfl rfl rfl ⟨Nat.le_trans (Nat.le_of_ble_eq_true rfl) hRf, Nat.le_trans (Nat.le_of_ble_eq_true rfl) hRl⟩ rfl hl.1 rfl (Nat.le_of_ble_eq_true rfl) dX11_put_48 ⟨Nat.zero_le _, Nat.zero_le _⟩) hH (fun H locs hH => ?_)
            have hH : nm_H D Y (fun q => s0 ≤ q) s.heap X nl ad (M25.1, M25.2, N, K) H locs := hH
            cases hf
            exact mk_iretA hx hb hr hlocks hQ hRc hRs (by omega) (by omega) hH hL (fun _ _ => rfl) rfl rfl dX11_put_51
      · have hf := nm_ie c9 hf
        refine lv_aload_n hx hb dX11_put_27 rfl (lv_at hl 0 rfl) ?_
        refine lv_bipush (v := -3) hx hb dX11_put_28 (by decide) ?_
        obtain ⟨r30, M28, hc29, hf⟩ := nm_sd2 hf
        refine nm_calli (nm_runV (X := X) (nl := nl) (k_X11_refuse hL hN (hf := hc29)) hx hb hml hown hts hs0 hK hZ hH tw_325 tw_322 tw_324 (sw_X11_refuse) tw_1 hd_X11_refuse (cl_n0 hL) (cl_k0 hL) (by decide) rfl rfl rfl ⟨Nat.le_trans (Nat.le_of_ble_eq_true rfl) hRf, Nat.le_trans (Nat.le_of_ble_eq_true rfl) hRl⟩ rfl hl.1 rfl (Nat.le_of_ble_eq_true rfl) dX11_put_30 ⟨Nat.zero_le _, Nat.zero_le _⟩) hH (fun H locs hH => ?_)
        have hH : nm_H D Y (fun q => s0 ≤ q) s.heap X nl ad (M28.1, M28.2, N, K) H locs := hH
        cases hf
        exact mk_iretA hx hb hr hlocks hQ hRc hRs (by omega) (by omega) hH hL (fun _ _ => rfl) rfl rfl dX11_put_33
theorem hd_X11_put : nm_hd yX11_put 5 := by decide +kernel
theorem sw_X11_put : Cond.selects yX11_put.cls yX11_put yX11_put ∈ nm_T := nm_tb 421 (by decide +kernel) (by decide +kernel)
def f_X11_box (K : Nat → Nat) (x1 : Int32) (x2 : Int32) (x3 : Int32) (x4 : Int32) (x5 : Int32) (M : cm) : Option (Int32 × cm × (Nat → Nat)) :=
(if (f_X11_outside x1 (8 : Int32)) = 0 then
(if (f_X11_outside x2 (8 : Int32)) = 0 then
(if (f_X11_outside x3 (4096 : Int32)) = 0 then
nm_l (x4 / (100 : Int32)) fun v10 =>
nm_l (x4 - x4 / (100 : Int32) * (100 : Int32)) fun v11 =>
(if v10 < (1 : Int32) then
nm_s2 (f_X11_refuse (-7 : Int32) M) fun r15 M13 =>
some (r15, M13, K)
else
(if (64 : Int32) < v10 then
nm_s2 (f_X11_refuse (-7 : Int32) M) fun r19 M17 =>
some (r19, M17, K)
else
(if v11 < (1 : Int32) then
nm_s2 (f_X11_refuse (-7 : Int32) M) fun r23 M21 =>
some (r23, M21, K)
else
(if v11 ≤ (64 : Int32) then
nm_c x1 8 (
nm_l (1000 + 100 * x1.toNatClampNeg) fun w26 =>
(if (M.1 w26 1) < (16 : Int32) then
(if x5 = 0 then
nm_l (x3 - x3 / (64 : Int32) * (64 : Int32)) fun v29 =>
nm_l (x3 / (64 : Int32)) fun v30 =>
nm_s3 (f_X11_drawn x1 (mk_i [(0 : Int32), x2, x3, (nm_max v30 0), (nm_min ((v30 + v11) - (1 : Int32)) 63), 0]) (fun _ => (f_X0_span (nm_max v29 0) (nm_min ((v29 + v10) - (1 : Int32)) 63 - nm_max v29 0 + 1))) M) fun r32 M33 pz34 =>
some (r32, M33, va_up K pz34 6)
else
nm_l (x3 - x3 / (64 : Int32) * (64 : Int32)) fun v35 =>
nm_l (x3 / (64 : Int32)) fun v36 =>
nm_s3 (f_X11_drawn x1 (mk_i [(1 : Int32), x2, x3, (nm_max v36 0), (nm_min ((v36 + v11) - (1 : Int32)) 63), 0]) (fun _ => (f_X0_span (nm_max v35 0) (nm_min ((v35 + v10) - (1 : Int32)) 63 - nm_max v35 0 + 1))) M) fun r38 M39 pz40 =>
some (r38, M39, va_up K pz40 6))
else
nm_s2 (f_X11_refuse (-8 : Int32) M) fun r43 M41 =>
some (r43, M41, K)))
else
nm_s2 (f_X11_refuse (-7 : Int32) M) fun r46 M44 =>
some (r46, M44, K)))))
else
nm_s2 (f_X11_refuse (-3 : Int32) M) fun r49 M47 =>
some (r49, M47, K))
else
nm_s2 (f_X11_refuse (-3 : Int32) M) fun r8 M6 =>
some (r8, M6, K))
else
nm_s2 (f_X11_refuse (-3 : Int32) M) fun r4 M2 =>
some (r4, M2, K))
set_option maxHeartbeats 4000000 in
set_option maxRecDepth 100000 in
theorem k_X11_box {l : Launch} {D : va_G} {Y : nm_Y} {s0 : Nat} {X : va_W} {ad : Nat → Nat} {nl : List Nat} {N K : Nat → Nat} (hL : cl_L nl K) (hN : cl_N N) {x1 : Int32} {x2 : Int32} {x3 : Int32} {x4 : Int32} {x5 : Int32} {M : cm} {r0 : Int32} {M0 : cm} {K0 : Nat → Nat} (hf : f_X11_box K x1 x2 x3 x4 x5 M = some (r0, M0, K0)) :
    nm_Met l yX11_box cX11_box 11 (some .int) { frames := 3, cells := 1, slots := 9, locals := 58 } [.ref (ad 0), .int x1, .int x2, .int x3, .int x4, .int x5] D Y s0 (nm_W Y X nl ad (M.1, M.2, N, K)) (mk_Q D Y s0 X ad r0 (M0.1, M0.2, N, K0)) 1 9 := by
  refine nm_of (by decide) (Nat.le_of_ble_eq_true rfl) ?_
  intro p e R s m args below meth c Q ls hx hb hr hlocks hml hown hts hs0 hK hZ hRf hRl hRc hRs hQ hP hD hl
  have hH : nm_H D Y (fun q => s0 ≤ q) s.heap X nl ad (M.1, M.2, N, K) s.heap [] := ⟨hP, hD, va_S.rf⟩
  have hl : lv_has ls 11 [(0, .ref (ad 0)), (1, .int x1), (2, .int x2), (3, .int x3), (4, .int x4), (5, .int x5)] := hl
  unfold f_X11_box at hf
  refine lv_iload_n hx hb dX11_box_0 rfl (lv_at hl 1 rfl) ?_
  refine lv_bipush (v := 8) hx hb dX11_box_1 (by decide) ?_
  refine nm_calli (nm_runS (X := X) (nl := nl) (k_X11_outside hL hN (hf := (rfl : f_X11_outside x1 (8 : Int32) = _))) hx hb hml hown hts hs0 hK hZ hH tw_321 tw_319 tw_320 tw_1 hd_X11_outside rfl rfl ⟨Nat.le_trans (Nat.le_of_ble_eq_true rfl) hRf, Nat.le_trans (Nat.le_of_ble_eq_true rfl) hRl⟩ rfl hl.1 rfl (Nat.le_of_ble_eq_true rfl) dX11_box_3 ⟨Nat.zero_le _, Nat.zero_le _⟩) hH (fun H locs hH => ?_)
  have hH : nm_H D Y (fun q => s0 ≤ q) s.heap X nl ad (M.1, M.2, N, K) H locs := hH
  refine lv_if_ne (tgt := 28) hx hb dX11_box_6 (by decide) (fun c1 => ?_) (fun c1 => ?_)
  · have hf := nm_ie c1 hf
    refine lv_aload_n hx hb dX11_box_28 rfl (lv_at hl 0 rfl) ?_
    refine lv_bipush (v := -3) hx hb dX11_box_29 (by decide) ?_
    obtain ⟨r4, M2, hc3, hf⟩ := nm_sd2 hf
    refine nm_calli (nm_runV (X := X) (nl := nl) (k_X11_refuse hL hN (hf := hc3)) hx hb hml hown hts hs0 hK hZ hH tw_325 tw_322 tw_324 (sw_X11_refuse) tw_1 hd_X11_refuse (cl_n0 hL) (cl_k0 hL) (by decide) rfl rfl rfl ⟨Nat.le_trans (Nat.le_of_ble_eq_true rfl) hRf, Nat.le_trans (Nat.le_of_ble_eq_true rfl) hRl⟩ rfl hl.1 rfl (Nat.le_of_ble_eq_true rfl) dX11_box_31 ⟨Nat.zero_le _, Nat.zero_le _⟩) hH (fun H locs hH => ?_)
    have hH : nm_H D Y (fun q => s0 ≤ q) s.heap X nl ad (M2.1, M2.2, N, K) H locs := hH
    cases hf
    exact mk_iretA hx hb hr hlocks hQ hRc hRs (by omega) (by omega) hH hL (fun _ _ => rfl) rfl rfl dX11_box_34
  · have hf := nm_it c1 hf
    refine lv_iload_n hx hb dX11_box_9 rfl (lv_at hl 2 rfl) ?_
    refine lv_bipush (v := 8) hx hb dX11_box_10 (by decide) ?_
    refine nm_calli (nm_runS (X := X) (nl := nl) (k_X11_outside hL hN (hf := (rfl : f_X11_outside x2 (8 : Int32) = _))) hx hb hml hown hts hs0 hK hZ hH tw_321 tw_319 tw_320 tw_1 hd_X11_outside rfl rfl ⟨Nat.le_trans (Nat.le_of_ble_eq_true rfl) hRf, Nat.le_trans (Nat.le_of_ble_eq_true rfl) hRl⟩ rfl hl.1 rfl (Nat.le_of_ble_eq_true rfl) dX11_box_12 ⟨Nat.zero_le _, Nat.zero_le _⟩) hH (fun H locs hH => ?_)
    have hH : nm_H D Y (fun q => s0 ≤ q) s.heap X nl ad (M.1, M.2, N, K) H locs := hH
    refine lv_if_ne (tgt := 28) hx hb dX11_box_15 (by decide) (fun c5 => ?_) (fun c5 => ?_)
    · have hf := nm_ie c5 hf
      refine lv_aload_n hx hb dX11_box_28 rfl (lv_at hl 0 rfl) ?_
      refine lv_bipush (v := -3) hx hb dX11_box_29 (by decide) ?_
      obtain ⟨r8, M6, hc7, hf⟩ := nm_sd2 hf
      refine nm_calli (nm_runV (X := X) (nl := nl) (k_X11_refuse hL hN (hf := hc7)) hx hb hml hown hts hs0 hK hZ hH tw_325 tw_322 tw_324 (sw_X11_refuse) tw_1 hd_X11_refuse (cl_n0 hL) (cl_k0 hL) (by decide) rfl rfl rfl ⟨Nat.le_trans (Nat.le_of_ble_eq_true rfl) hRf, Nat.le_trans (Nat.le_of_ble_eq_true rfl) hRl⟩ rfl hl.1 rfl (Nat.le_of_ble_eq_true rfl) dX11_box_31 ⟨Nat.zero_le _, Nat.zero_le _⟩) hH (fun H locs hH => ?_)
      have hH : nm_H D Y (fun q => s0 ≤ q) s.heap X nl ad (M6.1, M6.2, N, K) H locs := hH
      cases hf
      exact mk_iretA hx hb hr hlocks hQ hRc hRs (by omega) (by omega) hH hL (fun _ _ => rfl) rfl rfl dX11_box_34
    · have hf := nm_it c5 hf
      refine lv_iload_n hx hb dX11_box_18 rfl (lv_at hl 3 rfl) ?_
      refine lv_sipush (v := 4096) hx hb dX11_box_19 (by decide) ?_
      refine nm_calli (nm_runS (X := X) (nl := nl) (k_X11_outside hL hN (hf := (rfl : f_X11_outside x3 (4096 : Int32) = _))) hx hb hml hown hts hs0 hK hZ hH tw_321 tw_319 tw_320 tw_1 hd_X11_outside rfl rfl ⟨Nat.le_trans (Nat.le_of_ble_eq_true rfl) hRf, Nat.le_trans (Nat.le_of_ble_eq_true rfl) hRl⟩ rfl hl.1 rfl (Nat.le_of_ble_eq_true rfl) dX11_box_22 ⟨Nat.zero_le _, Nat.zero_le _⟩) hH (fun H locs hH => ?_)
      have hH : nm_H D Y (fun q => s0 ≤ q) s.heap X nl ad (M.1, M.2, N, K) H locs := hH
      refine lv_if_eq (tgt := 35) hx hb dX11_box_25 (by decide) (fun c9 => ?_) (fun c9 => ?_)
      · have hf := nm_it c9 hf
        refine lv_iload hx hb dX11_box_35 (lv_at hl 4 rfl) ?_
        refine lv_bipush (v := 100) hx hb dX11_box_37 (by decide) ?_
        refine lv_idiv hx hb dX11_box_39 (by decide) ?_
        obtain ⟨v10, ev10, hf⟩ := nm_let hf
        refine nm_topi ev10 ?_
        refine lv_istore (lv' := [(6, .int v10), (0, .ref (ad 0)), (1, .int x1), (2, .int x2), (3, .int x3), (4, .int x4), (5, .int x5)]) hx hb dX11_box_40 hl (by decide) rfl (fun ls hl => ?_)
        refine lv_iload hx hb dX11_box_42 (lv_at hl 5 rfl) ?_
        refine lv_bipush (v := 100) hx hb dX11_box_44 (by decide) ?_
        refine lv_irem hx hb dX11_box_46 (by decide) ?_
        obtain ⟨v11, ev11, hf⟩ := nm_let hf
        refine nm_topi ev11 ?_
        refine lv_istore (lv' := [(7, .int v11), (6, .int v10), (0, .ref (ad 0)), (1, .int x1), (2, .int x2), (3, .int x3), (4, .int x4), (5, .int x5)]) hx hb dX11_box_47 hl (by decide) rfl (fun ls hl => ?_)
        refine lv_iload hx hb dX11_box_49 (lv_at hl 1 rfl) ?_
        refine lv_iconst (v := 1) hx hb dX11_box_51 (by decide) ?_
        refine lv_icmp_lt (tgt := 75) hx hb dX11_box_52 (by decide) (fun c12 => ?_) (fun c12 => ?_)
        · have hf := nm_it c12 hf
          refine lv_aload_n hx hb dX11_box_75 rfl (lv_at hl 2 rfl) ?_
          refine lv_bipush (v := -7) hx hb dX11_box_76 (by decide) ?_
          obtain ⟨r15, M13, hc14, hf⟩ := nm_sd2 hf
          refine nm_calli (nm_runV (X := X) (nl := nl) (k_X11_refuse hL hN (hf := hc14)) hx hb hml hown hts hs0 hK hZ hH tw_325 tw_322 tw_324 (sw_X11_refuse) tw_1 hd_X11_refuse (cl_n0 hL) (cl_k0 hL) (by decide) rfl rfl rfl ⟨Nat.le_trans (Nat.le_of_ble_eq_true rfl) hRf, Nat.le_trans (Nat.le_of_ble_eq_true rfl) hRl⟩ rfl hl.1 rfl (Nat.le_of_ble_eq_true rfl) dX11_box_78 ⟨Nat.zero_le _, Nat.zero_le _⟩) hH (fun H locs hH => ?_)
          have hH : nm_H D Y (fun q => s0 ≤ q) s.heap X nl ad (M13.1, M13.2, N, K) H locs := hH
          cases hf
          exact mk_iretA hx hb hr hlocks hQ hRc hRs (by omega) (by omega) hH hL (fun _ _ => rfl) rfl rfl dX11_box_81
        · have hf := nm_ie c12 hf
          refine lv_iload hx hb dX11_box_55 (lv_at hl 1 rfl) ?_
          refine lv_bipush (v := 64) hx hb dX11_box_57 (by decide) ?_
          refine lv_icmp_gt (tgt := 75) hx hb dX11_box_59 (by decide) (fun c16 => ?_) (fun c16 => ?_)
          · have hf := nm_it c16 hf
            refine lv_aload_n hx hb dX11_box_75 rfl (lv_at hl 2 rfl) ?_
            refine lv_bipush (v := -7) hx hb dX11_box_76 (by decide) ?_
            obtain ⟨r19, M17, hc18, hf⟩ := nm_sd2 hf
            refine nm_calli (nm_runV (X := X) (nl := nl) (k_X11_refuse hL hN (hf := hc18)) hx hb hml hown hts hs0 hK hZ hH tw_325 tw_322 tw_324 (sw_X11_refuse) tw_1 hd_X11_refuse (cl_n0 hL) (cl_k0 hL) (by decide) rfl rfl rfl ⟨Nat.le_trans (Nat.le_of_ble_eq_true rfl) hRf, Nat.le_trans (Nat.le_of_ble_eq_true rfl) hRl⟩ rfl hl.1 rfl (Nat.le_of_ble_eq_true rfl) dX11_box_78 ⟨Nat.zero_le _, Nat.zero_le _⟩) hH (fun H locs hH => ?_)
            have hH : nm_H D Y (fun q => s0 ≤ q) s.heap X nl ad (M17.1, M17.2, N, K) H locs := hH
            cases hf
            exact mk_iretA hx hb hr hlocks hQ hRc hRs (by omega) (by omega) hH hL (fun _ _ => rfl) rfl rfl dX11_box_81
          · have hf := nm_ie c16 hf
            refine lv_iload hx hb dX11_box_62 (lv_at hl 0 rfl) ?_
            refine lv_iconst (v := 1) hx hb dX11_box_64 (by decide) ?_
            refine lv_icmp_lt (tgt := 75) hx hb dX11_box_65 (by decide) (fun c20 => ?_) (fun c20 => ?_)
            · have hf := nm_it c20 hf
              refine lv_aload_n hx hb dX11_box_75 rfl (lv_at hl 2 rfl) ?_
              refine lv_bipush (v := -7) hx hb dX11_box_76 (by decide) ?_
              obtain ⟨r23, M21, hc22, hf⟩ := nm_sd2 hf
              refine nm_calli (nm_runV (X := X) (nl := nl) (k_X11_refuse hL hN (hf := hc22)) hx hb hml hown hts hs0 hK hZ hH tw_325 tw_322 tw_324 (sw_X11_refuse) tw_1 hd_X11_refuse (cl_n0 hL) (cl_k0 hL) (by decide) rfl rfl rfl ⟨Nat.le_trans (Nat.le_of_ble_eq_true rfl) hRf, Nat.le_trans (Nat.le_of_ble_eq_true rfl) hRl⟩ rfl hl.1 rfl (Nat.le_of_ble_eq_true rfl) dX11_box_78 ⟨Nat.zero_le _, Nat.zero_le _⟩) hH (fun H locs hH => ?_)
              have hH : nm_H D Y (fun q => s0 ≤ q) s.heap X nl ad (M21.1, M21.2, N, K) H locs := hH
              cases hf
              exact mk_iretA hx hb hr hlocks hQ hRc hRs (by omega) (by omega) hH hL (fun _ _ => rfl) rfl rfl dX11_box_81
            · have hf := nm_ie c20 hf
              refine lv_iload hx hb dX11_box_68 (lv_at hl 0 rfl) ?_
              refine lv_bipush (v := 64) hx hb dX11_box_70 (by decide) ?_
              refine lv_icmp_le (tgt := 82) hx hb dX11_box_72 (by decide) (fun c24 => ?_) (fun c24 => ?_)
              · have hf := nm_it c24 hf
                refine lv_aload_n hx hb dX11_box_82 rfl (lv_at hl 2 rfl) ?_
                refine gf_11_0 hK hx hb hts hown hH (cl_n0 hL) (cl_k0 hL) (hts _ tw_287) (fun _ h9 => h9) dX11_box_83 ?_
                refine lv_iload_n hx hb dX11_box_86 rfl (lv_at hl 3 rfl) ?_
                obtain ⟨hi25, hf⟩ := nm_chk hf
                obtain ⟨w26, ew26, hf⟩ := nm_let hf
                have hw26 : cl_w w26 := cl_wi ew26 hi25
                refine nm_cald hx hb hK hH (cl_n1 hL) (cl_k1 hL) (cl_l1 hN) hi25 ew26 dX11_box_87 ?_
                refine gf_1_1 hK hx hb hts hown hH (cl_nw0 hL hw26) (cl_kw0 hL hw26) (hts _ tw_265) (fun _ h9 => h9) dX11_box_88 ?_
                refine lv_bipush (v := 16) hx hb dX11_box_91 (by decide) ?_
                refine lv_icmp_lt (tgt := 103) hx hb dX11_box_93 (by decide) (fun c27 => ?_) (fun c27 => ?_)
                · have hf := nm_it c27 hf
                  refine mk_new (ci := 5) hx hb hts inX6 tyX6 tyX6_ok hown mw_326 mw_327 tw_11 hK hs0 hH rfl (fs := [.int 0, .int 0, .int 0, .int 0, .int 0, .long 0]) mk_fs0_6 (by omega) (by omega) dX11_box_103 (fun q H hH => ?_)
                  refine lv_dup hx hb dX11_box_106 rfl ?_
                  refine lv_iload hx hb dX11_box_107 (lv_at hl 7 rfl) ?_
                  refine lv_if_eq (tgt := 116) hx hb dX11_box_109 (by decide) (fun c28 => ?_) (fun c28 => ?_)
                  · have hf := nm_it c28 hf
                    refine lv_iconst (v := 0) hx hb dX11_box_116 (by decide) ?_
                    refine lv_iload_n hx hb dX11_box_117 rfl (lv_at hl 4 rfl) ?_
                    refine lv_iload_n hx hb dX11_box_118 rfl (lv_at hl 5 rfl) ?_
                    refine nm_callv (mk_runI (X := (X ++ [(q, .inr (5, [.int 0, .int 0, .int 0, .int 0, .int 0, .long 0]))])) (nl := nl) (k_X6_init (D := D) (Y := Y) (s0 := s0) (X := X) (ad := ad) (nl := nl) (N := N) (K := K) (M := M) (q := q) (fs := [.int 0, .int 0, .int 0, .int 0, .int 0, .long 0]) rfl) hx hb hml hown hts hs0 hK hZ hH mw_330 mw_328 mw_329 tw_11 rfl hd_X6_init rfl rfl ⟨Nat.le_trans (Nat.le_of_ble_eq_true rfl) hRf, Nat.le_trans (Nat.le_of_ble_eq_true rfl) hRl⟩ rfl hl.1 rfl (Nat.le_of_ble_eq_true rfl) dX11_box_119 ⟨by omega, by omega⟩) hH (fun H locs hH => ?_)
                    have hH : nm_H D Y (fun q => s0 ≤ q) s.heap (X ++ [(q, .inr (5, [.int (0 : Int32), .int x2, .int x3, .int 0, .int 0, .long 0]))]) nl ad (M.1, M.2, N, K) H locs := hH
                    refine lv_astore (lv' := [(8, .ref q), (7, .int v11), (6, .int v10), (0, .ref (ad 0)), (1, .int x1), (2, .int x2), (3, .int x3), (4, .int x4), (5, .int x5)]) hx hb dX11_box_122 hl (by decide) rfl (fun ls hl => ?_)
                    refine lv_iload_n hx hb dX11_box_124 rfl (lv_at hl 6 rfl) ?_
                    refine lv_bipush (v := 64) hx hb dX11_box_125 (by decide) ?_
                    refine lv_irem hx hb dX11_box_127 (by decide) ?_
                    obtain ⟨v29, ev29, hf⟩ := nm_let hf
                    refine nm_topi ev29 ?_
                    refine lv_istore (lv' := [(9, .int v29), (8, .ref q), (7, .int v11), (6, .int v10), (0, .ref (ad 0)), (1, .int x1), (2, .int x2), (3, .int x3), (4, .int x4), (5, .int x5)]) hx hb dX11_box_128 hl (by decide) rfl (fun ls hl => ?_)
                    refine lv_iload_n hx hb dX11_box_130 rfl (lv_at hl 7 rfl) ?_
                    refine lv_bipush (v := 64) hx hb dX11_box_131 (by decide) ?_
                    refine lv_idiv hx hb dX11_box_133 (by decide) ?_
                    obtain ⟨v30, ev30, hf⟩ := nm_let hf
                    refine nm_topi ev30 ?_
                    refine lv_istore (lv' := [(10, .int v30), (9, .int v29), (8, .ref q), (7, .int v11), (6, .int v10), (0, .ref (ad 0)), (1, .int x1), (2, .int x2), (3, .int x3), (4, .int x4), (5, .int x5)]) hx hb dX11_box_134 hl (by decide) rfl (fun ls hl => ?_)
                    refine lv_aload hx hb dX11_box_136 (lv_at hl 2 rfl) ?_
                    refine lv_iload hx hb dX11_box_138 (lv_at hl 1 rfl) ?_
                    refine lv_iload hx hb dX11_box_140 (lv_at hl 0 rfl) ?_
                    refine lv_iload hx hb dX11_box_142 (lv_at hl 1 rfl) ?_
                    refine lv_iload hx hb dX11_box_144 (lv_at hl 4 rfl) ?_
                    refine lv_iadd hx hb dX11_box_146 ?_
                    refine lv_iconst (v := 1) hx hb dX11_box_147 (by decide) ?_
                    refine lv_isub hx hb dX11_box_148 ?_
                    refine lv_iload hx hb dX11_box_149 (lv_at hl 0 rfl) ?_
                    refine lv_iload hx hb dX11_box_151 (lv_at hl 3 rfl) ?_
                    refine lv_iadd hx hb dX11_box_153 ?_
                    refine lv_iconst (v := 1) hx hb dX11_box_154 (by decide) ?_
                    refine lv_isub hx hb dX11_box_155 ?_
                    refine nm_callv (mk_runV (ci := 5) (X := X) (q := q) (nl := nl) (k_X6_reach (D := D) (Y := Y) (s0 := s0) (X := X) (ad := ad) (nl := nl) (N := N) (K := K) (M := M) hL hN (q := q) (fs := [.int (0 : Int32), .int x2, .int x3, .int 0, .int 0, .long 0]) rfl) hx hb hml hown hts hs0 hK hZ hH mw_369 mw_366 mw_367 sw_X6_reach tw_11 hd_X6_reach rfl rfl rfl ⟨Nat.le_trans (Nat.le_of_ble_eq_true rfl) hRf, Nat.le_trans (Nat.le_of_ble_eq_true rfl) hRl⟩ rfl hl.1 rfl (Nat.le_of_ble_eq_true rfl) dX11_box_156 ⟨by omega, by omega⟩) hH (fun H locs hH => ?_)
                    have hH : nm_H D Y (fun q => s0 ≤ q) s.heap (X ++ [(q, .inr (5, [.int (0 : Int32), .int x2, .int x3, .int (nm_max v30 0), .int (nm_min ((v30 + v11) - (1 : Int32)) 63), .long (f_X0_span (nm_max v29 0) (nm_min ((v29 + v10) - (1 : Int32)) 63 - nm_max v29 0 + 1))]))]) nl ad (M.1, M.2, N, K) H locs := hH
                    refine lv_aload_n hx hb dX11_box_159 rfl (lv_at hl 5 rfl) ?_
                    refine lv_iload_n hx hb dX11_box_160 rfl (lv_at hl 6 rfl) ?_
                    refine lv_aload hx hb dX11_box_161 (lv_at hl 2 rfl) ?_
                    obtain ⟨r32, M33, pz34, hc31, hf⟩ := nm_sd3 hf
                    have hH : nm_H D Y (fun q => s0 ≤ q) s.heap (X ++ [(q, .inr (5, mk_fs 5 (mk_i [(0 : Int32), x2, x3, (nm_max v30 0), (nm_min ((v30 + v11) - (1 : Int32)) 63), 0]) (fun _ => (f_X0_span (nm_max v29 0) (nm_min ((v29 + v10) - (1 : Int32)) 63 - nm_max v29 0 + 1)))))]) nl ad (M.1, M.2, N, K) H locs := hH
                    refine mk_calli (mc := 0) (ms := 0) (nm_runV (X := (X ++ [(q, .inr (5, mk_fs 5 (mk_i [(0 : Int32), x2, x3, (nm_max v30 0), (nm_min ((v30 + v11) - (1 : Int32)) 63), 0]) (fun _ => (f_X0_span (nm_max v29 0) (nm_min ((v29 + v10) - (1 : Int32)) 63 - nm_max v29 0 + 1)))))])) (nl := nl) (k_X11_drawn hL hN (by decide) (by decide) hc31) hx hb hml hown hts hs0 hK hZ hH mw_383 mw_380 mw_382 sw_X11_drawn tw_1 hd_X11_drawn (cl_n0 hL) (cl_k0 hL) (by decide) rfl rfl rfl ⟨Nat.le_trans (Nat.le_of_ble_eq_true rfl) hRf, Nat.le_trans (Nat.le_of_ble_eq_true rfl) hRl⟩ rfl hl.1 rfl (Nat.le_of_ble_eq_true rfl) dX11_box_163 ⟨by omega, by omega⟩) hH (fun nl2 ad2 hL2 ha2 H locs hH => ?_)
                    cases hf
                    exact mk_iretA hx hb hr hlocks hQ hRc hRs (by omega) (by omega) hH hL2 ha2 rfl rfl dX11_box_166
                  · have hf := nm_ie c28 hf
                    refine lv_iconst (v := 1) hx hb dX11_box_112 (by decide) ?_
                    refine lv_goto (tgt := 117) hx hb dX11_box_113 (by decide) ?_
                    refine lv_iload_n hx hb dX11_box_117 rfl (lv_at hl 4 rfl) ?_
                    refine lv_iload_n hx hb dX11_box_118 rfl (lv_at hl 5 rfl) ?_
                    refine nm_callv (mk_runI (X := (X ++ [(q, .inr (5, [.int 0, .int 0, .int 0, .int 0, .int 0, .long 0]))])) (nl := nl) (k_X6_init (D := D) (Y := Y) (s0 := s0) (X := X) (ad := ad) (nl := nl) (N := N) (K := K) (M := M) (q := q) (fs := [.int 0, .int 0, .int 0, .int 0, .int 0, .long 0]) rfl) hx hb hml hown hts hs0 hK hZ hH mw_330 mw_328 mw_329 tw_11 rfl hd_X6_init rfl rfl ⟨Nat.le_trans (Nat.le_of_ble_eq_true rfl) hRf, Nat.le_trans (Nat.le_of_ble_eq_true rfl) hRl⟩ rfl hl.1 rfl (Nat.le_of_ble_eq_true rfl) dX11_box_119 ⟨by omega, by omega⟩) hH (fun H locs hH => ?_)
                    have hH : nm_H D Y (fun q => s0 ≤ q) s.heap (X ++ [(q, .inr (5, [.int (1 : Int32), .int x2, .int x3, .int 0, .int 0, .long 0]))]) nl ad (M.1, M.2, N, K) H locs := hH
                    refine lv_astore (lv' := [(8, .ref q), (7, .int v11), (6, .int v10), (0, .ref (ad 0)), (1, .int x1), (2, .int x2), (3, .int x3), (4, .int x4), (5, .int x5)]) hx hb dX11_box_122 hl (by decide) rfl (fun ls hl => ?_)
                    refine lv_iload_n hx hb dX11_box_124 rfl (lv_at hl 6 rfl) ?_
                    refine lv_bipush (v := 64) hx hb dX11_box_125 (by decide) ?_
                    refine lv_irem hx hb dX11_box_127 (by decide) ?_
                    obtain ⟨v35, ev35, hf⟩ := nm_let hf
                    refine nm_topi ev35 ?_
                    refine lv_istore (lv' := [(9, .int v35), (8, .ref q), (7, .int v11), (6, .int v10), (0, .ref (ad 0)), (1, .int x1), (2, .int x2), (3, .int x3), (4, .int x4), (5, .int x5)]) hx hb dX11_box_128 hl (by decide) rfl (fun ls hl => ?_)
                    refine lv_iload_n hx hb dX11_box_130 rfl (lv_at hl 7 rfl) ?_
                    refine lv_bipush (v := 64) hx hb dX11_box_131 (by decide) ?_
                    refine lv_idiv hx hb dX11_box_133 (by decide) ?_
                    obtain ⟨v36, ev36, hf⟩ := nm_let hf
                    refine nm_topi ev36 ?_
                    refine lv_istore (lv' := [(10, .int v36), (9, .int v35), (8, .ref q), (7, .int v11), (6, .int v10), (0, .ref (ad 0)), (1, .int x1), (2, .int x2), (3, .int x3), (4, .int x4), (5, .int x5)]) hx hb dX11_box_134 hl (by decide) rfl (fun ls hl => ?_)
                    refine lv_aload hx hb dX11_box_136 (lv_at hl 2 rfl) ?_
                    refine lv_iload hx hb dX11_box_138 (lv_at hl 1 rfl) ?_
                    refine lv_iload hx hb dX11_box_140 (lv_at hl 0 rfl) ?_
                    refine lv_iload hx hb dX11_box_142 (lv_at hl 1 rfl) ?_
                    refine lv_iload hx hb dX11_box_144 (lv_at hl 4 rfl) ?_
                    refine lv_iadd hx hb dX11_box_146 ?_
                    refine lv_iconst (v := 1) hx hb dX11_box_147 (by decide) ?_
                    refine lv_isub hx hb dX11_box_148 ?_
                    refine lv_iload hx hb dX11_box_149 (lv_at hl 0 rfl) ?_
                    refine lv_iload hx hb dX11_box_151 (lv_at hl 3 rfl) ?_
                    refine lv_iadd hx hb dX11_box_153 ?_
                    refine lv_iconst (v := 1) hx hb dX11_box_154 (by decide) ?_
                    refine lv_isub hx hb dX11_box_155 ?_
                    refine nm_callv (mk_runV (ci := 5) (X := X) (q := q) (nl := nl) (k_X6_reach (D := D) (Y := Y) (s0 := s0) (X := X) (ad := ad) (nl := nl) (N := N) (K := K) (M := M) hL hN (q := q) (fs := [.int (1 : Int32), .int x2, .int x3, .int 0, .int 0, .long 0]) rfl) hx hb hml hown hts hs0 hK hZ hH mw_369 mw_366 mw_367 sw_X6_reach tw_11 hd_X6_reach rfl rfl rfl ⟨Nat.le_trans (Nat.le_of_ble_eq_true rfl) hRf, Nat.le_trans (Nat.le_of_ble_eq_true rfl) hRl⟩ rfl hl.1 rfl (Nat.le_of_ble_eq_true rfl) dX11_box_156 ⟨by omega, by omega⟩) hH (fun H locs hH => ?_)
                    have hH : nm_H D Y (fun q => s0 ≤ q) s.heap (X ++ [(q, .inr (5, [.int (1 : Int32), .int x2, .int x3, .int (nm_max v36 0), .int (nm_min ((v36 + v11) - (1 : Int32)) 63), .long (f_X0_span (nm_max v35 0) (nm_min ((v35 + v10) - (1 : Int32)) 63 - nm_max v35 0 + 1))]))]) nl ad (M.1, M.2, N, K) H locs := hH
                    refine lv_aload_n hx hb dX11_box_159 rfl (lv_at hl 5 rfl) ?_
                    refine lv_iload_n hx hb dX11_box_160 rfl (lv_at hl 6 rfl) ?_
                    refine lv_aload hx hb dX11_box_161 (lv_at hl 2 rfl) ?_
                    obtain ⟨r38, M39, pz40, hc37, hf⟩ := nm_sd3 hf
                    have hH : nm_H D Y (fun q => s0 ≤ q) s.heap (X ++ [(q, .inr (5, mk_fs 5 (mk_i [(1 : Int32), x2, x3, (nm_max v36 0), (nm_min ((v36 + v11) - (1 : Int32)) 63), 0]) (fun _ => (f_X0_span (nm_max v35 0) (nm_min ((v35 + v10) - (1 : Int32)) 63 - nm_max v35 0 + 1)))))]) nl ad (M.1, M.2, N, K) H locs := hH
                    refine mk_calli (mc := 0) (ms := 0) (nm_runV (X := (X ++ [(q, .inr (5, mk_fs 5 (mk_i [(1 : Int32), x2, x3, (nm_max v36 0), (nm_min ((v36 + v11) - (1 : Int32)) 63), 0]) (fun _ => (f_X0_span (nm_max v35 0) (nm_min ((v35 + v10) - (1 : Int32)) 63 - nm_max v35 0 + 1)))))])) (nl := nl) (k_X11_drawn hL hN (by decide) (by decide) hc37) hx hb hml hown hts hs0 hK hZ hH mw_383 mw_380 mw_382 sw_X11_drawn tw_1 hd_X11_drawn (cl_n0 hL) (cl_k0 hL) (by decide) rfl rfl rfl ⟨Nat.le_trans (Nat.le_of_ble_eq_true rfl) hRf, Nat.le_trans (Nat.le_of_ble_eq_true rfl) hRl⟩ rfl hl.1 rfl (Nat.le_of_ble_eq_true rfl) dX11_box_163 ⟨by omega, by omega⟩) hH (fun nl2 ad2 hL2 ha2 H locs hH => ?_)
                    cases hf
                    exact mk_iretA hx hb hr hlocks hQ hRc hRs (by omega) (by omega) hH hL2 ha2 rfl rfl dX11_box_166
                · have hf := nm_ie c27 hf
                  refine lv_aload_n hx hb dX11_box_96 rfl (lv_at hl 2 rfl) ?_
                  refine lv_bipush (v := -8) hx hb dX11_box_97 (by decide) ?_
                  obtain ⟨r43, M41, hc42, hf⟩ := nm_sd2 hf
                  refine nm_calli (nm_runV (X := X) (nl := nl) (k_X11_refuse hL hN (hf := hc42)) hx hb hml hown hts hs0 hK hZ hH tw_325 tw_322 tw_324 (sw_X11_refuse) tw_1 hd_X11_refuse (cl_n0 hL) (cl_k0 hL) (by decide) rfl rfl rfl ⟨Nat.le_trans (Nat.le_of_ble_eq_true rfl) hRf, Nat.le_trans (Nat.le_of_ble_eq_true rfl) hRl⟩ rfl hl.1 rfl (Nat.le_of_ble_eq_true rfl) dX11_box_99 ⟨Nat.zero_le _, Nat.zero_le _⟩) hH (fun H locs hH => ?_)
                  have hH : nm_H D Y (fun q => s0 ≤ q) s.heap X nl ad (M41.1, M41.2, N, K) H locs := hH
                  cases hf
                  exact mk_iretA hx hb hr hlocks hQ hRc hRs (by omega) (by omega) hH hL (fun _ _ => rfl) rfl rfl dX11_box_102
              · have hf := nm_ie c24 hf
                refine lv_aload_n hx hb dX11_box_75 rfl (lv_at hl 2 rfl) ?_
                refine lv_bipush (v := -7) hx hb dX11_box_76 (by decide) ?_
                obtain ⟨r46, M44, hc45, hf⟩ := nm_sd2 hf
                refine nm_calli (nm_runV (X := X) (nl := nl) (k_X11_refuse hL hN (hf := hc45)) hx hb hml hown hts hs0 hK hZ hH tw_325 tw_322 tw_324 (sw_X11_refuse) tw_1 hd_X11_refuse (cl_n0 hL) (cl_k0 hL) (by decide) rfl rfl rfl ⟨Nat.le_trans (Nat.le_of_ble_eq_true rfl) hRf, Nat.le_trans (Nat.le_of_ble_eq_true rfl) hRl⟩ rfl hl.1 rfl (Nat.le_of_ble_eq_true rfl) dX11_box_78 ⟨Nat.zero_le _, Nat.zero_le _⟩) hH (fun H locs hH => ?_)
                have hH : nm_H D Y (fun q => s0 ≤ q) s.heap X nl ad (M44.1, M44.2, N, K) H locs := hH
                cases hf
                exact mk_iretA hx hb hr hlocks hQ hRc hRs (by omega) (by omega) hH hL (fun _ _ => rfl) rfl rfl dX11_box_81
      · have hf := nm_ie c9 hf
        refine lv_aload_n hx hb dX11_box_28 rfl (lv_at hl 0 rfl) ?_
        refine lv_bipush (v := -3) hx hb dX11_box_29 (by decide) ?_
        obtain ⟨r49, M47, hc48, hf⟩ := nm_sd2 hf
        refine nm_calli (nm_runV (X := X) (nl := nl) (k_X11_refuse hL hN (hf := hc48)) hx hb hml hown hts hs0 hK hZ hH tw_325 tw_322 tw_324 (sw_X11_refuse) tw_1 hd_X11_refuse (cl_n0 hL) (cl_k0 hL) (by decide) rfl rfl rfl ⟨Nat.le_trans (Nat.le_of_ble_eq_true rfl) hRf, Nat.le_trans (Nat.le_of_ble_eq_true rfl) hRl⟩ rfl hl.1 rfl (Nat.le_of_ble_eq_true rfl) dX11_box_31 ⟨Nat.zero_le _, Nat.zero_le _⟩) hH (fun H locs hH => ?_)
        have hH : nm_H D Y (fun q => s0 ≤ q) s.heap X nl ad (M47.1, M47.2, N, K) H locs := hH
        cases hf
        exact mk_iretA hx hb hr hlocks hQ hRc hRs (by omega) (by omega) hH hL (fun _ _ => rfl) rfl rfl dX11_box_34
theorem hd_X11_box : nm_hd yX11_box 5 := by decide +kernel
theorem sw_X11_box : Cond.selects yX11_box.cls yX11_box yX11_box ∈ nm_T := nm_tb 317 (by decide +kernel) (by decide +kernel)
def f_X11_path_J94 (K : Nat → Nat) (x1 : Int32) (x2 : Int32) (x3 : Int32) (x4 : Int32) (x5 : Int32) (t63_0 : Int32) (M : cm) : Option (Int32 × cm × (Nat → Nat)) :=
(if x5 < (1 : Int32) then
nm_s2 (f_X11_refuse (-7 : Int32) M) fun r17 M15 =>
some (r17, M15, K)
else
(if x5 ≤ (9 : Int32) then
nm_c x1 8 (
nm_l (1000 + 100 * x1.toNatClampNeg) fun w20 =>
(if (M.1 w20 1) < (16 : Int32) then
nm_l ((x5 - (1 : Int32)) / (2 : Int32)) fun v22 =>
nm_l (x5 / (2 : Int32)) fun v23 =>
nm_l (nm_min x3 x4) fun v24 =>
nm_l (nm_max x3 x4) fun v25 =>
nm_l (v24 - v24 / (64 : Int32) * (64 : Int32)) fun v26 =>
nm_l (v24 / (64 : Int32)) fun v27 =>
(if t63_0 = 0 then
nm_s3 (f_X11_drawn x1 (mk_i [(2 : Int32), x2, x3, (nm_max v27 0), (nm_min (v25 / (64 : Int32)) 63), 0]) (fun _ => (f_X0_span (nm_max (v26 - v22) 0) (nm_min (v26 + v23) 63 - nm_max (v26 - v22) 0 + 1))) M) fun r30 M31 pz32 =>
some (r30, M31, va_up K pz32 6)
else
nm_s3 (f_X11_drawn x1 (mk_i [(2 : Int32), x2, x3, (nm_max (v27 - v22) 0), (nm_min (v27 + v23) 63), 0]) (fun _ => (f_X0_span (nm_max v26 0) (nm_min (v25 - v25 / (64 : Int32) * (64 : Int32)) 63 - nm_max v26 0 + 1))) M) fun r34 M35 pz36 =>
some (r34, M35, va_up K pz36 6))
else
nm_s2 (f_X11_refuse (-8 : Int32) M) fun r39 M37 =>
some (r39, M37, K)))
else
nm_s2 (f_X11_refuse (-7 : Int32) M) fun r42 M40 =>
some (r42, M40, K)))
def f_X11_path_J82 (K : Nat → Nat) (x1 : Int32) (x2 : Int32) (x3 : Int32) (x4 : Int32) (x5 : Int32) (t63_0 : Int32) (t82_0 : Int32) (M : cm) : Option (Int32 × cm × (Nat → Nat)) :=
(if t63_0 = 0 then
(if t82_0 = 0 then
nm_s2 (f_X11_refuse (-7 : Int32) M) fun r47 M45 =>
some (r47, M45, K)
else
f_X11_path_J94 K x1 x2 x3 x4 x5 t63_0 M)
else
f_X11_path_J94 K x1 x2 x3 x4 x5 t63_0 M)
def f_X11_path_J63 (K : Nat → Nat) (x1 : Int32) (x2 : Int32) (x3 : Int32) (x4 : Int32) (x5 : Int32) (t63_0 : Int32) (M : cm) : Option (Int32 × cm × (Nat → Nat)) :=
(if (x3 - x3 / (64 : Int32) * (64 : Int32)) = (x4 - x4 / (64 : Int32) * (64 : Int32)) then
f_X11_path_J82 K x1 x2 x3 x4 x5 t63_0 (1 : Int32) M
else
f_X11_path_J82 K x1 x2 x3 x4 x5 t63_0 (0 : Int32) M)
def f_X11_path (K : Nat → Nat) (x1 : Int32) (x2 : Int32) (x3 : Int32) (x4 : Int32) (x5 : Int32) (M : cm) : Option (Int32 × cm × (Nat → Nat)) :=
(if (f_X11_outside x1 (8 : Int32)) = 0 then
(if (f_X11_outside x2 (8 : Int32)) = 0 then
(if (f_X11_outside x3 (4096 : Int32)) = 0 then
(if (f_X11_outside x4 (4096 : Int32)) = 0 then
(if (x3 / (64 : Int32)) = (x4 / (64 : Int32)) then
f_X11_path_J63 K x1 x2 x3 x4 x5 (1 : Int32) M
else
f_X11_path_J63 K x1 x2 x3 x4 x5 (0 : Int32) M)
else
nm_s2 (f_X11_refuse (-3 : Int32) M) fun r52 M50 =>
some (r52, M50, K))
else
nm_s2 (f_X11_refuse (-3 : Int32) M) fun r12 M10 =>
some (r12, M10, K))
else
nm_s2 (f_X11_refuse (-3 : Int32) M) fun r8 M6 =>
some (r8, M6, K))
else
nm_s2 (f_X11_refuse (-3 : Int32) M) fun r4 M2 =>
some (r4, M2, K))
set_option maxHeartbeats 4000000 in
set_option maxRecDepth 100000 in
theorem k_X11_path {l : Launch} {D : va_G} {Y : nm_Y} {s0 : Nat} {X : va_W} {ad : Nat → Nat} {nl : List Nat} {N K : Nat → Nat} (hL : cl_L nl K) (hN : cl_N N) {x1 : Int32} {x2 : Int32} {x3 : Int32} {x4 : Int32} {x5 : Int32} {M : cm} {r0 : Int32} {M0 : cm} {K0 : Nat → Nat} (hf : f_X11_path K x1 x2 x3 x4 x5 M = some (r0, M0, K0)) :
    nm_Met l yX11_path cX11_path 15 (some .int) { frames := 3, cells := 1, slots := 9, locals := 58 } [.ref (ad 0), .int x1, .int x2, .int x3, .int x4, .int x5] D Y s0 (nm_W Y X nl ad (M.1, M.2, N, K)) (mk_Q D Y s0 X ad r0 (M0.1, M0.2, N, K0)) 1 9 := by
  refine nm_of (by decide) (Nat.le_of_ble_eq_true rfl) ?_
  intro p e R s m args below meth c Q ls hx hb hr hlocks hml hown hts hs0 hK hZ hRf hRl hRc hRs hQ hP hD hl
  have hH : nm_H D Y (fun q => s0 ≤ q) s.heap X nl ad (M.1, M.2, N, K) s.heap [] := ⟨hP, hD, va_S.rf⟩
  have hl : lv_has ls 15 [(0, .ref (ad 0)), (1, .int x1), (2, .int x2), (3, .int x3), (4, .int x4), (5, .int x5)] := hl
  unfold f_X11_path at hf
  refine lv_iload_n hx hb dX11_path_0 rfl (lv_at hl 1 rfl) ?_
  refine lv_bipush (v := 8) hx hb dX11_path_1 (by decide) ?_
  refine nm_calli (nm_runS (X := X) (nl := nl) (k_X11_outside hL hN (hf := (rfl : f_X11_outside x1 (8 : Int32) = _))) hx hb hml hown hts hs0 hK hZ hH tw_321 tw_319 tw_320 tw_1 hd_X11_outside rfl rfl ⟨Nat.le_trans (Nat.le_of_ble_eq_true rfl) hRf, Nat.le_trans (Nat.le_of_ble_eq_true rfl) hRl⟩ rfl hl.1 rfl (Nat.le_of_ble_eq_true rfl) dX11_path_3 ⟨Nat.zero_le _, Nat.zero_le _⟩) hH (fun H locs hH => ?_)
  have hH : nm_H D Y (fun q => s0 ≤ q) s.heap X nl ad (M.1, M.2, N, K) H locs := hH
  refine lv_if_ne (tgt := 39) hx hb dX11_path_6 (by decide) (fun c1 => ?_) (fun c1 => ?_)
  · have hf := nm_ie c1 hf
    refine lv_aload_n hx hb dX11_path_39 rfl (lv_at hl 0 rfl) ?_
    refine lv_bipush (v := -3) hx hb dX11_path_40 (by decide) ?_
    obtain ⟨r4, M2, hc3, hf⟩ := nm_sd2 hf
    refine nm_calli (nm_runV (X := X) (nl := nl) (k_X11_refuse hL hN (hf := hc3)) hx hb hml hown hts hs0 hK hZ hH tw_325 tw_322 tw_324 (sw_X11_refuse) tw_1 hd_X11_refuse (cl_n0 hL) (cl_k0 hL) (by decide) rfl rfl rfl ⟨Nat.le_trans (Nat.le_of_ble_eq_true rfl) hRf, Nat.le_trans (Nat.le_of_ble_eq_true rfl) hRl⟩ rfl hl.1 rfl (Nat.le_of_ble_eq_true rfl) dX11_path_42 ⟨Nat.zero_le _, Nat.zero_le _⟩) hH (fun H locs hH => ?_)
    have hH : nm_H D Y (fun q => s0 ≤ q) s.heap X nl ad (M2.1, M2.2, N, K) H locs := hH
    cases hf
    exact mk_iretA hx hb hr hlocks hQ hRc hRs (by omega) (by omega) hH hL (fun _ _ => rfl) rfl rfl dX11_path_45
  · have hf := nm_it c1 hf
    refine lv_iload_n hx hb dX11_path_9 rfl (lv_at hl 2 rfl) ?_
    refine lv_bipush (v := 8) hx hb dX11_path_10 (by decide) ?_
    refine nm_calli (nm_runS (X := X) (nl := nl) (k_X11_outside hL hN (hf := (rfl : f_X11_outside x2 (8 : Int32) = _))) hx hb hml hown hts hs0 hK hZ hH tw_321 tw_319 tw_320 tw_1 hd_X11_outside rfl rfl ⟨Nat.le_trans (Nat.le_of_ble_eq_true rfl) hRf, Nat.le_trans (Nat.le_of_ble_eq_true rfl) hRl⟩ rfl hl.1 rfl (Nat.le_of_ble_eq_true rfl) dX11_path_12 ⟨Nat.zero_le _, Nat.zero_le _⟩) hH (fun H locs hH => ?_)
    have hH : nm_H D Y (fun q => s0 ≤ q) s.heap X nl ad (M.1, M.2, N, K) H locs := hH
    refine lv_if_ne (tgt := 39) hx hb dX11_path_15 (by decide) (fun c5 => ?_) (fun c5 => ?_)
    · have hf := nm_ie c5 hf
      refine lv_aload_n hx hb dX11_path_39 rfl (lv_at hl 0 rfl) ?_
      refine lv_bipush (v := -3) hx hb dX11_path_40 (by decide) ?_
      obtain ⟨r8, M6, hc7, hf⟩ := nm_sd2 hf
      refine nm_calli (nm_runV (X := X) (nl := nl) (k_X11_refuse hL hN (hf := hc7)) hx hb hml hown hts hs0 hK hZ hH tw_325 tw_322 tw_324 (sw_X11_refuse) tw_1 hd_X11_refuse (cl_n0 hL) (cl_k0 hL) (by decide) rfl rfl rfl ⟨Nat.le_trans (Nat.le_of_ble_eq_true rfl) hRf, Nat.le_trans (Nat.le_of_ble_eq_true rfl) hRl⟩ rfl hl.1 rfl (Nat.le_of_ble_eq_true rfl) dX11_path_42 ⟨Nat.zero_le _, Nat.zero_le _⟩) hH (fun H locs hH => ?_)
      have hH : nm_H D Y (fun q => s0 ≤ q) s.heap X nl ad (M6.1, M6.2, N, K) H locs := hH
      cases hf
      exact mk_iretA hx hb hr hlocks hQ hRc hRs (by omega) (by omega) hH hL (fun _ _ => rfl) rfl rfl dX11_path_45
    · have hf := nm_it c5 hf
      refine lv_iload_n hx hb dX11_path_18 rfl (lv_at hl 3 rfl) ?_
      refine lv_sipush (v := 4096) hx hb dX11_path_19 (by decide) ?_
      refine nm_calli (nm_runS (X := X) (nl := nl) (k_X11_outside hL hN (hf := (rfl : f_X11_outside x3 (4096 : Int32) = _))) hx hb hml hown hts hs0 hK hZ hH tw_321 tw_319 tw_320 tw_1 hd_X11_outside rfl rfl ⟨Nat.le_trans (Nat.le_of_ble_eq_true rfl) hRf, Nat.le_trans (Nat.le_of_ble_eq_true rfl) hRl⟩ rfl hl.1 rfl (Nat.le_of_ble_eq_true rfl) dX11_path_22 ⟨Nat.zero_le _, Nat.zero_le _⟩) hH (fun H locs hH => ?_)
      have hH : nm_H D Y (fun q => s0 ≤ q) s.heap X nl ad (M.1, M.2, N, K) H locs := hH
      refine lv_if_ne (tgt := 39) hx hb dX11_path_25 (by decide) (fun c9 => ?_) (fun c9 => ?_)
      · have hf := nm_ie c9 hf
        refine lv_aload_n hx hb dX11_path_39 rfl (lv_at hl 0 rfl) ?_
        refine lv_bipush (v := -3) hx hb dX11_path_40 (by decide) ?_
        obtain ⟨r12, M10, hc11, hf⟩ := nm_sd2 hf
        refine nm_calli (nm_runV (X := X) (nl := nl) (k_X11_refuse hL hN (hf := hc11)) hx hb hml hown hts hs0 hK hZ hH tw_325 tw_322 tw_324 (sw_X11_refuse) tw_1 hd_X11_refuse (cl_n0 hL) (cl_k0 hL) (by decide) rfl rfl rfl ⟨Nat.le_trans (Nat.le_of_ble_eq_true rfl) hRf, Nat.le_trans (Nat.le_of_ble_eq_true rfl) hRl⟩ rfl hl.1 rfl (Nat.le_of_ble_eq_true rfl) dX11_path_42 ⟨Nat.zero_le _, Nat.zero_le _⟩) hH (fun H locs hH => ?_)
        have hH : nm_H D Y (fun q => s0 ≤ q) s.heap X nl ad (M10.1, M10.2, N, K) H locs := hH
        cases hf
        exact mk_iretA hx hb hr hlocks hQ hRc hRs (by omega) (by omega) hH hL (fun _ _ => rfl) rfl rfl dX11_path_45
      · have hf := nm_it c9 hf
        refine lv_iload hx hb dX11_path_28 (lv_at hl 4 rfl) ?_
        refine lv_sipush (v := 4096) hx hb dX11_path_30 (by decide) ?_
        refine nm_calli (nm_runS (X := X) (nl := nl) (k_X11_outside hL hN (hf := (rfl : f_X11_outside x4 (4096 : Int32) = _))) hx hb hml hown hts hs0 hK hZ hH tw_321 tw_319 tw_320 tw_1 hd_X11_outside rfl rfl ⟨Nat.le_trans (Nat.le_of_ble_eq_true rfl) hRf, Nat.le_trans (Nat.le_of_ble_eq_true rfl) hRl⟩ rfl hl.1 rfl (Nat.le_of_ble_eq_true rfl) dX11_path_33 ⟨Nat.zero_le _, Nat.zero_le _⟩) hH (fun H locs hH => ?_)
        have hH : nm_H D Y (fun q => s0 ≤ q) s.heap X nl ad (M.1, M.2, N, K) H locs := hH
        refine lv_if_eq (tgt := 46) hx hb dX11_path_36 (by decide) (fun c13 => ?_) (fun c13 => ?_)
        · have hf := nm_it c13 hf
          refine lv_iload_n hx hb dX11_path_46 rfl (lv_at hl 3 rfl) ?_
          refine lv_bipush (v := 64) hx hb dX11_path_47 (by decide) ?_
          refine lv_idiv hx hb dX11_path_49 (by decide) ?_
          refine lv_iload hx hb dX11_path_50 (lv_at hl 4 rfl) ?_
          refine lv_bipush (v := 64) hx hb dX11_path_52 (by decide) ?_
          refine lv_idiv hx hb dX11_path_54 (by decide) ?_
          have hJ63 : ∀ (t63_0 : Int32) (H : Heap) (locs : List Loc) (ls : Array Slot), nm_H D Y (fun q => s0 ≤ q) s.heap X nl ad (M.1, M.2, N, K) H locs → lv_has ls 15 [(0, .ref (ad 0)), (1, .int x1), (2, .int x2), (3, .int x3), (4, .int x4), (5, .int x5)] → f_X11_path_J63 K x1 x2 x3 x4 x5 t63_0 M = some (r0, M0, K0) → W p l e R s m args below meth c H locs 0 0 Q (F0 m 63 ls [.int t63_0]) := by
            intro t63_0 H locs ls hH hl hf
            unfold f_X11_path_J63 at hf
            refine lv_istore (lv' := [(6, .int t63_0), (0, .ref (ad 0)), (1, .int x1), (2, .int x2), (3, .int x3), (4, .int x4), (5, .int x5)]) hx hb dX11_path_63 hl (by decide) rfl (fun ls hl => ?_)
            refine lv_iload_n hx hb dX11_path_65 rfl (lv_at hl 4 rfl) ?_
            refine lv_bipush (v := 64) hx hb dX11_path_66 (by decide) ?_
            refine lv_irem hx hb dX11_path_68 (by decide) ?_
            refine lv_iload hx hb dX11_path_69 (lv_at hl 5 rfl) ?_
            refine lv_bipush (v := 64) hx hb dX11_path_71 (by decide) ?_
            refine lv_irem hx hb dX11_path_73 (by decide) ?_
            have hJ82 : ∀ (t82_0 : Int32) (H : Heap) (locs : List Loc) (ls : Array Slot), nm_H D Y (fun q => s0 ≤ q) s.heap X nl ad (M.1, M.2, N, K) H locs → lv_has ls 15 [(0, .ref (ad 0)), (1, .int x1), (2, .int x2), (3, .int x3), (4, .int x4), (5, .int x5), (6, .int t63_0)] → f_X11_path_J82 K x1 x2 x3 x4 x5 t63_0 t82_0 M = some (r0, M0, K0) → W p l e R s m args below meth c H locs 0 0 Q (F0 m 82 ls [.int t82_0]) := by
              intro t82_0 H locs ls hH hl hf
              unfold f_X11_path_J82 at hf
              refine lv_istore (lv' := [(7, .int t82_0), (0, .ref (ad 0)), (1, .int x1), (2, .int x2), (3, .int x3), (4, .int x4), (5, .int x5), (6, .int t63_0)]) hx hb dX11_path_82 hl (by decide) rfl (fun ls hl => ?_)
              refine lv_iload hx hb dX11_path_84 (lv_at hl 7 rfl) ?_
              have hJ94 : ∀  (H : Heap) (locs : List Loc) (ls : Array Slot), nm_H D Y (fun q => s0 ≤ q) s.heap X nl ad (M.1, M.2, N, K) H locs → lv_has ls 15 [(0, .ref (ad 0)), (1, .int x1), (2, .int x2), (3, .int x3), (4, .int x4), (5, .int x5), (6, .int t63_0)] → f_X11_path_J94 K x1 x2 x3 x4 x5 t63_0 M = some (r0, M0, K0) → W p l e R s m args below meth c H locs 0 0 Q (F0 m 94 ls []) := by
                intro  H locs ls hH hl hf
                unfold f_X11_path_J94 at hf
                refine lv_iload hx hb dX11_path_94 (lv_at hl 5 rfl) ?_
                refine lv_iconst (v := 1) hx hb dX11_path_96 (by decide) ?_
                refine lv_icmp_lt (tgt := 107) hx hb dX11_path_97 (by decide) (fun c14 => ?_) (fun c14 => ?_)
                · have hf := nm_it c14 hf
                  refine lv_aload_n hx hb dX11_path_107 rfl (lv_at hl 0 rfl) ?_
                  refine lv_bipush (v := -7) hx hb dX11_path_108 (by decide) ?_
                  obtain ⟨r17, M15, hc16, hf⟩ := nm_sd2 hf
                  refine nm_calli (nm_runV (X := X) (nl := nl) (k_X11_refuse hL hN (hf := hc16)) hx hb hml hown hts hs0 hK hZ hH tw_325 tw_322 tw_324 (sw_X11_refuse) tw_1 hd_X11_refuse (cl_n0 hL) (cl_k0 hL) (by decide) rfl rfl rfl ⟨Nat.le_trans (Nat.le_of_ble_eq_true rfl) hRf, Nat.le_trans (Nat.le_of_ble_eq_true rfl) hRl⟩ rfl hl.1 rfl (Nat.le_of_ble_eq_true rfl) dX11_path_110 ⟨Nat.zero_le _, Nat.zero_le _⟩) hH (fun H locs hH => ?_)
                  have hH : nm_H D Y (fun q => s0 ≤ q) s.heap X nl ad (M15.1, M15.2, N, K) H locs := hH
                  cases hf
                  exact mk_iretA hx hb hr hlocks hQ hRc hRs (by omega) (by omega) hH hL (fun _ _ => rfl) rfl rfl dX11_path_113
                · have hf := nm_ie c14 hf
                  refine lv_iload hx hb dX11_path_100 (lv_at hl 5 rfl) ?_
                  refine lv_bipush (v := 9) hx hb dX11_path_102 (by decide) ?_
                  refine lv_icmp_le (tgt := 114) hx hb dX11_path_104 (by decide) (fun c18 => ?_) (fun c18 => ?_)
                  · have hf := nm_it c18 hf
                    refine lv_aload_n hx hb dX11_path_114 rfl (lv_at hl 0 rfl) ?_
                    refine gf_11_0 hK hx hb hts hown hH (cl_n0 hL) (cl_k0 hL) (hts _ tw_287) (fun _ h9 => h9) dX11_path_115 ?_
                    refine lv_iload_n hx hb dX11_path_118 rfl (lv_at hl 1 rfl) ?_
                    obtain ⟨hi19, hf⟩ := nm_chk hf
                    obtain ⟨w20, ew20, hf⟩ := nm_let hf
                    have hw20 : cl_w w20 := cl_wi ew20 hi19
                    refine nm_cald hx hb hK hH (cl_n1 hL) (cl_k1 hL) (cl_l1 hN) hi19 ew20 dX11_path_119 ?_
                    refine gf_1_1 hK hx hb hts hown hH (cl_nw0 hL hw20) (cl_kw0 hL hw20) (hts _ tw_265) (fun _ h9 => h9) dX11_path_120 ?_
                    refine lv_bipush (v := 16) hx hb dX11_path_123 (by decide) ?_
                    refine lv_icmp_lt (tgt := 135) hx hb dX11_path_125 (by decide) (fun c21 => ?_) (fun c21 => ?_)
                    · have hf := nm_it c21 hf
                      refine lv_iload hx hb dX11_path_135 (lv_at hl 5 rfl) ?_
                      refine lv_iconst (v := 1) hx hb dX11_path_137 (by decide) ?_
                      refine lv_isub hx hb dX11_path_138 ?_
                      refine lv_iconst (v := 2) hx hb dX11_path_139 (by decide) ?_
                      refine lv_idiv hx hb dX11_path_140 (by decide) ?_
                      obtain ⟨v22, ev22, hf⟩ := nm_let hf
                      refine nm_topi ev22 ?_
                      refine lv_istore (lv' := [(8, .int v22), (0, .ref (ad 0)), (1, .int x1), (2, .int x2), (3, .int x3), (4, .int x4), (5, .int x5), (6, .int t63_0)]) hx hb dX11_path_141 hl (by decide) rfl (fun ls hl => ?_)
                      refine lv_iload hx hb dX11_path_143 (lv_at hl 6 rfl) ?_
                      refine lv_iconst (v := 2) hx hb dX11_path_145 (by decide) ?_
                      refine lv_idiv hx hb dX11_path_146 (by decide) ?_
                      obtain ⟨v23, ev23, hf⟩ := nm_let hf
                      refine nm_topi ev23 ?_
                      refine lv_istore (lv' := [(9, .int v23), (8, .int v22), (0, .ref (ad 0)), (1, .int x1), (2, .int x2), (3, .int x3), (4, .int x4), (5, .int x5), (6, .int t63_0)]) hx hb dX11_path_147 hl (by decide) rfl (fun ls hl => ?_)
                      refine lv_iload_n hx hb dX11_path_149 rfl (lv_at hl 5 rfl) ?_
                      refine lv_iload hx hb dX11_path_150 (lv_at hl 6 rfl) ?_
                      refine nm_mmin hx hb (hml.trans hl.1.symm) hown hts tw_396 (Nat.le_trans (Nat.le_of_ble_eq_true rfl) hRf) (Nat.le_trans (Nat.le_of_ble_eq_true rfl) hRl) (Nat.zero_le _) (Nat.zero_le _) dX11_path_152 ?_
                      obtain ⟨v24, ev24, hf⟩ := nm_let hf
                      refine nm_topi ev24 ?_
                      refine lv_istore (lv' := [(10, .int v24), (9, .int v23), (8, .int v22), (0, .ref (ad 0)), (1, .int x1), (2, .int x2), (3, .int x3), (4, .int x4), (5, .int x5), (6, .int t63_0)]) hx hb dX11_path_155 hl (by decide) rfl (fun ls hl => ?_)
                      refine lv_iload_n hx hb dX11_path_157 rfl (lv_at hl 6 rfl) ?_
                      refine lv_iload hx hb dX11_path_158 (lv_at hl 7 rfl) ?_
                      refine nm_mmax hx hb (hml.trans hl.1.symm) hown hts mw_397 (Nat.le_trans (Nat.le_of_ble_eq_true rfl) hRf) (Nat.le_trans (Nat.le_of_ble_eq_true rfl) hRl) (Nat.zero_le _) (Nat.zero_le _) dX11_path_160 ?_
                      obtain ⟨v25, ev25, hf⟩ := nm_let hf
                      refine nm_topi ev25 ?_
                      refine lv_istore (lv' := [(11, .int v25), (10, .int v24), (9, .int v23), (8, .int v22), (0, .ref (ad 0)), (1, .int x1), (2, .int x2), (3, .int x3), (4, .int x4), (5, .int x5), (6, .int t63_0)]) hx hb dX11_path_163 hl (by decide) rfl (fun ls hl => ?_)
                      refine lv_iload hx hb dX11_path_165 (lv_at hl 1 rfl) ?_
                      refine lv_bipush (v := 64) hx hb dX11_path_167 (by decide) ?_
                      refine lv_irem hx hb dX11_path_169 (by decide) ?_
                      obtain ⟨v26, ev26, hf⟩ := nm_let hf
                      refine nm_topi ev26 ?_
                      refine lv_istore (lv' := [(12, .int v26), (11, .int v25), (10, .int v24), (9, .int v23), (8, .int v22), (0, .ref (ad 0)), (1, .int x1), (2, .int x2), (3, .int x3), (4, .int x4), (5, .int x5), (6, .int t63_0)]) hx hb dX11_path_170 hl (by decide) rfl (fun ls hl => ?_)
                      refine lv_iload hx hb dX11_path_172 (lv_at hl 2 rfl) ?_
                      refine lv_bipush (v := 64) hx hb dX11_path_174 (by decide) ?_
                      refine lv_idiv hx hb dX11_path_176 (by decide) ?_
                      obtain ⟨v27, ev27, hf⟩ := nm_let hf
                      refine nm_topi ev27 ?_
                      refine lv_istore (lv' := [(13, .int v27), (12, .int v26), (11, .int v25), (10, .int v24), (9, .int v23), (8, .int v22), (0, .ref (ad 0)), (1, .int x1), (2, .int x2), (3, .int x3), (4, .int x4), (5, .int x5), (6, .int t63_0)]) hx hb dX11_path_177 hl (by decide) rfl (fun ls hl => ?_)
                      refine mk_new (ci := 5) hx hb hts inX6 tyX6 tyX6_ok hown mw_326 mw_327 tw_11 hK hs0 hH rfl (fs := [.int 0, .int 0, .int 0, .int 0, .int 0, .long 0]) mk_fs0_6 (by omega) (by omega) dX11_path_179 (fun q H hH => ?_)
                      refine lv_dup hx hb dX11_path_182 rfl ?_
                      refine lv_iconst (v := 2) hx hb dX11_path_183 (by decide) ?_
                      refine lv_iload_n hx hb dX11_path_184 rfl (lv_at hl 8 rfl) ?_
                      refine lv_iload_n hx hb dX11_path_185 rfl (lv_at hl 9 rfl) ?_
                      refine nm_callv (mk_runI (X := (X ++ [(q, .inr (5, [.int 0, .int 0, .int 0, .int 0, .int 0, .long 0]))])) (nl := nl) (k_X6_init (D := D) (Y := Y) (s0 := s0) (X := X) (ad := ad) (nl := nl) (N := N) (K := K) (M := M) (q := q) (fs := [.int 0, .int 0, .int 0, .int 0, .int 0, .long 0]) rfl) hx hb hml hown hts hs0 hK hZ hH mw_330 mw_328 mw_329 tw_11 rfl hd_X6_init rfl rfl ⟨Nat.le_trans (Nat.le_of_ble_eq_true rfl) hRf, Nat.le_trans (Nat.le_of_ble_eq_true rfl) hRl⟩ rfl hl.1 rfl (Nat.le_of_ble_eq_true rfl) dX11_path_186 ⟨by omega, by omega⟩) hH (fun H locs hH => ?_)
                      have hH : nm_H D Y (fun q => s0 ≤ q) s.heap (X ++ [(q, .inr (5, [.int (2 : Int32), .int x2, .int x3, .int 0, .int 0, .long 0]))]) nl ad (M.1, M.2, N, K) H locs := hH
                      refine lv_astore (lv' := [(14, .ref q), (13, .int v27), (12, .int v26), (11, .int v25), (10, .int v24), (9, .int v23), (8, .int v22), (0, .ref (ad 0)), (1, .int x1), (2, .int x2), (3, .int x3), (4, .int x4), (5, .int x5), (6, .int t63_0)]) hx hb dX11_path_189 hl (by decide) rfl (fun ls hl => ?_)
                      refine lv_iload hx hb dX11_path_191 (lv_at hl 13 rfl) ?_
                      refine lv_if_eq (tgt := 221) hx hb dX11_path_193 (by decide) (fun c28 => ?_) (fun c28 => ?_)
                      · have hf := nm_it c28 hf
                        refine lv_aload hx hb dX11_path_221 (lv_at hl 0 rfl) ?_
                        refine lv_iload hx hb dX11_path_223 (lv_at hl 2 rfl) ?_
                        refine lv_iload hx hb dX11_path_225 (lv_at hl 6 rfl) ?_
                        refine lv_isub hx hb dX11_path_227 ?_
                        refine lv_iload hx hb dX11_path_228 (lv_at hl 1 rfl) ?_
                        refine lv_iload hx hb dX11_path_230 (lv_at hl 2 rfl) ?_
                        refine lv_iload hx hb dX11_path_232 (lv_at hl 5 rfl) ?_
                        refine lv_iadd hx hb dX11_path_234 ?_
                        refine lv_iload hx hb dX11_path_235 (lv_at hl 3 rfl) ?_
                        refine lv_bipush (v := 64) hx hb dX11_path_237 (by decide) ?_
                        refine lv_idiv hx hb dX11_path_239 (by decide) ?_
                        refine nm_callv (mk_runV (ci := 5) (X := X) (q := q) (nl := nl) (k_X6_reach (D := D) (Y := Y) (s0 := s0) (X := X) (ad := ad) (nl := nl) (N := N) (K := K) (M := M) hL hN (q := q) (fs := [.int (2 : Int32), .int x2, .int x3, .int 0, .int 0, .long 0]) rfl) hx hb hml hown hts hs0 hK hZ hH mw_369 mw_366 mw_367 sw_X6_reach tw_11 hd_X6_reach rfl rfl rfl ⟨Nat.le_trans (Nat.le_of_ble_eq_true rfl) hRf, Nat.le_trans (Nat.le_of_ble_eq_true rfl) hRl⟩ rfl hl.1 rfl (Nat.le_of_ble_eq_true rfl) dX11_path_240 ⟨by omega, by omega⟩) hH (fun H locs hH => ?_)
                        have hH : nm_H D Y (fun q => s0 ≤ q) s.heap (X ++ [(q, .inr (5, [.int (2 : Int32), .int x2, .int x3, .int (nm_max v27 0), .int (nm_min (v25 / (64 : Int32)) 63), .long (f_X0_span (nm_max (v26 - v22) 0) (nm_min (v26 + v23) 63 - nm_max (v26 - v22) 0 + 1))]))]) nl ad (M.1, M.2, N, K) H locs := hH
                        refine lv_aload_n hx hb dX11_path_243 rfl (lv_at hl 7 rfl) ?_
                        refine lv_iload_n hx hb dX11_path_244 rfl (lv_at hl 8 rfl) ?_
                        refine lv_aload hx hb dX11_path_245 (lv_at hl 0 rfl) ?_
                        obtain ⟨r30, M31, pz32, hc29, hf⟩ := nm_sd3 hf
                        have hH : nm_H D Y (fun q => s0 ≤ q) s.heap (X ++ [(q, .inr (5, mk_fs 5 (mk_i [(2 : Int32), x2, x3, (nm_max v27 0), (nm_min (v25 / (64 : Int32)) 63), 0]) (fun _ => (f_X0_span (nm_max (v26 - v22) 0) (nm_min (v26 + v23) 63 - nm_max (v26 - v22) 0 + 1)))))]) nl ad (M.1, M.2, N, K) H locs := hH
                        refine mk_calli (mc := 0) (ms := 0) (nm_runV (X := (X ++ [(q, .inr (5, mk_fs 5 (mk_i [(2 : Int32), x2, x3, (nm_max v27 0), (nm_min (v25 / (64 : Int32)) 63), 0]) (fun _ => (f_X0_span (nm_max (v26 - v22) 0) (nm_min (v26 + v23) 63 - nm_max (v26 - v22) 0 + 1)))))])) (nl := nl) (k_X11_drawn hL hN (by decide) (by decide) hc29) hx hb hml hown hts hs0 hK hZ hH mw_383 mw_380 mw_382 sw_X11_drawn tw_1 hd_X11_drawn (cl_n0 hL) (cl_k0 hL) (by decide) rfl rfl rfl ⟨Nat.le_trans (Nat.le_of_ble_eq_true rfl) hRf, Nat.le_trans (Nat.le_of_ble_eq_true rfl) hRl⟩ rfl hl.1 rfl (Nat.le_of_ble_eq_true rfl) dX11_path_247 ⟨by omega, by omega⟩) hH (fun nl2 ad2 hL2 ha2 H locs hH => ?_)
                        cases hf
                        exact mk_iretA hx hb hr hlocks hQ hRc hRs (by omega) (by omega) hH hL2 ha2 rfl rfl dX11_path_250
                      · have hf := nm_ie c28 hf
                        refine lv_aload hx hb dX11_path_196 (lv_at hl 0 rfl) ?_
                        refine lv_iload hx hb dX11_path_198 (lv_at hl 2 rfl) ?_
                        refine lv_iload hx hb dX11_path_200 (lv_at hl 1 rfl) ?_
                        refine lv_iload hx hb dX11_path_202 (lv_at hl 6 rfl) ?_
                        refine lv_isub hx hb dX11_path_204 ?_
                        refine lv_iload hx hb dX11_path_205 (lv_at hl 3 rfl) ?_
                        refine lv_bipush (v := 64) hx hb dX11_path_207 (by decide) ?_
                        refine lv_irem hx hb dX11_path_209 (by decide) ?_
                        refine lv_iload hx hb dX11_path_210 (lv_at hl 1 rfl) ?_
                        refine lv_iload hx hb dX11_path_212 (lv_at hl 5 rfl) ?_
                        refine lv_iadd hx hb dX11_path_214 ?_
                        refine nm_callv (mk_runV (ci := 5) (X := X) (q := q) (nl := nl) (k_X6_reach (D := D) (Y := Y) (s0 := s0) (X := X) (ad := ad) (nl := nl) (N := N) (K := K) (M := M) hL hN (q := q) (fs := [.int (2 : Int32), .int x2, .int x3, .int 0, .int 0, .long 0]) rfl) hx hb hml hown hts hs0 hK hZ hH mw_369 mw_366 mw_367 sw_X6_reach tw_11 hd_X6_reach rfl rfl rfl ⟨Nat.le_trans (Nat.le_of_ble_eq_true rfl) hRf, Nat.le_trans (Nat.le_of_ble_eq_true rfl) hRl⟩ rfl hl.1 rfl (Nat.le_of_ble_eq_true rfl) dX11_path_215 ⟨by omega, by omega⟩) hH (fun H locs hH => ?_)
                        have hH : nm_H D Y (fun q => s0 ≤ q) s.heap (X ++ [(q, .inr (5, [.int (2 : Int32), .int x2, .int x3, .int (nm_max (v27 - v22) 0), .int (nm_min (v27 + v23) 63), .long (f_X0_span (nm_max v26 0) (nm_min (v25 - v25 / (64 : Int32) * (64 : Int32)) 63 - nm_max v26 0 + 1))]))]) nl ad (M.1, M.2, N, K) H locs := hH
                        refine lv_goto (tgt := 243) hx hb dX11_path_218 (by decide) ?_
                        refine lv_aload_n hx hb dX11_path_243 rfl (lv_at hl 7 rfl) ?_
                        refine lv_iload_n hx hb dX11_path_244 rfl (lv_at hl 8 rfl) ?_
                        refine lv_aload hx hb dX11_path_245 (lv_at hl 0 rfl) ?_
                        obtain ⟨r34, M35, pz36, hc33, hf⟩ := nm_sd3 hf
                        have hH : nm_H D Y (fun q => s0 ≤ q) s.heap (X ++ [(q, .inr (5, mk_fs 5 (mk_i [(2 : Int32), x2, x3, (nm_max (v27 - v22) 0), (nm_min (v27 + v23) 63), 0]) (fun _ => (f_X0_span (nm_max v26 0) (nm_min (v25 - v25 / (64 : Int32) * (64 : Int32)) 63 - nm_max v26 0 + 1)))))]) nl ad (M.1, M.2, N, K) H locs := hH
                        refine mk_calli (mc := 0) (ms := 0) (nm_runV (X := (X ++ [(q, .inr (5, mk_fs 5 (mk_i [(2 : Int32), x2, x3, (nm_max (v27 - v22) 0), (nm_min (v27 + v23) 63), 0]) (fun _ => (f_X0_span (nm_max v26 0) (nm_min (v25 - v25 / (64 : Int32) * (64 : Int32)) 63 - nm_max v26 0 + 1)))))])) (nl := nl) (k_X11_drawn hL hN (by decide) (by decide) hc33) hx hb hml hown hts hs0 hK hZ hH mw_383 mw_380 mw_382 sw_X11_drawn tw_1 hd_X11_drawn (cl_n0 hL) (cl_k0 hL) (by decide) rfl rfl rfl ⟨Nat.le_trans (Nat.le_of_ble_eq_true rfl) hRf, Nat.le_trans (Nat.le_of_ble_eq_true rfl) hRl⟩ rfl hl.1 rfl (Nat.le_of_ble_eq_true rfl) dX11_path_247 ⟨by omega, by omega⟩) hH (fun nl2 ad2 hL2 ha2 H locs hH => ?_)
                        cases hf
                        exact mk_iretA hx hb hr hlocks hQ hRc hRs (by omega) (by omega) hH hL2 ha2 rfl rfl dX11_path_250
                    · have hf := nm_ie c21 hf
                      refine lv_aload_n hx hb dX11_path_128 rfl (lv_at hl 0 rfl) ?_
                      refine lv_bipush (v := -8) hx hb dX11_path_129 (by decide) ?_
                      obtain ⟨r39, M37, hc38, hf⟩ := nm_sd2 hf
                      refine nm_calli (nm_runV (X := X) (nl := nl) (k_X11_refuse hL hN (hf := hc38)) hx hb hml hown hts hs0 hK hZ hH tw_325 tw_322 tw_324 (sw_X11_refuse) tw_1 hd_X11_refuse (cl_n0 hL) (cl_k0 hL) (by decide) rfl rfl rfl ⟨Nat.le_trans (Nat.le_of_ble_eq_true rfl) hRf, Nat.le_trans (Nat.le_of_ble_eq_true rfl) hRl⟩ rfl hl.1 rfl (Nat.le_of_ble_eq_true rfl) dX11_path_131 ⟨Nat.zero_le _, Nat.zero_le _⟩) hH (fun H locs hH => ?_)
                      have hH : nm_H D Y (fun q => s0 ≤ q) s.heap X nl ad (M37.1, M37.2, N, K) H locs := hH
                      cases hf
                      exact mk_iretA hx hb hr hlocks hQ hRc hRs (by omega) (by omega) hH hL (fun _ _ => rfl) rfl rfl dX11_path_134
                  · have hf := nm_ie c18 hf
                    refine lv_aload_n hx hb dX11_path_107 rfl (lv_at hl 0 rfl) ?_
                    refine lv_bipush (v := -7) hx hb dX11_path_108 (by decide) ?_
                    obtain ⟨r42, M40, hc41, hf⟩ := nm_sd2 hf
                    refine nm_calli (nm_runV (X := X) (nl := nl) (k_X11_refuse hL hN (hf := hc41)) hx hb hml hown hts hs0 hK hZ hH tw_325 tw_322 tw_324 (sw_X11_refuse) tw_1 hd_X11_refuse (cl_n0 hL) (cl_k0 hL) (by decide) rfl rfl rfl ⟨Nat.le_trans (Nat.le_of_ble_eq_true rfl) hRf, Nat.le_trans (Nat.le_of_ble_eq_true rfl) hRl⟩ rfl hl.1 rfl (Nat.le_of_ble_eq_true rfl) dX11_path_110 ⟨Nat.zero_le _, Nat.zero_le _⟩) hH (fun H locs hH => ?_)
                    have hH : nm_H D Y (fun q => s0 ≤ q) s.heap X nl ad (M40.1, M40.2, N, K) H locs := hH
                    cases hf
                    exact mk_iretA hx hb hr hlocks hQ hRc hRs (by omega) (by omega) hH hL (fun _ _ => rfl) rfl rfl dX11_path_113
              refine lv_if_ne (tgt := 94) hx hb dX11_path_86 (by decide) (fun c43 => ?_) (fun c43 => ?_)
              · have hf := nm_ie c43 hf
                exact hJ94  _ _ _ hH (lv_sub hl [1, 2, 3, 4, 5, 6, 7] rfl) hf
              · have hf := nm_it c43 hf
                refine lv_iload hx hb dX11_path_89 (lv_at hl 0 rfl) ?_
                refine lv_if_eq (tgt := 107) hx hb dX11_path_91 (by decide) (fun c44 => ?_) (fun c44 => ?_)
                · have hf := nm_it c44 hf
                  refine lv_aload_n hx hb dX11_path_107 rfl (lv_at hl 1 rfl) ?_
                  refine lv_bipush (v := -7) hx hb dX11_path_108 (by decide) ?_
                  obtain ⟨r47, M45, hc46, hf⟩ := nm_sd2 hf
                  refine nm_calli (nm_runV (X := X) (nl := nl) (k_X11_refuse hL hN (hf := hc46)) hx hb hml hown hts hs0 hK hZ hH tw_325 tw_322 tw_324 (sw_X11_refuse) tw_1 hd_X11_refuse (cl_n0 hL) (cl_k0 hL) (by decide) rfl rfl rfl ⟨Nat.le_trans (Nat.le_of_ble_eq_true rfl) hRf, Nat.le_trans (Nat.le_of_ble_eq_true rfl) hRl⟩ rfl hl.1 rfl (Nat.le_of_ble_eq_true rfl) dX11_path_110 ⟨Nat.zero_le _, Nat.zero_le _⟩) hH (fun H locs hH => ?_)
                  have hH : nm_H D Y (fun q => s0 ≤ q) s.heap X nl ad (M45.1, M45.2, N, K) H locs := hH
                  cases hf
                  exact mk_iretA hx hb hr hlocks hQ hRc hRs (by omega) (by omega) hH hL (fun _ _ => rfl) rfl rfl dX11_path_113
                · have hf := nm_ie c44 hf
                  exact hJ94  _ _ _ hH (lv_sub hl [1, 2, 3, 4, 5, 6, 7] rfl) hf
            refine lv_icmp_ne (tgt := 81) hx hb dX11_path_74 (by decide) (fun c48 => ?_) (fun c48 => ?_)
            · have hf := nm_ie c48 hf
              refine lv_iconst (v := 0) hx hb dX11_path_81 (by decide) ?_
              exact hJ82 (0 : Int32) _ _ _ hH (lv_sub hl [1, 2, 3, 4, 5, 6, 0] rfl) hf
            · have hf := nm_it c48 hf
              refine lv_iconst (v := 1) hx hb dX11_path_77 (by decide) ?_
              refine lv_goto (tgt := 82) hx hb dX11_path_78 (by decide) ?_
              exact hJ82 (1 : Int32) _ _ _ hH (lv_sub hl [1, 2, 3, 4, 5, 6, 0] rfl) hf
          refine lv_icmp_ne (tgt := 62) hx hb dX11_path_55 (by decide) (fun c49 => ?_) (fun c49 => ?_)
          · have hf := nm_ie c49 hf
            refine lv_iconst (v := 0) hx hb dX11_path_62 (by decide) ?_
            exact hJ63 (0 : Int32) _ _ _ hH (lv_sub hl [0, 1, 2, 3, 4, 5] rfl) hf
          · have hf := nm_it c49 hf
            refine lv_iconst (v := 1) hx hb dX11_path_58 (by decide) ?_
            refine lv_goto (tgt := 63) hx hb dX11_path_59 (by decide) ?_
            exact hJ63 (1 : Int32) _ _ _ hH (lv_sub hl [0, 1, 2, 3, 4, 5] rfl) hf
        · have hf := nm_ie c13 hf
          refine lv_aload_n hx hb dX11_path_39 rfl (lv_at hl 0 rfl) ?_
          refine lv_bipush (v := -3) hx hb dX11_path_40 (by decide) ?_
          obtain ⟨r52, M50, hc51, hf⟩ := nm_sd2 hf
          refine nm_calli (nm_runV (X := X) (nl := nl) (k_X11_refuse hL hN (hf := hc51)) hx hb hml hown hts hs0 hK hZ hH tw_325 tw_322 tw_324 (sw_X11_refuse) tw_1 hd_X11_refuse (cl_n0 hL) (cl_k0 hL) (by decide) rfl rfl rfl ⟨Nat.le_trans (Nat.le_of_ble_eq_true rfl) hRf, Nat.le_trans (Nat.le_of_ble_eq_true rfl) hRl⟩ rfl hl.1 rfl (Nat.le_of_ble_eq_true rfl) dX11_path_42 ⟨Nat.zero_le _, Nat.zero_le _⟩) hH (fun H locs hH => ?_)
          have hH : nm_H D Y (fun q => s0 ≤ q) s.heap X nl ad (M50.1, M50.2, N, K) H locs := hH
          cases hf
          exact mk_iretA hx hb hr hlocks hQ hRc hRs (by omega) (by omega) hH hL (fun _ _ => rfl) rfl rfl dX11_path_45
theorem hd_X11_path : nm_hd yX11_path 5 := by decide +kernel
theorem sw_X11_path : Cond.selects yX11_path.cls yX11_path yX11_path ∈ nm_T := nm_tb 394 (by decide +kernel) (by decide +kernel)
