/-! a shape added to its cell, by the program -/
theorem mw_388 : (Jvm.Cond.methodLink "RulePlate" (273 : Nat) ({ cls := "RulePlate$Cell", name := "add", desc := "(LRulePlate$Shape;)I" } : Jvm.MethodName)) ∈ nm_T := nm_tb 388 (by decide +kernel) (by decide +kernel)
theorem mw_389 : (Jvm.Cond.instanceMethod ({ cls := "RulePlate$Cell", name := "add", desc := "(LRulePlate$Shape;)I" } : Jvm.MethodName)) ∈ nm_T := nm_tb 389 (by decide +kernel) (by decide +kernel)
theorem mw_391 : (Jvm.Cond.code ({ cls := "RulePlate$Cell", name := "add", desc := "(LRulePlate$Shape;)I" } : Jvm.MethodName) prog_3_method_2_code (2 : Nat) (Option.some Jvm.ClassFile.FieldType.int)) ∈ nm_T := nm_tb 391 (by decide +kernel) (by decide +kernel)
abbrev mk_Q (D : va_G) (Y : nm_Y) (s0 : Nat) (X : va_W) (ad : Nat → Nat) (r0 : Int32) (C' : nm_M) : Array Value → State → Outcome → State → Prop := va_Qi (fun r (u : List Nat × (Nat → Nat)) => r = r0 ∧ cl_L u.1 C'.2.2.2 ∧ ∀ x, ¬ cl_sh x → u.2 x = ad x) (fun u t => nm_R D s0 (nm_W Y X u.1 u.2 C') t) (fun q => s0 ≤ q)
theorem mk_cast {s : State} (hZ : nm_Z s) {ci : Nat} (h4 : 4 ≤ ci) (h6 : ci ≤ 6) : ∃ r, vwCl[ci]? = some r ∧ va_Nw (.castable r.1 "RulePlate$Shape") s := by
  have : ci = 4 ∨ ci = 5 ∨ ci = 6 := by omega
  rcases this with rfl | rfl | rfl
  · exact ⟨_, rfl, hZ.2.2.1.2.1⟩
  · exact ⟨_, rfl, hZ.2.2.1.1⟩
  · exact ⟨_, rfl, hZ.2.2.1.2.2⟩
section MK2
variable {p : Program} {l : Launch} {e : Env} {R : Room} {s : State} {m : MethodId} {args : Array Value} {below : List Frame} {meth : Method} {c : Code} {H : Heap} {locs : List Loc} {cells slots : Nat} {Q : State → Prop}
variable {cc : ByteArray} {pc : Nat} {ls : Array Slot} {rest : List Value}
variable {D : va_G} {Y : nm_Y} {X : va_W} {nl nl' : List Nat} {ad ad' : Nat → Nat} {C C' : nm_M} {s0 : Nat}
theorem mk_new (hx : p.tables.exec = Jvm.exec) (hb : c.code = cc) {own CC : String} {T : u_T} {N ci index : Nat} (hts : ∀ w ∈ nm_T, w.before args s = true) (hin : ∀ w ∈ u_ws CC T N, w ∈ nm_T) (ty : Nat → FieldType) (hty : ∀ k, k < N → parseFieldDescriptor (T k).2.2.1 = some (ty k)) (hown : s.vm.findClass own = some m.cls) (hcl : Cond.classLink own index CC ∈ nm_T) (hinst : Cond.instantiable CC N ∈ nm_T) (hini : Cond.initialized CC ∈ nm_T) (hK : nm_K D Y s) (hs0 : s0 ≤ s.heap.size) (hH : nm_H D Y (fun q => s0 ≤ q) s.heap X nl ad C H locs) (hc : vwCl[ci]? = some (CC, T, N)) {fs : List Value} (hfs : ∀ j, j < N → defaultValue (ty j) = vp_V fs j) (hcells : cells + 1 ≤ R.cells) (hslots : slots + N ≤ R.slots) (hdg : decode cc pc = .ok (.new index, 3))
    (kk : ∀ (q : Nat) (H : Heap), nm_H D Y (fun q => s0 ≤ q) s.heap (X ++ [(q, .inr (ci, fs))]) nl ad C H locs → W p l e R s m args below meth c H locs (cells + 1) (slots + N) Q (F0 m (pc + 3) ls (.ref q :: rest))) : W p l e R s m args below meth c H locs cells slots Q (F0 m pc ls rest) := by
  refine va_new hx hb hts hin ty hty hown (hts _ hcl) (hts _ hinst) (hts _ hini) hK hH.1 hH.2.1 hH.2.2 (fun q h => Nat.le_trans hs0 h) hc hfs hcells hslots hdg (fun q H1 hP1 hD1 hS1 => kk q H1 ⟨?_, ?_, hS1⟩)
  · exact va_P.swap hP1
  · exact va_D.swap hD1
theorem mk_iret (hx : p.tables.exec = Jvm.exec) (hb : c.code = cc) (hr : meth.sig.returnType = some .int) (hlocks : meth.locks = false) {v r0 : Int32} (hQ : Q = MQ below (mk_Q D Y s0 X ad r0 C') args s cells slots (fun q => s0 ≤ q)) (hH : nm_H D Y (fun q => s0 ≤ q) s.heap X nl' ad' C H locs) (hL : cl_L nl' C.2.2.2) (ha : ∀ x, ¬ cl_sh x → ad' x = ad x) (e1 : v = r0) (e2 : C = C') (hdg : decode cc pc = .ok (.ireturn, 1)) :
    W p l e R s m args below meth c H locs cells slots Q (F0 m pc ls [.int v]) := by
  subst e2
  subst hQ
  exact W.iret (v := v) hx hb hr (fun t ht hW => ⟨⟨v, (nl', ad'), rfl, ⟨e1, hL, ha⟩, by rw [ht]; exact hH.1, hH.2.1⟩, hH.2.2.F ht⟩) hH.2.2.2.2 hdg hlocks
theorem mk_calli {mc ms : Nat} {X0 : va_W} {nl0 : List Nat} {ad0 : Nat → Nat} {C0 : nm_M} {r0 : Int32} {st : List Value} {a : Array Value} (hrun : va_Run p l e R s m args below meth c H locs cells slots mc ms (F0 m pc ls st) rest (mk_Q D Y s0 X ad r0 C' a) (fun q => s0 ≤ q)) (hH : nm_H D Y (fun q => s0 ≤ q) s.heap X0 nl0 ad0 C0 H locs)
    (kk : ∀ (nl' : List Nat) (ad' : Nat → Nat), cl_L nl' C'.2.2.2 → (∀ x, ¬ cl_sh x → ad' x = ad x) → ∀ (H : Heap) (locs : List Loc), nm_H D Y (fun q => s0 ≤ q) s.heap X nl' ad' C' H locs → W p l e R s m args below meth c H locs (cells + mc) (slots + ms) Q (F0 m (pc + 3) ls (.int r0 :: rest))) : W p l e R s m args below meth c H locs cells slots Q (F0 m pc ls st) := by
  refine va_calli hrun hH.2.2 (fun q _ h => h) (fun q h => h) (fun r u t H1 locs1 ht hvm hp hB hz1 hk1 hS1 => ?_)
  obtain ⟨rfl, hp1, hp2⟩ := hp
  have hB2 : nm_R D s0 (nm_W Y X u.1 u.2 C') t := hB
  exact kk u.1 u.2 hp1 hp2 H1 locs1 ⟨by rw [← ht]; exact hB2.1, hB2.2, hS1⟩
end MK2
theorem mk_w {w : Nat} (hw : cl_w w) : ¬ cl_sh w := by
  obtain ⟨k, hk, rfl⟩ := hw
  rintro ⟨c, i, h1, h2, h3⟩
  omega
def f_X1_add (w : Nat) (fi : Nat → Int32) (fj : Nat → Int64) (M : cm) : Option (Int32 × cm × Nat) :=
nm_c (M.1 w 1) 16 (
nm_l (w + 10 + (M.1 w 1).toNatClampNeg) fun pz =>
nm_l (va_up M.1 pz fi, va_up M.2 pz fj) fun M1 =>
nm_l ((nm_up M1.1 w 1 (M1.1 w 1 + 1), M1.2)) fun M2 =>
some (M2.1 w 1 - 1, M2, pz))
def f_X11_drawn (x1 : Int32) (fi : Nat → Int32) (fj : Nat → Int64) (M : cm) : Option (Int32 × cm × Nat) :=
nm_s1 (f_X11_outdate x1 M) fun M2 =>
nm_c x1 8 (
nm_l (1000 + 100 * x1.toNatClampNeg) fun w =>
nm_s3 (f_X1_add w fi fj M2) fun r M3 pz =>
some (r, M3, pz))
theorem k_X1_add {l : Launch} {D : va_G} {Y : nm_Y} {s0 : Nat} {X : va_W} {ad : Nat → Nat} {nl : List Nat} {N K : Nat → Nat} (hL : cl_L nl K) (hN : cl_N N) {w : Nat} (hw : cl_w w) {q ci : Nat} {fi : Nat → Int32} {fj : Nat → Int64} (h4 : 4 ≤ ci) (h6 : ci ≤ 6) {M : cm} {r0 : Int32} {M0 : cm} {pz : Nat} (hf : f_X1_add w fi fj M = some (r0, M0, pz)) :
    nm_Met l yX1_add cX1_add 2 (some .int) { frames := 0, cells := 0, slots := 0, locals := 0 } [.ref (ad w), .ref q] D Y s0 (nm_W Y (X ++ [(q, .inr (ci, mk_fs ci fi fj))]) nl ad (M.1, M.2, N, K)) (mk_Q D Y s0 X ad r0 (M0.1, M0.2, N, va_up K pz (ci + 1))) 0 0 := by
  refine nm_of (by decide) (Nat.le_of_ble_eq_true rfl) ?_
  intro p e R s m args below meth c Q ls hx hb hr hlocks hml hown hts hs0 hK hZ hRf hRl hRc hRs hQ hP hD hl
  have hH : nm_H D Y (fun q => s0 ≤ q) s.heap (X ++ [(q, .inr (ci, mk_fs ci fi fj))]) nl ad (M.1, M.2, N, K) s.heap [] := ⟨hP, hD, va_S.rf⟩
  have hl : lv_has ls 2 [(0, .ref (ad w)), (1, .ref q)] := hl
  unfold f_X1_add at hf
  refine lv_aload_n hx hb dX1_add_0 rfl (lv_at hl 0 rfl) ?_
  refine gf_1_0 hK hx hb hts hown hH (cl_nw0 hL hw) (cl_kw0 hL hw) (hts _ tw_262) (fun _ h9 => h9) dX1_add_1 ?_
  refine lv_aload_n hx hb dX1_add_4 rfl (lv_at hl 0 rfl) ?_
  refine gf_1_1 hK hx hb hts hown hH (cl_nw0 hL hw) (cl_kw0 hL hw) (hts _ tw_264) (fun _ h9 => h9) dX1_add_5 ?_
  refine lv_aload_n hx hb dX1_add_8 rfl (lv_at hl 1 rfl) ?_
  obtain ⟨hi, hf⟩ := nm_chk hf
  obtain ⟨pz1, epz, hf⟩ := nm_let hf
  obtain ⟨M1, eM1, hf⟩ := nm_let hf
  obtain ⟨M2, eM2, hf⟩ := nm_let hf
  obtain ⟨rfl, rfl, rfl⟩ : M2.1 w 1 - 1 = r0 ∧ M2 = M0 ∧ pz1 = pz := by
    have := Option.some.inj hf
    exact ⟨congrArg Prod.fst this, congrArg (fun x => x.2.1) this, congrArg (fun x => x.2.2) this⟩
  obtain ⟨q0, hq⟩ := nm_wget (X := (X ++ [(q, .inr (ci, mk_fs ci fi fj))])) (ad := ad) (E := nm_E Y ad (M.1, M.2, N, K)) (cl_nw1 hL hw)
  have hq2 := hq
  rw [nm_E_S (C := (M.1, M.2, N, K)) (cl_kw1 hL hw)] at hq
  obtain ⟨rc, hrc, hcast⟩ := mk_cast hZ h4 h6
  refine va_astqO hx hb hK hH.1 hH.2.1 hH.2.2 q0 4 X.length ci hq rfl hcast mk_get hrc (by
    show vp_in _ (N (w + 1))
    rw [cl_lw1 hN hw]
    exact hi) dX1_add_9 (fun H1 locs1 hP1 hD1 hS1 => ?_)
  unfold nm_W at hP1 hD1
  rw [nm_wset hH.2.1 (cl_nw1 hL hw) hq2] at hP1 hD1
  have hi16 : (M.1 w 1).toNatClampNeg < 16 := Nat.not_le.mp fun h => hi (Or.inr h)
  have hww := hw
  obtain ⟨cc9, hc9, ew⟩ := hw
  subst ew
  obtain ⟨hH, hL⟩ := mk_move hL hc9 hi16 h4 h6 hP1 hD1 hS1
  rw [← epz] at hH hL
  have hnp : 1000 + 100 * cc9 ≠ pz1 := by omega
  have hl : lv_has ls 2 [(0, .ref (va_up ad pz1 q (1000 + 100 * cc9))), (1, .ref q)] := by
    rw [va_up_ne _ _ hnp]
    exact hl
  have hH : nm_H D Y (fun q => s0 ≤ q) s.heap X (mk_nl nl pz1) (va_up ad pz1 q) (M1.1, M1.2, N, va_up K pz1 (ci + 1)) H1 locs1 := by rw [eM1]; exact hH
  refine lv_aload_n hx hb dX1_add_10 rfl (lv_at hl 0 rfl) ?_
  refine lv_dup hx hb dX1_add_11 rfl ?_
  refine gf_1_1 hK hx hb hts hown hH (cl_nw0 hL hww) (cl_kw0 hL hww) (hts _ tw_264) (fun _ h9 => h9) dX1_add_12 ?_
  refine lv_iconst (v := 1) hx hb dX1_add_15 (by decide) ?_
  refine lv_iadd hx hb dX1_add_16 ?_
  refine pf_1_1 hK hx hb hts hown hH (cl_nw0 hL hww) (cl_kw0 hL hww) (hts _ tw_264) (fun _ h9 => h9) dX1_add_17 (fun H locs hH => ?_)
  have hH : nm_H D Y (fun q => s0 ≤ q) s.heap X (mk_nl nl pz1) (va_up ad pz1 q) (M2.1, M2.2, N, va_up K pz1 (ci + 1)) H locs := by rw [eM2]; exact hH
  refine lv_aload_n hx hb dX1_add_20 rfl (lv_at hl 0 rfl) ?_
  refine gf_1_1 hK hx hb hts hown hH (cl_nw0 hL hww) (cl_kw0 hL hww) (hts _ tw_264) (fun _ h9 => h9) dX1_add_21 ?_
  refine lv_iconst (v := 1) hx hb dX1_add_24 (by decide) ?_
  refine lv_isub hx hb dX1_add_25 ?_
  exact mk_iret hx hb hr hlocks hQ hH hL (fun x hx9 => va_up_ne _ _ (fun e9 => hx9 (by rw [e9, epz]; exact mk_shp hc9 hi16))) rfl rfl dX1_add_26
theorem hd_X1_add : nm_hd yX1_add 1 := by decide +kernel
theorem sw_X1_add : Cond.selects yX1_add.cls yX1_add yX1_add ∈ nm_T := nm_tb 390 (by decide +kernel) (by decide +kernel)
theorem hd_X11_drawn : nm_hd yX11_drawn 2 := by decide +kernel
theorem sw_X11_drawn : Cond.selects yX11_drawn.cls yX11_drawn yX11_drawn ∈ nm_T := nm_sel 1 (by decide +kernel) (by decide +kernel)
theorem k_X11_drawn {l : Launch} {D : va_G} {Y : nm_Y} {s0 : Nat} {X : va_W} {ad : Nat → Nat} {nl : List Nat} {N K : Nat → Nat} (hL : cl_L nl K) (hN : cl_N N) {x1 : Int32} {q ci : Nat} {fi : Nat → Int32} {fj : Nat → Int64} (h4 : 4 ≤ ci) (h6 : ci ≤ 6) {M : cm} {r0 : Int32} {M0 : cm} {pz : Nat} (hf : f_X11_drawn x1 fi fj M = some (r0, M0, pz)) :
    nm_Met l yX11_drawn cX11_drawn 3 (some .int) { frames := 1, cells := 0, slots := 0, locals := 22 } [.ref (ad 0), .int x1, .ref q] D Y s0 (nm_W Y (X ++ [(q, .inr (ci, mk_fs ci fi fj))]) nl ad (M.1, M.2, N, K)) (mk_Q D Y s0 X ad r0 (M0.1, M0.2, N, va_up K pz (ci + 1))) 0 0 := by
  refine nm_of (by decide) (Nat.le_of_ble_eq_true rfl) ?_
  intro p e R s m args below meth c Q ls hx hb hr hlocks hml hown hts hs0 hK hZ hRf hRl hRc hRs hQ hP hD hl
  have hH : nm_H D Y (fun q => s0 ≤ q) s.heap (X ++ [(q, .inr (ci, mk_fs ci fi fj))]) nl ad (M.1, M.2, N, K) s.heap [] := ⟨hP, hD, va_S.rf⟩
  have hl : lv_has ls 3 [(0, .ref (ad 0)), (1, .int x1), (2, .ref q)] := hl
  unfold f_X11_drawn at hf
  refine lv_aload_n hx hb dX11_drawn_0 rfl (lv_at hl 0 rfl) ?_
  refine lv_iload_n hx hb dX11_drawn_1 rfl (lv_at hl 1 rfl) ?_
  obtain ⟨M2, hc2, hf⟩ := nm_sd1 hf
  refine nm_callv (nm_runV (X := (X ++ [(q, .inr (ci, mk_fs ci fi fj))])) (nl := nl) (k_X11_outdate hL hN (hf := hc2)) hx hb hml hown hts hs0 hK hZ hH tw_387 tw_384 tw_386 (sw_X11_outdate) tw_1 hd_X11_outdate (cl_n0 hL) (cl_k0 hL) (by decide) rfl rfl rfl ⟨Nat.le_trans (Nat.le_of_ble_eq_true rfl) hRf, Nat.le_trans (Nat.le_of_ble_eq_true rfl) hRl⟩ rfl hl.1 rfl (Nat.le_of_ble_eq_true rfl) dX11_drawn_2 ⟨Nat.zero_le _, Nat.zero_le _⟩) hH (fun H locs hH => ?_)
  have hH : nm_H D Y (fun q => s0 ≤ q) s.heap (X ++ [(q, .inr (ci, mk_fs ci fi fj))]) nl ad (M2.1, M2.2, N, K) H locs := hH
  refine lv_aload_n hx hb dX11_drawn_5 rfl (lv_at hl 0 rfl) ?_
  refine gf_11_0 hK hx hb hts hown hH (cl_n0 hL) (cl_k0 hL) (hts _ tw_287) (fun _ h9 => h9) dX11_drawn_6 ?_
  refine lv_iload_n hx hb dX11_drawn_9 rfl (lv_at hl 1 rfl) ?_
  obtain ⟨hi3, hf⟩ := nm_chk hf
  obtain ⟨w4, ew4, hf⟩ := nm_let hf
  have hw4 : cl_w w4 := cl_wi ew4 hi3
  refine nm_cald hx hb hK hH (cl_n1 hL) (cl_k1 hL) (cl_l1 hN) hi3 ew4 dX11_drawn_10 ?_
  refine lv_aload_n hx hb dX11_drawn_11 rfl (lv_at hl 2 rfl) ?_
  obtain ⟨r5, M5, pz5, hc5, hf⟩ := nm_sd3 hf
  refine mk_calli (nm_runV (X := (X ++ [(q, .inr (ci, mk_fs ci fi fj))])) (nl := nl) (k_X1_add hL hN hw4 h4 h6 hc5) hx hb hml hown hts hs0 hK hZ hH mw_391 mw_388 mw_389 sw_X1_add tw_8 hd_X1_add (cl_nw0 hL hw4) (cl_kw0 hL hw4) (by decide) rfl rfl rfl ⟨Nat.le_trans (Nat.le_of_ble_eq_true rfl) hRf, Nat.le_trans (Nat.le_of_ble_eq_true rfl) hRl⟩ rfl hl.1 rfl (Nat.le_of_ble_eq_true rfl) dX11_drawn_12 ⟨Nat.zero_le _, Nat.zero_le _⟩) hH (fun nl' ad' hL' ha' H locs hH => ?_)
  obtain ⟨rfl, rfl, rfl⟩ : r5 = r0 ∧ M5 = M0 ∧ pz5 = pz := by
    have := Option.some.inj hf
    exact ⟨congrArg Prod.fst this, congrArg (fun x => x.2.1) this, congrArg (fun x => x.2.2) this⟩
  exact mk_iret hx hb hr hlocks hQ hH hL' ha' rfl rfl dX11_drawn_15
