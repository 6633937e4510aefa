/-! objects that are made: kept at the end of the frame till they are stored -/
theorem mk_of {l : Launch} {y : MethodName} {cc : ByteArray} {maxL fr lo mc ms : Nat} {ret : Option FieldType} {av : List Value} {D : va_G} {Y : nm_Y} {s0 : Nat} {ws : va_W} {Qc : Array Value → State → Outcome → State → Prop} (hy : plainName y.cls = true) (hn : (lg_sl av).length ≤ maxL)
    (body : ∀ (p : Program) (e : Env) (R : Room) (s : State) (m : MethodId) (args : Array Value) (below : List Frame) (meth : Method) (c : Code) (Q : State → Prop) (ls : Array Slot), meth.name = y.name → p.tables.exec = Jvm.exec → c.code = cc → meth.sig.returnType = ret → meth.locks = false → c.maxLocals = maxL → s.vm.findClass y.cls = some m.cls → (∀ w ∈ nm_T, w.before args s = true) → s0 ≤ s.heap.size → nm_K D Y s → nm_Z s → fr ≤ R.frames → lo ≤ R.locals → R.cells = mc → R.slots = ms → Q = MQ below Qc args s mc ms (fun q => s0 ≤ q) → va_P D vwCl ws s.heap → va_D (fun q => s0 ≤ q) ws → lv_has ls maxL (lv_args 0 av) →
      W p l e R s m args below meth c s.heap [] 0 0 Q (F0 m 0 ls [])) : nm_Met l y cc maxL ret { frames := fr, cells := mc, slots := ms, locals := lo } av D Y s0 ws Qc mc ms := by
  refine Met.ofW (cc := cc) (maxL := maxL) (ret := ret) hy rfl ?_
  intro p e s m args below meth c s₁ B hml hv
  obtain ⟨rfl, hsz, hP, hK, hZ, hD⟩ := hv
  have hts0 := atoms_spec (ws := Cond.code y cc maxL ret :: nm_T) B.pre
  have hl := lv_entry av (n := maxL) hn
  rw [lg_entry_eq]
  exact body p e _ s m _ below meth c _ _ (name_of_methodNamed B.named B.method).1 B.exec B.bytes B.returns B.notSynchronized hml (findClass_of_methodNamed B.named) (fun w h => hts0 w (List.mem_cons_of_mem _ h)) hsz hK hZ (Nat.le_refl _) (Nat.le_refl _) rfl rfl rfl hP hD hl
section MK
variable {p : Program} {l : Launch} {e : Env} {R : Room} {s : State} {m : MethodId} {args : Array Value} {below : List Frame} {meth : Method} {c : Code} {H : Heap} {locs : List Loc} {cells slots : Nat} {Q : State → Prop}
variable {cc : ByteArray} {pc : Nat} {ls : Array Slot} {rest : List Value}
variable {D : va_G} {Y : nm_Y} {X : va_W} {nl : List Nat} {ad : Nat → Nat} {C : nm_M} {s0 : Nat} {A : Nat → Prop} {H0 : Heap}
theorem mk_get {q : Nat} {x : va_E} {w : va_W} : ((X ++ [(q, x)]) ++ w)[X.length]? = some (q, x) := by
  rw [List.append_assoc, List.getElem?_append_right (Nat.le_refl _), Nat.sub_self]
  rfl
theorem mk_set {q : Nat} {x x' : va_E} {w : va_W} : ((X ++ [(q, x)]) ++ w).set X.length (q, x') = (X ++ [(q, x')]) ++ w := by
  rw [List.append_assoc, List.set_append_right _ _ (Nat.le_refl _), Nat.sub_self, List.append_assoc]
  rfl
/-- a call of a constructor -/
theorem mk_runI {y : MethodName} {bytes : ByteArray} {maxL nL n index mc ms b : Nat} {rm : Room} {As st : List Value} {own : String} {Qc : Array Value → State → Outcome → State → Prop}
    (hM : nm_Met l y bytes maxL none rm (.ref b :: As) D Y s0 (nm_W Y X nl ad C) Qc mc ms) (hx : p.tables.exec = Jvm.exec) (hb : c.code = cc) (hml : c.maxLocals = nL) (hown : s.vm.findClass own = some m.cls) (hts : ∀ w ∈ nm_T, w.before args s = true) (hs0 : s0 ≤ s.heap.size) (hK : nm_K D Y s) (hZ : nm_Z s) (hH : nm_H D Y (fun q => s0 ≤ q) s.heap X nl ad C H locs)
    (hcd : Cond.code y bytes maxL none ∈ nm_T) (hlk : Cond.methodLink own index y ∈ nm_T) (him : Cond.instanceMethod y ∈ nm_T) (hin : Cond.initialized y.cls ∈ nm_T) (hy : y.name = "<init>") (hd : nm_hd y n)
    (hrc : rm.cells = mc) (hrs : rm.slots = ms) (hR : rm.frames + 1 ≤ R.frames ∧ 8 + (maxL + 11) + rm.locals ≤ R.locals) (hlen : As.length = n) (hsz : ls.size = nL) (hst : st = As.reverse ++ .ref b :: rest) (hW8 : (rest.map fun v => v.category).sum ≤ 8) (hdg : decode cc pc = .ok (.invokespecial index, 3)) (hf : cells + mc ≤ R.cells ∧ slots + ms ≤ R.slots) :
    va_Run p l e R s m args below meth c H locs cells slots mc ms (F0 m pc ls st) rest (Qc (Value.ref b :: As).toArray) (fun q => s0 ≤ q) := by
  refine va_runI (own := own) (Ts := nm_T) (n := n) (bytes := bytes) (maxL := maxL) (ws := Cond.code y bytes maxL none :: nm_T) ⟨hx, hb, hml, hown, hts⟩ hM ?_ ⟨nm_B.blind, nm_pre hK hZ hs0 hH _⟩ rfl hlen hsz hst (lv_room hW8) hdg hf
  exact cwI n hts (nm_gd (fun _ h => h) hcd) rfl hrc hrs (hts _ hin) (hts _ hlk) (hts _ him) hy hd hR
theorem mk_putF (hx : p.tables.exec = Jvm.exec) (hb : c.code = cc) {own ref CC : String} {T : u_T} {N ci index : Nat} (hts : ∀ w ∈ nm_T, w.before args s = true) (hin : ∀ w ∈ u_ws CC T N, w ∈ nm_T) (ty0 : Nat → FieldType) (hty : ∀ k, k < N → parseFieldDescriptor (T k).2.2.1 = some (ty0 k)) (hnm : ∀ a, a < N → ∀ b, b < N → a ≠ b → (T a).2.1 ≠ (T b).2.1) (hown : s.vm.findClass own = some m.cls) (hK : nm_K D Y s) {q : Nat} {fs : List Value} (hH : nm_H D Y A H0 (X ++ [(q, .inr (ci, fs))]) nl ad C H locs) (hc : vwCl[ci]? = some (CC, T, N)) (k : Nat) (hkN : k < N) (hlk : Cond.fieldLink own index ref (T k).2.1 (T k).2.2.1 ∈ nm_T) (hsame : ∀ x, s.fieldFound? (T k).1 (T k).2.1 (T k).2.2.1 = some x → s.fieldFound? ref (T k).2.1 (T k).2.2.1 = some x) (hfin : (T k).2.2.2 = true) (hin2 : meth.name = "<init>") (hdecl : (T k).1 = own) {ty : FieldType} {v : Value} (hd : parseFieldDescriptor (T k).2.2.1 = some ty) (hnr : narrow ty v = v) (hfit : fits ty v = true) (hl : k < fs.length) (hdg : decode cc pc = .ok (.putfield index, 3))
    (kk : ∀ (H : Heap) (locs : List Loc), nm_H D Y A H0 (X ++ [(q, .inr (ci, fs.set k v))]) nl ad C H locs → W p l e R s m args below meth c H locs cells slots Q (F0 m (pc + 3) ls rest)) : W p l e R s m args below meth c H locs cells slots Q (F0 m pc ls (v :: .ref q :: rest)) := by
  refine va_putF hx hb hts hin ty0 hty hnm hown hK hH.1 hH.2.1 hH.2.2 X.length mk_get hc k hkN (hts _ hlk) hsame hfin hin2 hdecl hd hnr hfit hl hdg (fun H1 locs1 hP1 hD1 hS1 => kk H1 locs1 ?_)
  unfold nm_W at hP1 hD1
  rw [mk_set] at hP1 hD1
  exact ⟨hP1, hD1, hS1⟩
theorem mk_put (hx : p.tables.exec = Jvm.exec) (hb : c.code = cc) {own ref CC : String} {T : u_T} {N ci index : Nat} (hts : ∀ w ∈ nm_T, w.before args s = true) (hin : ∀ w ∈ u_ws CC T N, w ∈ nm_T) (ty0 : Nat → FieldType) (hty : ∀ k, k < N → parseFieldDescriptor (T k).2.2.1 = some (ty0 k)) (hnm : ∀ a, a < N → ∀ b, b < N → a ≠ b → (T a).2.1 ≠ (T b).2.1) (hown : s.vm.findClass own = some m.cls) (hK : nm_K D Y s) {q : Nat} {fs : List Value} (hH : nm_H D Y A H0 (X ++ [(q, .inr (ci, fs))]) nl ad C H locs) (hc : vwCl[ci]? = some (CC, T, N)) (k : Nat) (hkN : k < N) (hlk : Cond.fieldLink own index ref (T k).2.1 (T k).2.2.1 ∈ nm_T) (hsame : ∀ x, s.fieldFound? (T k).1 (T k).2.1 (T k).2.2.1 = some x → s.fieldFound? ref (T k).2.1 (T k).2.2.1 = some x) (hfin : (T k).2.2.2 = false) {ty : FieldType} {v : Value} (hd : parseFieldDescriptor (T k).2.2.1 = some ty) (hnr : narrow ty v = v) (hfit : fits ty v = true) (hl : k < fs.length) (hdg : decode cc pc = .ok (.putfield index, 3))
    (kk : ∀ (H : Heap) (locs : List Loc), nm_H D Y A H0 (X ++ [(q, .inr (ci, fs.set k v))]) nl ad C H locs → W p l e R s m args below meth c H locs cells slots Q (F0 m (pc + 3) ls rest)) : W p l e R s m args below meth c H locs cells slots Q (F0 m pc ls (v :: .ref q :: rest)) := by
  refine va_put hx hb hts hin ty0 hty hnm hown hK hH.1 hH.2.1 hH.2.2 X.length mk_get hc k hkN (hts _ hlk) hsame hfin hd hnr hfit hl hdg (fun H1 locs1 hP1 hD1 hS1 => kk H1 locs1 ?_)
  unfold nm_W at hP1 hD1
  rw [mk_set] at hP1 hD1
  exact ⟨hP1, hD1, hS1⟩
end MK
theorem mw_10 : (Jvm.Cond.initialized "RulePlate$Shape") ∈ nm_T := nm_tb 10 (by decide +kernel) (by decide +kernel)
theorem mw_24 : (Jvm.Cond.instanceMethod ({ cls := "java/lang/Object", name := "<init>", desc := "()V" } : Jvm.MethodName)) ∈ nm_T := nm_tb 24 (by decide +kernel) (by decide +kernel)
theorem mw_25 : (Jvm.Cond.code ({ cls := "java/lang/Object", name := "<init>", desc := "()V" } : Jvm.MethodName) object_method_1_code (1 : Nat) (Option.none : Option Jvm.ClassFile.FieldType)) ∈ nm_T := nm_tb 25 (by decide +kernel) (by decide +kernel)
theorem mw_331 : (Jvm.Cond.methodLink "RulePlate$Patch" (3 : Nat) ({ cls := "RulePlate$Shape", name := "<init>", desc := "(III)V" } : Jvm.MethodName)) ∈ nm_T := nm_tb 331 (by decide +kernel) (by decide +kernel)
theorem mw_332 : (Jvm.Cond.instanceMethod ({ cls := "RulePlate$Shape", name := "<init>", desc := "(III)V" } : Jvm.MethodName)) ∈ nm_T := nm_tb 332 (by decide +kernel) (by decide +kernel)
theorem mw_333 : (Jvm.Cond.code ({ cls := "RulePlate$Shape", name := "<init>", desc := "(III)V" } : Jvm.MethodName) prog_11_method_1_code (4 : Nat) (Option.none : Option Jvm.ClassFile.FieldType)) ∈ nm_T := nm_tb 333 (by decide +kernel) (by decide +kernel)
theorem mw_334 : (Jvm.Cond.methodLink "RulePlate$Shape" (1 : Nat) ({ cls := "java/lang/Object", name := "<init>", desc := "()V" } : Jvm.MethodName)) ∈ nm_T := nm_tb 334 (by decide +kernel) (by decide +kernel)
theorem mw_335 : (Jvm.Cond.fieldLink "RulePlate$Patch" (18 : Nat) "RulePlate$Patch" "top" "I") ∈ nm_T := nm_tb 335 (by decide +kernel) (by decide +kernel)
theorem mw_336 : (Jvm.Cond.fieldLink "RulePlate$Patch" (24 : Nat) "RulePlate$Patch" "bottom" "I") ∈ nm_T := nm_tb 336 (by decide +kernel) (by decide +kernel)
theorem mw_337 : (Jvm.Cond.fieldLink "RulePlate$Patch" (33 : Nat) "RulePlate$Patch" "columns" "J") ∈ nm_T := nm_tb 337 (by decide +kernel) (by decide +kernel)
theorem mw_338 : (Jvm.Cond.fieldLink "RulePlate$Shape" (7 : Nat) "RulePlate$Shape" "kind" "I") ∈ nm_T := nm_tb 338 (by decide +kernel) (by decide +kernel)
theorem mw_343 : (Jvm.Cond.fieldLink "RulePlate$Shape" (13 : Nat) "RulePlate$Shape" "layer" "I") ∈ nm_T := nm_tb 343 (by decide +kernel) (by decide +kernel)
theorem mw_349 : (Jvm.Cond.fieldLink "RulePlate$Shape" (16 : Nat) "RulePlate$Shape" "square" "I") ∈ nm_T := nm_tb 349 (by decide +kernel) (by decide +kernel)
theorem mw_370 : (Jvm.Cond.methodLink "RulePlate$Patch" (9 : Nat) ({ cls := "java/lang/Math", name := "max", desc := "(II)I" } : Jvm.MethodName)) ∈ nm_T := nm_tb 370 (by decide +kernel) (by decide +kernel)
theorem mw_373 : (Jvm.Cond.methodLink "RulePlate$Patch" (15 : Nat) ({ cls := "java/lang/Math", name := "min", desc := "(II)I" } : Jvm.MethodName)) ∈ nm_T := nm_tb 373 (by decide +kernel) (by decide +kernel)
theorem mw_376 : (Jvm.Cond.methodLink "RulePlate$Patch" (27 : Nat) ({ cls := "RulePlate$Bits", name := "span", desc := "(II)J" } : Jvm.MethodName)) ∈ nm_T := nm_tb 376 (by decide +kernel) (by decide +kernel)
theorem mw_407 : (Jvm.Cond.methodLink "RulePlate$Label" (3 : Nat) ({ cls := "RulePlate$Shape", name := "<init>", desc := "(III)V" } : Jvm.MethodName)) ∈ nm_T := nm_tb 407 (by decide +kernel) (by decide +kernel)
theorem mw_408 : (Jvm.Cond.methodLink "RulePlate$Label" (9 : Nat) ({ cls := "RulePlate$Label", name := "pack", desc := "(III)I" } : Jvm.MethodName)) ∈ nm_T := nm_tb 408 (by decide +kernel) (by decide +kernel)
theorem mw_411 : (Jvm.Cond.fieldLink "RulePlate$Label" (15 : Nat) "RulePlate$Label" "packed" "I") ∈ nm_T := nm_tb 411 (by decide +kernel) (by decide +kernel)
theorem mw_428 : (Jvm.Cond.methodLink "RulePlate$Put" (3 : Nat) ({ cls := "RulePlate$Shape", name := "<init>", desc := "(III)V" } : Jvm.MethodName)) ∈ nm_T := nm_tb 428 (by decide +kernel) (by decide +kernel)
theorem mw_429 : (Jvm.Cond.fieldLink "RulePlate$Put" (24 : Nat) "RulePlate$Put" "turned" "I") ∈ nm_T := nm_tb 429 (by decide +kernel) (by decide +kernel)
theorem mw_430 : (Jvm.Cond.fieldLink "RulePlate$Put" (27 : Nat) "RulePlate$Put" "mirrored" "Z") ∈ nm_T := nm_tb 430 (by decide +kernel) (by decide +kernel)
theorem mw_431 : (Jvm.Cond.fieldLink "RulePlate$Put" (9 : Nat) "RulePlate$Put" "farAcross" "I") ∈ nm_T := nm_tb 431 (by decide +kernel) (by decide +kernel)
theorem mw_432 : (Jvm.Cond.fieldLink "RulePlate$Put" (15 : Nat) "RulePlate$Put" "farDown" "I") ∈ nm_T := nm_tb 432 (by decide +kernel) (by decide +kernel)
theorem mw_433 : (Jvm.Cond.fieldLink "RulePlate$Put" (18 : Nat) "RulePlate$Put" "manyAcross" "I") ∈ nm_T := nm_tb 433 (by decide +kernel) (by decide +kernel)
theorem mw_435 : (Jvm.Cond.fieldLink "RulePlate$Put" (21 : Nat) "RulePlate$Put" "manyDown" "I") ∈ nm_T := nm_tb 435 (by decide +kernel) (by decide +kernel)
theorem k_X9_init5 {l : Launch} {D : va_G} {Y : nm_Y} {s0 : Nat} {X : va_W} {ad : Nat → Nat} {nl : List Nat} {C : nm_M} {q : Nat} {fs : List Value} (hfs : fs.length = 4) {x1 x2 x3 : Int32} :
    nm_Met l yX9_init cX9_init 4 none { frames := 1, cells := 0, slots := 0, locals := 12 } [.ref q, .int x1, .int x2, .int x3] D Y s0 (nm_W Y (X ++ [(q, .inr (4, fs))]) nl ad C) (nm_Qv D s0 (nm_W Y (X ++ [(q, .inr (4, ((fs.set 0 (.int x1)).set 1 (.int x2)).set 2 (.int x3)))]) nl ad C)) 0 0 := by
  refine mk_of (by decide) (Nat.le_of_ble_eq_true rfl) ?_
  intro p e R s m args below meth c Q ls hnm hx hb hr hlocks hml hown hts hs0 hK hZ hRf hRl hRc hRs hQ hP hD hl
  have hH : nm_H D Y (fun q => s0 ≤ q) s.heap (X ++ [(q, .inr (4, fs))]) nl ad C s.heap [] := ⟨hP, hD, va_S.rf⟩
  have hl : lv_has ls 4 [(0, .ref q), (1, .int x1), (2, .int x2), (3, .int x3)] := hl
  refine lv_aload_n hx hb dX9_init_0 rfl (lv_at hl 0 rfl) ?_
  refine W.objInit hx hb hown (hts _ mw_334) (hts _ mw_24) (hts _ mw_25) rfl (by rw [hml]; exact hl.1) rfl dX9_init_1 hRf hRl ?_
  refine W.eq (g2 := F0 m 4 ls []) rfl ?_
  refine lv_aload_n hx hb dX9_init_4 rfl (lv_at hl 0 rfl) ?_
  refine lv_iload_n hx hb dX9_init_5 rfl (lv_at hl 1 rfl) ?_
  refine mk_putF hx hb hts inX5 tyX5 tyX5_ok nmX5 hown hK hH rfl 0 (by decide) mw_338 (fun _ h9 => h9) rfl hnm rfl (ty := .int) rfl rfl rfl (by simp only [List.length_set, hfs]; decide) dX9_init_6 (fun H locs hH => ?_)
  refine lv_aload_n hx hb dX9_init_9 rfl (lv_at hl 0 rfl) ?_
  refine lv_iload_n hx hb dX9_init_10 rfl (lv_at hl 2 rfl) ?_
  refine mk_putF hx hb hts inX5 tyX5 tyX5_ok nmX5 hown hK hH rfl 1 (by decide) mw_343 (fun _ h9 => h9) rfl hnm rfl (ty := .int) rfl rfl rfl (by simp only [List.length_set, hfs]; decide) dX9_init_11 (fun H locs hH => ?_)
  refine lv_aload_n hx hb dX9_init_14 rfl (lv_at hl 0 rfl) ?_
  refine lv_iload_n hx hb dX9_init_15 rfl (lv_at hl 3 rfl) ?_
  refine mk_putF hx hb hts inX5 tyX5 tyX5_ok nmX5 hown hK hH rfl 2 (by decide) mw_349 (fun _ h9 => h9) rfl hnm rfl (ty := .int) rfl rfl rfl (by simp only [List.length_set, hfs]; decide) dX9_init_16 (fun H locs hH => ?_)
  exact nm_vret hx hb hr hlocks hQ hH rfl dX9_init_19
theorem k_X9_init6 {l : Launch} {D : va_G} {Y : nm_Y} {s0 : Nat} {X : va_W} {ad : Nat → Nat} {nl : List Nat} {C : nm_M} {q : Nat} {fs : List Value} (hfs : fs.length = 6) {x1 x2 x3 : Int32} :
    nm_Met l yX9_init cX9_init 4 none { frames := 1, cells := 0, slots := 0, locals := 12 } [.ref q, .int x1, .int x2, .int x3] D Y s0 (nm_W Y (X ++ [(q, .inr (5, fs))]) nl ad C) (nm_Qv D s0 (nm_W Y (X ++ [(q, .inr (5, ((fs.set 0 (.int x1)).set 1 (.int x2)).set 2 (.int x3)))]) nl ad C)) 0 0 := by
  refine mk_of (by decide) (Nat.le_of_ble_eq_true rfl) ?_
  intro p e R s m args below meth c Q ls hnm hx hb hr hlocks hml hown hts hs0 hK hZ hRf hRl hRc hRs hQ hP hD hl
  have hH : nm_H D Y (fun q => s0 ≤ q) s.heap (X ++ [(q, .inr (5, fs))]) nl ad C s.heap [] := ⟨hP, hD, va_S.rf⟩
  have hl : lv_has ls 4 [(0, .ref q), (1, .int x1), (2, .int x2), (3, .int x3)] := hl
  refine lv_aload_n hx hb dX9_init_0 rfl (lv_at hl 0 rfl) ?_
  refine W.objInit hx hb hown (hts _ mw_334) (hts _ mw_24) (hts _ mw_25) rfl (by rw [hml]; exact hl.1) rfl dX9_init_1 hRf hRl ?_
  refine W.eq (g2 := F0 m 4 ls []) rfl ?_
  refine lv_aload_n hx hb dX9_init_4 rfl (lv_at hl 0 rfl) ?_
  refine lv_iload_n hx hb dX9_init_5 rfl (lv_at hl 1 rfl) ?_
  refine mk_putF hx hb hts inX6 tyX6 tyX6_ok nmX6 hown hK hH rfl 0 (by decide) mw_338 (fun _ h9 => h9) rfl hnm rfl (ty := .int) rfl rfl rfl (by simp only [List.length_set, hfs]; decide) dX9_init_6 (fun H locs hH => ?_)
  refine lv_aload_n hx hb dX9_init_9 rfl (lv_at hl 0 rfl) ?_
  refine lv_iload_n hx hb dX9_init_10 rfl (lv_at hl 2 rfl) ?_
  refine mk_putF hx hb hts inX6 tyX6 tyX6_ok nmX6 hown hK hH rfl 1 (by decide) mw_343 (fun _ h9 => h9) rfl hnm rfl (ty := .int) rfl rfl rfl (by simp only [List.length_set, hfs]; decide) dX9_init_11 (fun H locs hH => ?_)
  refine lv_aload_n hx hb dX9_init_14 rfl (lv_at hl 0 rfl) ?_
  refine lv_iload_n hx hb dX9_init_15 rfl (lv_at hl 3 rfl) ?_
  refine mk_putF hx hb hts inX6 tyX6 tyX6_ok nmX6 hown hK hH rfl 2 (by decide) mw_349 (fun _ h9 => h9) rfl hnm rfl (ty := .int) rfl rfl rfl (by simp only [List.length_set, hfs]; decide) dX9_init_16 (fun H locs hH => ?_)
  exact nm_vret hx hb hr hlocks hQ hH rfl dX9_init_19
theorem k_X9_init7 {l : Launch} {D : va_G} {Y : nm_Y} {s0 : Nat} {X : va_W} {ad : Nat → Nat} {nl : List Nat} {C : nm_M} {q : Nat} {fs : List Value} (hfs : fs.length = 9) {x1 x2 x3 : Int32} :
    nm_Met l yX9_init cX9_init 4 none { frames := 1, cells := 0, slots := 0, locals := 12 } [.ref q, .int x1, .int x2, .int x3] D Y s0 (nm_W Y (X ++ [(q, .inr (6, fs))]) nl ad C) (nm_Qv D s0 (nm_W Y (X ++ [(q, .inr (6, ((fs.set 0 (.int x1)).set 1 (.int x2)).set 2 (.int x3)))]) nl ad C)) 0 0 := by
  refine mk_of (by decide) (Nat.le_of_ble_eq_true rfl) ?_
  intro p e R s m args below meth c Q ls hnm hx hb hr hlocks hml hown hts hs0 hK hZ hRf hRl hRc hRs hQ hP hD hl
  have hH : nm_H D Y (fun q => s0 ≤ q) s.heap (X ++ [(q, .inr (6, fs))]) nl ad C s.heap [] := ⟨hP, hD, va_S.rf⟩
  have hl : lv_has ls 4 [(0, .ref q), (1, .int x1), (2, .int x2), (3, .int x3)] := hl
  refine lv_aload_n hx hb dX9_init_0 rfl (lv_at hl 0 rfl) ?_
  refine W.objInit hx hb hown (hts _ mw_334) (hts _ mw_24) (hts _ mw_25) rfl (by rw [hml]; exact hl.1) rfl dX9_init_1 hRf hRl ?_
  refine W.eq (g2 := F0 m 4 ls []) rfl ?_
  refine lv_aload_n hx hb dX9_init_4 rfl (lv_at hl 0 rfl) ?_
  refine lv_iload_n hx hb dX9_init_5 rfl (lv_at hl 1 rfl) ?_
  refine mk_putF hx hb hts inX7 tyX7 tyX7_ok nmX7 hown hK hH rfl 0 (by decide) mw_338 (fun _ h9 => h9) rfl hnm rfl (ty := .int) rfl rfl rfl (by simp only [List.length_set, hfs]; decide) dX9_init_6 (fun H locs hH => ?_)
  refine lv_aload_n hx hb dX9_init_9 rfl (lv_at hl 0 rfl) ?_
  refine lv_iload_n hx hb dX9_init_10 rfl (lv_at hl 2 rfl) ?_
  refine mk_putF hx hb hts inX7 tyX7 tyX7_ok nmX7 hown hK hH rfl 1 (by decide) mw_343 (fun _ h9 => h9) rfl hnm rfl (ty := .int) rfl rfl rfl (by simp only [List.length_set, hfs]; decide) dX9_init_11 (fun H locs hH => ?_)
  refine lv_aload_n hx hb dX9_init_14 rfl (lv_at hl 0 rfl) ?_
  refine lv_iload_n hx hb dX9_init_15 rfl (lv_at hl 3 rfl) ?_
  refine mk_putF hx hb hts inX7 tyX7 tyX7_ok nmX7 hown hK hH rfl 2 (by decide) mw_349 (fun _ h9 => h9) rfl hnm rfl (ty := .int) rfl rfl rfl (by simp only [List.length_set, hfs]; decide) dX9_init_16 (fun H locs hH => ?_)
  exact nm_vret hx hb hr hlocks hQ hH rfl dX9_init_19
theorem hd_X9_init : nm_hd yX9_init 3 := by decide +kernel
theorem hd_X6_init : nm_hd yX6_init 3 := by decide +kernel
theorem hd_X5_init : nm_hd yX5_init 3 := by decide +kernel
theorem hd_X7_init : nm_hd yX7_init 4 := by decide +kernel
theorem k_X6_init {l : Launch} {D : va_G} {Y : nm_Y} {s0 : Nat} {X : va_W} {ad : Nat → Nat} {nl : List Nat} {N K : Nat → Nat} {M : cm} {q : Nat} {fs : List Value} (hfs : fs.length = 6) {x1 x2 x3 : Int32} :
    nm_Met l yX6_init cX6_init 4 none { frames := 2, cells := 0, slots := 0, locals := 35 } [.ref q, .int x1, .int x2, .int x3] D Y s0 (nm_W Y (X ++ [(q, .inr (5, fs))]) nl ad (M.1, M.2, N, K)) (nm_Qv D s0 (nm_W Y (X ++ [(q, .inr (5, ((fs.set 0 (.int x1)).set 1 (.int x2)).set 2 (.int x3)))]) nl ad (M.1, M.2, N, K))) 0 0 := by
  refine mk_of (by decide) (Nat.le_of_ble_eq_true rfl) ?_
  intro p e R s m args below meth c Q ls hnm hx hb hr hlocks hml hown hts hs0 hK hZ hRf hRl hRc hRs hQ hP hD hl
  have hH : nm_H D Y (fun q => s0 ≤ q) s.heap (X ++ [(q, .inr (5, fs))]) nl ad (M.1, M.2, N, K) s.heap [] := ⟨hP, hD, va_S.rf⟩
  have hl : lv_has ls 4 [(0, .ref q), (1, .int x1), (2, .int x2), (3, .int x3)] := hl
  refine lv_aload_n hx hb dX6_init_0 rfl (lv_at hl 0 rfl) ?_
  refine lv_iload_n hx hb dX6_init_1 rfl (lv_at hl 1 rfl) ?_
  refine lv_iload_n hx hb dX6_init_2 rfl (lv_at hl 2 rfl) ?_
  refine lv_iload_n hx hb dX6_init_3 rfl (lv_at hl 3 rfl) ?_
  refine nm_callv (mk_runI (X := X ++ [(q, .inr (5, fs))]) (nl := nl) (k_X9_init6 (D := D) (Y := Y) (s0 := s0) (X := X) (ad := ad) (nl := nl) (q := q) (C := (M.1, M.2, N, K)) hfs) hx hb hml hown hts hs0 hK hZ hH mw_333 mw_331 mw_332 mw_10 rfl hd_X9_init rfl rfl ⟨Nat.le_trans (Nat.le_of_ble_eq_true rfl) hRf, Nat.le_trans (Nat.le_of_ble_eq_true rfl) hRl⟩ rfl hl.1 rfl (Nat.le_of_ble_eq_true rfl) dX6_init_4 ⟨Nat.zero_le _, Nat.zero_le _⟩) hH (fun H locs hH => ?_)
  exact nm_vret hx hb hr hlocks hQ hH rfl dX6_init_7
theorem k_X5_init {l : Launch} {D : va_G} {Y : nm_Y} {s0 : Nat} {X : va_W} {ad : Nat → Nat} {nl : List Nat} {N K : Nat → Nat} {M : cm} (hL : cl_L nl K) (hN : cl_N N) {q : Nat} {fs : List Value} (hfs : fs.length = 4) {x1 x2 x3 : Int32} :
    nm_Met l yX5_init cX5_init 4 none { frames := 2, cells := 0, slots := 0, locals := 35 } [.ref q, .int x1, .int x2, .int x3] D Y s0 (nm_W Y (X ++ [(q, .inr (4, fs))]) nl ad (M.1, M.2, N, K)) (nm_Qv D s0 (nm_W Y (X ++ [(q, .inr (4, (((fs.set 0 (.int 3)).set 1 (.int x1)).set 2 (.int x2)).set 3 (.int (f_X5_pack x1 x2 x3))))]) nl ad (M.1, M.2, N, K))) 0 0 := by
  refine mk_of (by decide) (Nat.le_of_ble_eq_true rfl) ?_
  intro p e R s m args below meth c Q ls hnm hx hb hr hlocks hml hown hts hs0 hK hZ hRf hRl hRc hRs hQ hP hD hl
  have hH : nm_H D Y (fun q => s0 ≤ q) s.heap (X ++ [(q, .inr (4, fs))]) nl ad (M.1, M.2, N, K) s.heap [] := ⟨hP, hD, va_S.rf⟩
  have hl : lv_has ls 4 [(0, .ref q), (1, .int x1), (2, .int x2), (3, .int x3)] := hl
  refine lv_aload_n hx hb dX5_init_0 rfl (lv_at hl 0 rfl) ?_
  refine lv_iconst (v := 3) hx hb dX5_init_1 (by decide) ?_
  refine lv_iload_n hx hb dX5_init_2 rfl (lv_at hl 1 rfl) ?_
  refine lv_iload_n hx hb dX5_init_3 rfl (lv_at hl 2 rfl) ?_
  refine nm_callv (mk_runI (X := X ++ [(q, .inr (4, fs))]) (nl := nl) (k_X9_init5 (D := D) (Y := Y) (s0 := s0) (X := X) (ad := ad) (nl := nl) (q := q) (C := (M.1, M.2, N, K)) hfs) hx hb hml hown hts hs0 hK hZ hH mw_333 mw_407 mw_332 mw_10 rfl hd_X9_init rfl rfl ⟨Nat.le_trans (Nat.le_of_ble_eq_true rfl) hRf, Nat.le_trans (Nat.le_of_ble_eq_true rfl) hRl⟩ rfl hl.1 rfl (Nat.le_of_ble_eq_true rfl) dX5_init_4 ⟨Nat.zero_le _, Nat.zero_le _⟩) hH (fun H locs hH => ?_)
  refine lv_aload_n hx hb dX5_init_7 rfl (lv_at hl 0 rfl) ?_
  refine lv_iload_n hx hb dX5_init_8 rfl (lv_at hl 1 rfl) ?_
  refine lv_iload_n hx hb dX5_init_9 rfl (lv_at hl 2 rfl) ?_
  refine lv_iload_n hx hb dX5_init_10 rfl (lv_at hl 3 rfl) ?_
  refine nm_calli (nm_runS (X := X ++ [(q, .inr (4, ((fs.set 0 (.int 3)).set 1 (.int x1)).set 2 (.int x2)))]) (nl := nl) (k_X5_pack hL hN (hf := (rfl : f_X5_pack x1 x2 x3 = _))) hx hb hml hown hts hs0 hK hZ hH tw_410 mw_408 tw_409 tw_14 hd_X5_pack rfl rfl ⟨Nat.le_trans (Nat.le_of_ble_eq_true rfl) hRf, Nat.le_trans (Nat.le_of_ble_eq_true rfl) hRl⟩ rfl hl.1 rfl (Nat.le_of_ble_eq_true rfl) dX5_init_11 ⟨Nat.zero_le _, Nat.zero_le _⟩) hH (fun H locs hH => ?_)
  refine mk_putF hx hb hts inX5 tyX5 tyX5_ok nmX5 hown hK hH rfl 3 (by decide) mw_411 (fun _ h9 => h9) rfl hnm rfl (ty := .int) rfl rfl rfl (by simp only [List.length_set, hfs]; decide) dX5_init_14 (fun H locs hH => ?_)
  exact nm_vret hx hb hr hlocks hQ hH rfl dX5_init_17
theorem k_X7_init {l : Launch} {D : va_G} {Y : nm_Y} {s0 : Nat} {X : va_W} {ad : Nat → Nat} {nl : List Nat} {N K : Nat → Nat} {M : cm} {q : Nat} {fs : List Value} (hfs : fs.length = 9) {x1 x2 x3 x4 : Int32} (hx4 : narrow .boolean (.int x4) = .int x4 ∧ fits .boolean (.int x4) = true) :
    nm_Met l yX7_init cX7_init 5 none { frames := 2, cells := 0, slots := 0, locals := 35 } [.ref q, .int x1, .int x2, .int x3, .int x4] D Y s0 (nm_W Y (X ++ [(q, .inr (6, fs))]) nl ad (M.1, M.2, N, K)) (nm_Qv D s0 (nm_W Y (X ++ [(q, .inr (6, ((((((((fs.set 0 (.int 4)).set 1 (.int x1)).set 2 (.int x2)).set 5 (.int 0)).set 6 (.int 0)).set 7 (.int 1)).set 8 (.int 1)).set 3 (.int x3)).set 4 (.int x4)))]) nl ad (M.1, M.2, N, K))) 0 0 := by
  refine mk_of (by decide) (Nat.le_of_ble_eq_true rfl) ?_
  intro p e R s m args below meth c Q ls hnm hx hb hr hlocks hml hown hts hs0 hK hZ hRf hRl hRc hRs hQ hP hD hl
  have hH : nm_H D Y (fun q => s0 ≤ q) s.heap (X ++ [(q, .inr (6, fs))]) nl ad (M.1, M.2, N, K) s.heap [] := ⟨hP, hD, va_S.rf⟩
  have hl : lv_has ls 5 [(0, .ref q), (1, .int x1), (2, .int x2), (3, .int x3), (4, .int x4)] := hl
  refine lv_aload_n hx hb dX7_init_0 rfl (lv_at hl 0 rfl) ?_
  refine lv_iconst (v := 4) hx hb dX7_init_1 (by decide) ?_
  refine lv_iload_n hx hb dX7_init_2 rfl (lv_at hl 1 rfl) ?_
  refine lv_iload_n hx hb dX7_init_3 rfl (lv_at hl 2 rfl) ?_
  refine nm_callv (mk_runI (X := X ++ [(q, .inr (6, fs))]) (nl := nl) (k_X9_init7 (D := D) (Y := Y) (s0 := s0) (X := X) (ad := ad) (nl := nl) (q := q) (C := (M.1, M.2, N, K)) hfs) hx hb hml hown hts hs0 hK hZ hH mw_333 mw_428 mw_332 mw_10 rfl hd_X9_init rfl rfl ⟨Nat.le_trans (Nat.le_of_ble_eq_true rfl) hRf, Nat.le_trans (Nat.le_of_ble_eq_true rfl) hRl⟩ rfl hl.1 rfl (Nat.le_of_ble_eq_true rfl) dX7_init_4 ⟨Nat.zero_le _, Nat.zero_le _⟩) hH (fun H locs hH => ?_)
  refine lv_aload_n hx hb dX7_init_7 rfl (lv_at hl 0 rfl) ?_
  refine lv_iconst (v := 0) hx hb dX7_init_8 (by decide) ?_
  refine mk_put hx hb hts inX7 tyX7 tyX7_ok nmX7 hown hK hH rfl 5 (by decide) mw_431 (fun _ h9 => h9) rfl (ty := .int) rfl rfl rfl (by simp only [List.length_set, hfs]; decide) dX7_init_9 (fun H locs hH => ?_)
  refine lv_aload_n hx hb dX7_init_12 rfl (lv_at hl 0 rfl) ?_
  refine lv_iconst (v := 0) hx hb dX7_init_13 (by decide) ?_
  refine mk_put hx hb hts inX7 tyX7 tyX7_ok nmX7 hown hK hH rfl 6 (by decide) mw_432 (fun _ h9 => h9) rfl (ty := .int) rfl rfl rfl (by simp only [List.length_set, hfs]; decide) dX7_init_14 (fun H locs hH => ?_)
  refine lv_aload_n hx hb dX7_init_17 rfl (lv_at hl 0 rfl) ?_
  refine lv_iconst (v := 1) hx hb dX7_init_18 (by decide) ?_
  refine mk_put hx hb hts inX7 tyX7 tyX7_ok nmX7 hown hK hH rfl 7 (by decide) mw_433 (fun _ h9 => h9) rfl (ty := .int) rfl rfl rfl (by simp only [List.length_set, hfs]; decide) dX7_init_19 (fun H locs hH => ?_)
  refine lv_aload_n hx hb dX7_init_22 rfl (lv_at hl 0 rfl) ?_
  refine lv_iconst (v := 1) hx hb dX7_init_23 (by decide) ?_
  refine mk_put hx hb hts inX7 tyX7 tyX7_ok nmX7 hown hK hH rfl 8 (by decide) mw_435 (fun _ h9 => h9) rfl (ty := .int) rfl rfl rfl (by simp only [List.length_set, hfs]; decide) dX7_init_24 (fun H locs hH => ?_)
  refine lv_aload_n hx hb dX7_init_27 rfl (lv_at hl 0 rfl) ?_
  refine lv_iload_n hx hb dX7_init_28 rfl (lv_at hl 3 rfl) ?_
  refine mk_putF hx hb hts inX7 tyX7 tyX7_ok nmX7 hown hK hH rfl 3 (by decide) mw_429 (fun _ h9 => h9) rfl hnm rfl (ty := .int) rfl rfl rfl (by simp only [List.length_set, hfs]; decide) dX7_init_29 (fun H locs hH => ?_)
  refine lv_aload_n hx hb dX7_init_32 rfl (lv_at hl 0 rfl) ?_
  refine lv_iload hx hb dX7_init_33 (lv_at hl 4 rfl) ?_
  refine mk_putF hx hb hts inX7 tyX7 tyX7_ok nmX7 hown hK hH rfl 4 (by decide) mw_430 (fun _ h9 => h9) rfl hnm rfl (ty := .boolean) rfl hx4.1 hx4.2 (by simp only [List.length_set, hfs]; decide) dX7_init_35 (fun H locs hH => ?_)
  exact nm_vret hx hb hr hlocks hQ hH rfl dX7_init_38
theorem k_X6_reach {l : Launch} {D : va_G} {Y : nm_Y} {s0 : Nat} {X : va_W} {ad : Nat → Nat} {nl : List Nat} {N K : Nat → Nat} {M : cm} (hL : cl_L nl K) (hN : cl_N N) {q : Nat} {fs : List Value} (hfs : fs.length = 6) {x1 x2 x3 x4 : Int32} :
    nm_Met l yX6_reach cX6_reach 7 none { frames := 1, cells := 0, slots := 0, locals := 21 } [.ref q, .int x1, .int x2, .int x3, .int x4] D Y s0 (nm_W Y (X ++ [(q, .inr (5, fs))]) nl ad (M.1, M.2, N, K)) (nm_Qv D s0 (nm_W Y (X ++ [(q, .inr (5, ((fs.set 3 (.int (nm_max x2 0))).set 4 (.int (nm_min x4 63))).set 5 (.long (f_X0_span (nm_max x1 0) (nm_min x3 63 - nm_max x1 0 + 1)))))]) nl ad (M.1, M.2, N, K))) 0 0 := by
  refine mk_of (by decide) (Nat.le_of_ble_eq_true rfl) ?_
  intro p e R s m args below meth c Q ls hnm hx hb hr hlocks hml hown hts hs0 hK hZ hRf hRl hRc hRs hQ hP hD hl
  have hH : nm_H D Y (fun q => s0 ≤ q) s.heap (X ++ [(q, .inr (5, fs))]) nl ad (M.1, M.2, N, K) s.heap [] := ⟨hP, hD, va_S.rf⟩
  have hl : lv_has ls 7 [(0, .ref q), (1, .int x1), (2, .int x2), (3, .int x3), (4, .int x4)] := hl
  refine lv_iload_n hx hb dX6_reach_0 rfl (lv_at hl 1 rfl) ?_
  refine lv_iconst (v := 0) hx hb dX6_reach_1 (by decide) ?_
  refine nm_mmax hx hb (hml.trans hl.1.symm) hown hts mw_370 (Nat.le_trans (Nat.le_of_ble_eq_true rfl) hRf) (Nat.le_trans (Nat.le_of_ble_eq_true rfl) hRl) (Nat.zero_le _) (Nat.zero_le _) dX6_reach_2 ?_
  refine lv_istore (lv' := [(5, .int (nm_max x1 0)), (0, .ref q), (1, .int x1), (2, .int x2), (3, .int x3), (4, .int x4)]) hx hb dX6_reach_5 hl (by decide) rfl (fun ls hl => ?_)
  refine lv_iload_n hx hb dX6_reach_7 rfl (lv_at hl 4 rfl) ?_
  refine lv_bipush (v := 63) hx hb dX6_reach_8 (by decide) ?_
  refine nm_mmin hx hb (hml.trans hl.1.symm) hown hts mw_373 (Nat.le_trans (Nat.le_of_ble_eq_true rfl) hRf) (Nat.le_trans (Nat.le_of_ble_eq_true rfl) hRl) (Nat.zero_le _) (Nat.zero_le _) dX6_reach_10 ?_
  refine lv_istore (lv' := [(6, .int (nm_min x3 63)), (5, .int (nm_max x1 0)), (0, .ref q), (1, .int x1), (2, .int x2), (3, .int x3), (4, .int x4)]) hx hb dX6_reach_13 hl (by decide) rfl (fun ls hl => ?_)
  refine lv_aload_n hx hb dX6_reach_15 rfl (lv_at hl 2 rfl) ?_
  refine lv_iload_n hx hb dX6_reach_16 rfl (lv_at hl 4 rfl) ?_
  refine lv_iconst (v := 0) hx hb dX6_reach_17 (by decide) ?_
  refine nm_mmax hx hb (hml.trans hl.1.symm) hown hts mw_370 (Nat.le_trans (Nat.le_of_ble_eq_true rfl) hRf) (Nat.le_trans (Nat.le_of_ble_eq_true rfl) hRl) (Nat.zero_le _) (Nat.zero_le _) dX6_reach_18 ?_
  refine mk_put hx hb hts inX6 tyX6 tyX6_ok nmX6 hown hK hH rfl 3 (by decide) mw_335 (fun _ h9 => h9) rfl (ty := .int) rfl rfl rfl (by simp only [List.length_set, hfs]; decide) dX6_reach_21 (fun H locs hH => ?_)
  refine lv_aload_n hx hb dX6_reach_24 rfl (lv_at hl 2 rfl) ?_
  refine lv_iload hx hb dX6_reach_25 (lv_at hl 6 rfl) ?_
  refine lv_bipush (v := 63) hx hb dX6_reach_27 (by decide) ?_
  refine nm_mmin hx hb (hml.trans hl.1.symm) hown hts mw_373 (Nat.le_trans (Nat.le_of_ble_eq_true rfl) hRf) (Nat.le_trans (Nat.le_of_ble_eq_true rfl) hRl) (Nat.zero_le _) (Nat.zero_le _) dX6_reach_29 ?_
  refine mk_put hx hb hts inX6 tyX6 tyX6_ok nmX6 hown hK hH rfl 4 (by decide) mw_336 (fun _ h9 => h9) rfl (ty := .int) rfl rfl rfl (by simp only [List.length_set, hfs]; decide) dX6_reach_32 (fun H locs hH => ?_)
  refine lv_aload_n hx hb dX6_reach_35 rfl (lv_at hl 2 rfl) ?_
  refine lv_iload hx hb dX6_reach_36 (lv_at hl 1 rfl) ?_
  refine lv_iload hx hb dX6_reach_38 (lv_at hl 0 rfl) ?_
  refine lv_iload hx hb dX6_reach_40 (lv_at hl 1 rfl) ?_
  refine lv_isub hx hb dX6_reach_42 ?_
  refine lv_iconst (v := 1) hx hb dX6_reach_43 (by decide) ?_
  refine lv_iadd hx hb dX6_reach_44 ?_
  refine nm_calll (nm_runS (X := X ++ [(q, .inr (5, (fs.set 3 (.int (nm_max x2 0))).set 4 (.int (nm_min x4 63))))]) (nl := nl) (k_X0_span hL hN (hf := (rfl : f_X0_span (nm_max x1 0) (nm_min x3 63 - nm_max x1 0 + 1) = _))) hx hb hml hown hts hs0 hK hZ hH tw_378 mw_376 tw_377 tw_13 hd_X0_span rfl rfl ⟨Nat.le_trans (Nat.le_of_ble_eq_true rfl) hRf, Nat.le_trans (Nat.le_of_ble_eq_true rfl) hRl⟩ rfl hl.1 rfl (Nat.le_of_ble_eq_true rfl) dX6_reach_45 ⟨Nat.zero_le _, Nat.zero_le _⟩) hH (fun H locs hH => ?_)
  refine mk_put hx hb hts inX6 tyX6 tyX6_ok nmX6 hown hK hH rfl 5 (by decide) mw_337 (fun _ h9 => h9) rfl (ty := .long) rfl rfl rfl (by simp only [List.length_set, hfs]; decide) dX6_reach_48 (fun H locs hH => ?_)
  exact nm_vret hx hb hr hlocks hQ hH rfl dX6_reach_51
