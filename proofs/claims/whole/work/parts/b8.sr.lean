theorem mw_33 : (Jvm.Cond.methodLink "RulePlate$Drawing" (3 : Nat) ({ cls := "java/lang/Object", name := "<init>", desc := "()V" } : Jvm.MethodName)) ∈ nm_T := nm_tb 33 (by decide +kernel) (by decide +kernel)
theorem mw_34 : (Jvm.Cond.classLink "RulePlate$Drawing" (36 : Nat) "RulePlate$Groups") ∈ nm_T := nm_tb 34 (by decide +kernel) (by decide +kernel)
theorem mw_35 : (Jvm.Cond.instantiable "RulePlate$Groups" (9 : Nat)) ∈ nm_T := nm_tb 35 (by decide +kernel) (by decide +kernel)
theorem mw_36 : (Jvm.Cond.methodLink "RulePlate$Drawing" (38 : Nat) ({ cls := "RulePlate$Groups", name := "<init>", desc := "(I)V" } : Jvm.MethodName)) ∈ nm_T := nm_tb 36 (by decide +kernel) (by decide +kernel)
theorem mw_37 : (Jvm.Cond.instanceMethod ({ cls := "RulePlate$Groups", name := "<init>", desc := "(I)V" } : Jvm.MethodName)) ∈ nm_T := nm_tb 37 (by decide +kernel) (by decide +kernel)
theorem mw_38 : (Jvm.Cond.code ({ cls := "RulePlate$Groups", name := "<init>", desc := "(I)V" } : Jvm.MethodName) prog_6_method_1_code (2 : Nat) (Option.none : Option Jvm.ClassFile.FieldType)) ∈ nm_T := nm_tb 38 (by decide +kernel) (by decide +kernel)
theorem mw_80 : (Jvm.Cond.methodLink "RulePlate$Drawing" (45 : Nat) ({ cls := "java/util/Arrays", name := "fill", desc := "([II)V" } : Jvm.MethodName)) ∈ nm_T := nm_tb 80 (by decide +kernel) (by decide +kernel)
theorem mw_165 : (Jvm.Cond.methodLink "RulePlate$Circuit" (3 : Nat) ({ cls := "java/lang/Object", name := "<init>", desc := "()V" } : Jvm.MethodName)) ∈ nm_T := nm_tb 165 (by decide +kernel) (by decide +kernel)
theorem mw_166 : (Jvm.Cond.classLink "RulePlate$Circuit" (25 : Nat) "RulePlate$Groups") ∈ nm_T := nm_tb 166 (by decide +kernel) (by decide +kernel)
theorem mw_167 : (Jvm.Cond.methodLink "RulePlate$Circuit" (27 : Nat) ({ cls := "RulePlate$Groups", name := "<init>", desc := "(I)V" } : Jvm.MethodName)) ∈ nm_T := nm_tb 167 (by decide +kernel) (by decide +kernel)
theorem mw_172 : (Jvm.Cond.fieldLink "RulePlate$Circuit" (18 : Nat) "RulePlate$Circuit" "found" "Z") ∈ nm_T := nm_tb 172 (by decide +kernel) (by decide +kernel)
theorem mw_259 : (Jvm.Cond.methodLink "RulePlate$Cell" (3 : Nat) ({ cls := "java/lang/Object", name := "<init>", desc := "()V" } : Jvm.MethodName)) ∈ nm_T := nm_tb 259 (by decide +kernel) (by decide +kernel)
theorem mw_260 : (Jvm.Cond.classLink "RulePlate$Cell" (9 : Nat) "RulePlate$Shape") ∈ nm_T := nm_tb 260 (by decide +kernel) (by decide +kernel)
theorem mw_1196 : (Jvm.Cond.arrayClass Jvm.ClassFile.FieldType.boolean) ∈ nm_T := nm_tb 1196 (by decide +kernel) (by decide +kernel)
/-! constructors, over worlds as lists: arrays of objects, nested constructors -/
section RW5
variable {p : Program} {l : Launch} {e : Env} {R : Room} {s : State} {m : MethodId} {args : Array Value} {below : List Frame} {meth : Method} {c : Code} {H : Heap} {locs : List Loc} {cells slots : Nat} {Q : State → Prop}
variable {cc : ByteArray} {pc : Nat} {ls : Array Slot} {rest : List Value}
variable {D : va_G} {Y : nm_Y} {X L : va_W} {s0 : Nat} {H0 : Heap}
theorem rw_sameZ {cA : ClassId} (hK : nm_K D Y s) (hK2 : va_K D vwCl (nm_ty Y ++ [(cA, .boolean)]) s) : cA = Y.2.2.1 := by
  have h1 : s.vm.findClass ("[" ++ FieldType.boolean.toString) = some cA := (hK2.2 5 (cA, .boolean) rfl).2
  have h2 : s.vm.findClass ("[" ++ FieldType.boolean.toString) = some Y.2.2.1 := (hK.2 2 (Y.2.2.1, .boolean) rfl).2
  exact Option.some.inj (h1.symm.trans h2)
theorem rw_newZ (hx : p.tables.exec = Jvm.exec) (hb : c.code = cc) (hts : ∀ w ∈ nm_T, w.before args s = true) (hs0 : s0 ≤ s.heap.size) (hK : nm_K D Y s) (hH : rw_H D s0 s.heap (X ++ L) H locs) {n : Int32} {N' : Nat} (hn : ¬ n < 0) (hN : n.toNatClampNeg = N') (hbytes : N' * 1 ≤ 536870912) (hcells : cells + 1 ≤ R.cells) (hslots : slots + N' ≤ R.slots) (hdg : decode cc pc = .ok (.newarray .boolean, 2))
    (kk : ∀ (q : Nat) (H : Heap), rw_H D s0 s.heap (X ++ (L ++ [(q, .inl (Y.2.2.1, N', .inl (fun _ => 0)))])) H locs → W p l e R s m args below meth c H locs (cells + 1) (slots + N') Q (F0 m (pc + 2) ls (.ref q :: rest))) : W p l e R s m args below meth c H locs cells slots Q (F0 m pc ls (.int n :: rest)) := by
  refine va_newa (atype := .boolean) hx hb (hts _ mw_1196) rfl hK hH.1 hH.2.1 hH.2.2 (fun q h => Nat.le_trans hs0 h) (a0 := (N', .inl (fun _ => 0))) (fun cA => rfl) hn hN hbytes hcells hslots hdg (fun q cA H1 hK2 hP2 hD2 hS2 => ?_)
  have e1 := rw_sameZ hK hK2
  subst e1
  rw [List.append_assoc] at hP2 hD2
  exact kk q H1 ⟨hP2, hD2, hS2⟩
theorem rw_pre {ws : va_W} (hK : nm_K D Y s) (hZ : nm_Z s) (hs0 : s0 ≤ s.heap.size) (hH : rw_H D s0 s.heap ws H locs) (av : List Value) : ∀ U : State, U.heap = H → s.WarmedH U.vm → va_Pc av (nm_B D Y s0 ws) av.toArray U := by
  intro U hU hW
  exact ⟨rfl, by rw [hU]; exact Nat.le_trans hs0 hH.2.2.1, by rw [hU]; exact hH.1, va_K.moved hW.alike hK, nm_Z.warm hW hZ, hH.2.1⟩
theorem rw_runI {y : MethodName} {bytes : ByteArray} {maxL nL n index mc ms b : Nat} {rm : Room} {As st : List Value} {own : String} {ws : va_W} {Qc : Array Value → State → Outcome → State → Prop}
    (hM : nm_Met l y bytes maxL none rm (.ref b :: As) D Y s0 ws Qc mc ms) (hx : p.tables.exec = Jvm.exec) (hb : c.code = cc) (hml : c.maxLocals = nL) (hown : s.vm.findClass own = some m.cls) (hts : ∀ w ∈ nm_T, w.before args s = true) (hs0 : s0 ≤ s.heap.size) (hK : nm_K D Y s) (hZ : nm_Z s) (hH : rw_H D s0 s.heap ws H locs)
    (hcd : Cond.code y bytes maxL none ∈ nm_T) (hlk : Cond.methodLink own index y ∈ nm_T) (him : Cond.instanceMethod y ∈ nm_T) (hin : Cond.initialized y.cls ∈ nm_T) (hy : y.name = "<init>") (hd : nm_hd y n)
    (hrc : rm.cells = mc) (hrs : rm.slots = ms) (hR : rm.frames + 1 ≤ R.frames ∧ 8 + (maxL + 11) + rm.locals ≤ R.locals) (hlen : As.length = n) (hsz : ls.size = nL) (hst : st = As.reverse ++ .ref b :: rest) (hW8 : (rest.map fun v => v.category).sum ≤ 8) (hdg : decode cc pc = .ok (.invokespecial index, 3)) (hf : cells + mc ≤ R.cells ∧ slots + ms ≤ R.slots) :
    va_Run p l e R s m args below meth c H locs cells slots mc ms (F0 m pc ls st) rest (Qc (Value.ref b :: As).toArray) (fun q => s0 ≤ q) := by
  refine va_runI (own := own) (Ts := nm_T) (n := n) (bytes := bytes) (maxL := maxL) (ws := Cond.code y bytes maxL none :: nm_T) ⟨hx, hb, hml, hown, hts⟩ hM ?_ ⟨nm_B.blind, rw_pre hK hZ hs0 hH _⟩ rfl hlen hsz hst (lv_room hW8) hdg hf
  exact cwI n hts (nm_gd (fun _ h => h) hcd) rfl hrc hrs (hts _ hin) (hts _ hlk) (hts _ him) hy hd hR
theorem rw_callv {mc ms : Nat} {Wd : (Nat → Nat) → va_W} {ws : va_W} {st : List Value} {a : Array Value} (hrun : va_Run p l e R s m args below meth c H locs cells slots mc ms (F0 m pc ls st) rest (rw_Q D s0 Wd a) (fun q => s0 ≤ q)) (hH : rw_H D s0 s.heap ws H locs)
    (kk : ∀ (u : Nat → Nat) (H : Heap) (locs : List Loc), rw_H D s0 s.heap (Wd u) H locs → W p l e R s m args below meth c H locs (cells + mc) (slots + ms) Q (F0 m (pc + 3) ls rest)) : W p l e R s m args below meth c H locs cells slots Q (F0 m pc ls st) := by
  refine va_callv hrun hH.2.2 (fun q _ h => h) (fun q h => h) (fun u t H1 locs1 ht hvm hp hB hz1 hk1 hS1 => ?_)
  have hB2 : nm_R D s0 (Wd u) t := hB
  exact kk u H1 locs1 ⟨by rw [← ht]; exact hB2.1, hB2.2, hS1⟩
theorem rw_new (hx : p.tables.exec = Jvm.exec) (hb : c.code = cc) {own CC : String} {T : u_T} {N ci index : Nat} (hts : ∀ w ∈ nm_T, w.before args s = true) (hin : ∀ w ∈ u_ws CC T N, w ∈ nm_T) (ty : Nat → FieldType) (hty : ∀ k, k < N → parseFieldDescriptor (T k).2.2.1 = some (ty k)) (hown : s.vm.findClass own = some m.cls) (hcl : Cond.classLink own index CC ∈ nm_T) (hinst : Cond.instantiable CC N ∈ nm_T) (hini : Cond.initialized CC ∈ nm_T) (hK : nm_K D Y s) (hs0 : s0 ≤ s.heap.size) {ws : va_W} (hH : rw_H D s0 s.heap ws H locs) (hc : vwCl[ci]? = some (CC, T, N)) {fs : List Value} (hfs : ∀ j, j < N → defaultValue (ty j) = vp_V fs j) (hcells : cells + 1 ≤ R.cells) (hslots : slots + N ≤ R.slots) (hdg : decode cc pc = .ok (.new index, 3))
    (kk : ∀ (q : Nat) (H : Heap), rw_H D s0 s.heap (ws ++ [(q, .inr (ci, fs))]) H locs → W p l e R s m args below meth c H locs (cells + 1) (slots + N) Q (F0 m (pc + 3) ls (.ref q :: rest))) : W p l e R s m args below meth c H locs cells slots Q (F0 m pc ls rest) := by
  refine va_new hx hb hts hin ty hty hown (hts _ hcl) (hts _ hinst) (hts _ hini) hK hH.1 hH.2.1 hH.2.2 (fun q h => Nat.le_trans hs0 h) hc hfs hcells hslots hdg (fun q H1 hP1 hD1 hS1 => kk q H1 ⟨hP1, hD1, hS1⟩)
theorem rw_newQ (hx : p.tables.exec = Jvm.exec) (hb : c.code = cc) {own C : String} {index t0 : Nat} (hown : s.vm.findClass own = some m.cls) (hts : ∀ w ∈ nm_T, w.before args s = true) (hcl : Cond.classLink own index C ∈ nm_T) (hao : va_AO C s) (hs0 : s0 ≤ s.heap.size) (hK : nm_K D Y s) {cY : ClassId} (ht0 : (nm_ty Y)[t0]? = some (cY, .object C)) (hH : rw_H D s0 s.heap (X ++ L) H locs) {n : Int32} {N' : Nat} (hn : ¬ n < 0) (hN : n.toNatClampNeg = N') (hbytes : N' * 4 ≤ 536870912) (hcells : cells + 1 ≤ R.cells) (hslots : slots + N' ≤ R.slots) (hdg : decode cc pc = .ok (.anewarray index, 3))
    (kk : ∀ (q : Nat) (H : Heap), rw_H D s0 s.heap (X ++ (L ++ [(q, .inl (cY, N', .inr (.inr (.inr (.inr (fun _ => none))))))])) H locs → W p l e R s m args below meth c H locs (cells + 1) (slots + N') Q (F0 m (pc + 3) ls (.ref q :: rest))) : W p l e R s m args below meth c H locs cells slots Q (F0 m pc ls (.int n :: rest)) := by
  refine va_newq hx hb hown (hts _ hcl) hao hK hH.1 hH.2.1 hH.2.2 (fun q h => Nat.le_trans hs0 h) hn hN hbytes hcells hslots hdg (fun q cA H1 hK2 hP2 hD2 hS2 => ?_)
  have e1 : cA = cY := by
    have h3 : (nm_ty Y ++ [(cA, FieldType.object C)])[5]? = some (cA, .object C) := rfl
    obtain ⟨k1, k2, -, -, -, h1⟩ := (hK2.2 5 _ h3).2
    obtain ⟨k3, k4, -, -, -, h2⟩ := (hK.2 t0 _ ht0).2
    exact Option.some.inj (h1.symm.trans h2)
  subst e1
  rw [List.append_assoc] at hP2 hD2
  exact kk q H1 ⟨hP2, hD2, hS2⟩
theorem rw_getk {k : Nat} {x : Nat × va_E} (h : L[k]? = some x) : (X ++ L)[X.length + k]? = some x := by
  rw [List.getElem?_append_right (Nat.le_add_right _ _), Nat.add_sub_cancel_left]
  exact h
theorem rw_setk {k : Nat} {y : Nat × va_E} : (X ++ L).set (X.length + k) y = X ++ L.set k y := by
  rw [List.set_append_right _ _ (Nat.le_add_right _ _), Nat.add_sub_cancel_left]
def rw_m (n : Nat) : Nat → Int32 := fun j => if j < n then -1 else 0
theorem rw_m0 : rw_m 0 = fun _ => 0 := by
  funext j
  unfold rw_m
  rw [if_neg (Nat.not_lt_zero j)]
theorem rw_mup {i : Nat} : upd (rw_m i) i (-1) = rw_m (i + 1) := by
  funext j
  unfold rw_m upd
  by_cases h : j = i
  · subst h
    simp
  · by_cases h2 : j < i
    · simp [h, h2, show j < i + 1 by omega]
    · simp [h, h2, show ¬ j < i + 1 by omega]
theorem rw_iast (hx : p.tables.exec = Jvm.exec) (hb : c.code = cc) (hK : nm_K D Y s) {a k n i : Nat} (hL : L[k]? = some (a, .inl (Y.1, n, .inl (fun _ => 0)))) (hH : rw_H D s0 H0 (X ++ L.set k (a, .inl (Y.1, n, .inl (rw_m i)))) H locs) (hi : i < n) (hn : n < 1000) (hdg : decode cc pc = .ok (.iastore, 1))
    (kk : ∀ (H1 : Heap) (locs1 : List Loc), rw_H D s0 H0 (X ++ L.set k (a, .inl (Y.1, n, .inl (rw_m (i + 1))))) H1 locs1 → W p l e R s m args below meth c H1 locs1 cells slots Q (F0 m (pc + 1) ls rest)) : W p l e R s m args below meth c H locs cells slots Q (F0 m pc ls (.int (-1) :: .int (zI (i : Int)) :: .ref a :: rest)) := by
  have hkl : k < L.length := (List.getElem?_eq_some_iff.mp hL).1
  have hg : (L.set k (a, .inl (Y.1, n, .inl (rw_m i))))[k]? = some (a, .inl (Y.1, n, .inl (rw_m i))) := by rw [List.getElem?_set_self hkl]
  have hcl : (zI (i : Int)).toNatClampNeg = i := by rw [zI_cl (by omega) (by omega)]; omega
  have hin : vp_in (zI (i : Int)) n := by
    intro q
    rcases q with q | q
    · rw [show (0 : Int32) = zI 0 from rfl, zI_lt (by omega) (by omega) (by omega) (by omega)] at q
      omega
    · rw [hcl] at q
      omega
  refine va_iast hx hb hK hH.1 hH.2.1 hH.2.2 (X.length + k) 0 (rw_getk hg) rfl hin hdg (fun H1 locs1 hP1 hD1 hS1 => kk H1 locs1 ?_)
  rw [hcl, rw_mup, rw_setk, List.set_set] at hP1 hD1
  exact ⟨hP1, hD1, hS1⟩
theorem rw_runS {y : MethodName} {bytes : ByteArray} {maxL nL n index mc ms : Nat} {ret : Option FieldType} {rm : Room} {As st : List Value} {own : String} {ws : va_W} {Qc : Array Value → State → Outcome → State → Prop}
    (hM : nm_Met l y bytes maxL ret rm As D Y s0 ws Qc mc ms) (hx : p.tables.exec = Jvm.exec) (hb : c.code = cc) (hml : c.maxLocals = nL) (hown : s.vm.findClass own = some m.cls) (hts : ∀ w ∈ nm_T, w.before args s = true) (hs0 : s0 ≤ s.heap.size) (hK : nm_K D Y s) (hZ : nm_Z s) (hH : rw_H D s0 s.heap ws H locs)
    (hcd : Cond.code y bytes maxL ret ∈ nm_T) (hlk : Cond.methodLink own index y ∈ nm_T) (hse : Cond.static y ∈ nm_T) (hin : Cond.initialized y.cls ∈ nm_T) (hd : nm_hd y n)
    (hrc : rm.cells = mc) (hrs : rm.slots = ms) (hR : rm.frames + 1 ≤ R.frames ∧ 8 + (maxL + 11) + rm.locals ≤ R.locals) (hlen : As.length = n) (hsz : ls.size = nL) (hst : st = As.reverse ++ rest) (hW8 : (rest.map fun v => v.category).sum ≤ 8) (hdg : decode cc pc = .ok (.invokestatic index, 3)) (hf : cells + mc ≤ R.cells ∧ slots + ms ≤ R.slots) :
    va_Run p l e R s m args below meth c H locs cells slots mc ms (F0 m pc ls st) rest (Qc As.toArray) (fun q => s0 ≤ q) := by
  refine va_runS (own := own) (Ts := nm_T) (n := n) (bytes := bytes) (maxL := maxL) (ret := ret) (ws := Cond.code y bytes maxL ret :: nm_T) ⟨hx, hb, hml, hown, hts⟩ hM ?_ ⟨nm_B.blind, rw_pre hK hZ hs0 hH _⟩ rfl hlen hsz hst (lv_room hW8) hdg hf
  refine va_cwS n hts ?_ rfl hrc hrs hd hR
  intro w hw
  unfold va_wsS at hw
  rcases List.mem_append.mp hw with h | h
  · have hw' : w ∈ nm_T := by
      simp only [List.mem_cons, List.not_mem_nil, or_false] at h
      rcases h with h | h | h <;> subst h <;> assumption
    exact ⟨hw', good_of_word (List.mem_filter.mp hw').2⟩
  · exact nm_gd (fun _ h => h) hcd w h
theorem rw_runIN {y : MethodName} {bytes : ByteArray} {maxL nL n index mc ms b : Nat} {rm : Room} {As st : List Value} {own host : String} {ws : va_W} {Qc : Array Value → State → Outcome → State → Prop}
    (hM : nm_Met l y bytes maxL none rm (.ref b :: As) D Y s0 ws Qc mc ms) (hx : p.tables.exec = Jvm.exec) (hb : c.code = cc) (hml : c.maxLocals = nL) (hown : s.vm.findClass own = some m.cls) (hts : ∀ w ∈ nm_T, w.before args s = true) (hs0 : s0 ≤ s.heap.size) (hK : nm_K D Y s) (hZ : nm_Z s) (hH : rw_H D s0 s.heap ws H locs)
    (hcd : Cond.code y bytes maxL none ∈ nm_T) (hlk : va_Nw (.methodLinkNest own index y host) s) (him : Cond.instanceMethod y ∈ nm_T) (hin : Cond.initialized y.cls ∈ nm_T) (hy : y.name = "<init>") (hd : nm_hd y n)
    (hrc : rm.cells = mc) (hrs : rm.slots = ms) (hR : rm.frames + 1 ≤ R.frames ∧ 8 + (maxL + 11) + rm.locals ≤ R.locals) (hlen : As.length = n) (hsz : ls.size = nL) (hst : st = As.reverse ++ .ref b :: rest) (hW8 : (rest.map fun v => v.category).sum ≤ 8) (hdg : decode cc pc = .ok (.invokespecial index, 3)) (hf : cells + mc ≤ R.cells ∧ slots + ms ≤ R.slots) :
    va_Run p l e R s m args below meth c H locs cells slots mc ms (F0 m pc ls st) rest (Qc (Value.ref b :: As).toArray) (fun q => s0 ≤ q) := by
  exact va_runIN (own := own) (Ts := nm_T) (n := n) (bytes := bytes) (maxL := maxL) (ws := Cond.code y bytes maxL none :: nm_T) ⟨hx, hb, hml, hown, hts⟩ hM ⟨va_cnB n hts (nm_gd (fun _ h => h) hcd) rfl hrc hrs hlk (hts _ hin) hd hR, hy, hts _ him⟩ ⟨nm_B.blind, rw_pre hK hZ hs0 hH _⟩ rfl hlen hsz hst (lv_room hW8) hdg hf
theorem rw_astq (hx : p.tables.exec = Jvm.exec) (hb : c.code = cc) (hK : nm_K D Y s) {a k kv n ci v t0 : Nat} {r : vw_C} {vs : List Value} {cA : ClassId} {f : Nat → Option Nat} (hL : L[k]? = some (a, .inl (cA, n, .inr (.inr (.inr (.inr f)))))) (ht0 : (nm_ty Y)[t0]? = some (cA, .object r.1)) (hv : L[kv]? = some (v, .inr (ci, vs))) (hc : vwCl[ci]? = some r) (hH : rw_H D s0 H0 (X ++ L) H locs) {i : Int32} {i' : Nat} (hi : i.toNatClampNeg = i') (hin : vp_in i n) (hdg : decode cc pc = .ok (.aastore, 1))
    (kk : ∀ (H1 : Heap) (locs1 : List Loc), rw_H D s0 H0 (X ++ L.set k (a, .inl (cA, n, .inr (.inr (.inr (.inr (va_up f i' (some v)))))))) H1 locs1 → W p l e R s m args below meth c H1 locs1 cells slots Q (F0 m (pc + 1) ls rest)) : W p l e R s m args below meth c H locs cells slots Q (F0 m pc ls (.ref v :: .int i :: .ref a :: rest)) := by
  subst hi
  refine va_astq hx hb hK hH.1 hH.2.1 hH.2.2 (X.length + k) t0 (X.length + kv) ci (rw_getk hL) ht0 (rw_getk hv) hc hin hdg (fun H1 locs1 hP1 hD1 hS1 => kk H1 locs1 ?_)
  rw [rw_setk] at hP1 hD1
  exact ⟨hP1, hD1, hS1⟩
end RW5
abbrev rw_I (Y : nm_Y) (n : Nat) : va_E := .inl (Y.1, n, .inl (fun _ => 0))
abbrev rw_J (Y : nm_Y) (n : Nat) : va_E := .inl (Y.2.1, n, .inr (.inl (fun _ => 0)))
abbrev rw_Z (Y : nm_Y) (n : Nat) : va_E := .inl (Y.2.2.1, n, .inl (fun _ => 0))
abbrev rw_C (Y : nm_Y) (n : Nat) (f : Nat → Option Nat) : va_E := .inl (Y.2.2.2.1, n, .inr (.inr (.inr (.inr f))))
abbrev rw_S (Y : nm_Y) (n : Nat) (f : Nat → Option Nat) : va_E := .inl (Y.2.2.2.2, n, .inr (.inr (.inr (.inr f))))
abbrev rw_M (Y : nm_Y) (n : Nat) : va_E := .inl (Y.1, n, .inl (rw_m n))
theorem rw_Happ {D : va_G} {X L L2 : va_W} {s0 : Nat} {H0 H : Heap} {locs : List Loc} (h : rw_H D s0 H0 ((X ++ L) ++ L2) H locs) : rw_H D s0 H0 (X ++ (L ++ L2)) H locs := by
  rw [List.append_assoc] at h
  exact h
theorem rw_gf {p : Program} {l : Launch} {e : Env} {R : Room} {s : State} {m : MethodId} {args : Array Value} {below : List Frame} {meth : Method} {c : Code} {H : Heap} {locs : List Loc} {cells slots : Nat} {Q : State → Prop} {cc : ByteArray} {pc : Nat} {ls : Array Slot} {rest : List Value} {D : va_G} {Y : nm_Y} {X L : va_W} {s0 : Nat} {H0 : Heap} (hx : p.tables.exec = Jvm.exec) (hb : c.code = cc) {own ref CC : String} {T : u_T} {N ci index : Nat} (hts : ∀ w ∈ nm_T, w.before args s = true) (hin : ∀ w ∈ u_ws CC T N, w ∈ nm_T) (hown : s.vm.findClass own = some m.cls) (hK : nm_K D Y s) {q : Nat} {fs : List Value} (hH : rw_H D s0 H0 (X ++ ((q, .inr (ci, fs)) :: L)) H locs) (hc : vwCl[ci]? = some (CC, T, N)) (k : Nat) (hkN : k < N) (hlink : (Cond.fieldLink own index ref (T k).2.1 (T k).2.2.1).before args s = true) (hsame : ∀ x, s.fieldFound? (T k).1 (T k).2.1 (T k).2.2.1 = some x → s.fieldFound? ref (T k).2.1 (T k).2.2.1 = some x) {v : Value} (hv : fs[k]? = some v) (hdg : decode cc pc = .ok (.getfield index, 3))
    (kk : W p l e R s m args below meth c H locs cells slots Q (F0 m (pc + 3) ls (v :: rest))) : W p l e R s m args below meth c H locs cells slots Q (F0 m pc ls (.ref q :: rest)) :=
  va_get hx hb hts hin hown hK hH.1 X.length rw_get hc k hkN hlink hsame hv hdg kk
theorem rw_fill {l : Launch} {D : va_G} {Y : nm_Y} {s0 : Nat} {X L : va_W} {a k n : Nat} (hL0 : L[k]? = some (a, .inl (Y.1, n, .inl (fun _ => 0)))) (hn : n < 1000) :
    nm_Met l yJ7_fill_53178 cJ7_fill_53178 4 none { frames := 0, cells := 0, slots := 0, locals := 0 } [.ref a, .int (-1)] D Y s0 (X ++ L) (rw_Q D s0 (fun _ => X ++ L.set k (a, .inl (Y.1, n, .inl (rw_m n))))) 0 0 := by
  refine nm_of (by decide) (Nat.le_of_ble_eq_true rfl) ?_
  intro p e R s m args below meth c Q ls hx hb hr hlocks hml hown hts hs0 hK hZ hRf hRl hRc hRs hQ hP hD hl
  have hkl : k < L.length := (List.getElem?_eq_some_iff.mp hL0).1
  have eL : L = L.set k (a, .inl (Y.1, n, .inl (rw_m 0))) := by
    rw [rw_m0]
    apply List.ext_getElem?
    intro i
    rw [List.getElem?_set]
    by_cases hi : k = i
    · subst hi
      rw [if_pos rfl, if_pos hkl, hL0]
    · rw [if_neg hi]
  have hH : rw_H D s0 s.heap (X ++ L.set k (a, .inl (Y.1, n, .inl (rw_m 0)))) s.heap [] := by
    rw [← eL]
    exact ⟨hP, hD, va_S.rf⟩
  have hl : lv_has ls 4 [(0, .ref a), (1, .int (-1))] := hl
  refine lv_iconst (v := 0) hx hb dJ7_fill_53178_0 (by decide) ?_
  refine lv_istore_n (lv' := [(2, .int (0 : Int32)), (0, .ref a), (1, .int (-1))]) hx hb dJ7_fill_53178_1 rfl hl (by decide) rfl (fun ls hl => ?_)
  refine lv_aload_n hx hb dJ7_fill_53178_2 rfl (lv_at hl 1 rfl) ?_
  have hg : ∀ i : Nat, (L.set k (a, .inl (Y.1, n, .inl (rw_m i))))[k]? = some (a, .inl (Y.1, n, .inl (rw_m i))) := fun i => by rw [List.getElem?_set_self hkl]
  refine va_alen hx hb hK hH.1 (X.length + k) 0 (rw_getk (hg 0)) (ty := .int) rfl rfl dJ7_fill_53178_3 ?_
  refine nm_topi (y := zI (n : Int)) (zI_nI n).symm ?_
  refine lv_istore_n (lv' := [(3, .int (zI (n : Int))), (2, .int (0 : Int32)), (0, .ref a), (1, .int (-1))]) hx hb dJ7_fill_53178_4 rfl hl (by decide) rfl (fun ls hl => ?_)
  have hL5 : ∀ (j i : Nat) (H : Heap) (locs : List Loc) (ls : Array Slot), i + j = n → rw_H D s0 s.heap (X ++ L.set k (a, .inl (Y.1, n, .inl (rw_m i)))) H locs → lv_has ls 4 [(0, .ref a), (1, .int (-1)), (2, .int (zI (i : Int))), (3, .int (zI (n : Int)))] → W p l e R s m args below meth c H locs 0 0 Q (F0 m 5 ls []) := by
    intro j
    induction j with
    | zero =>
      intro i H locs ls hij hH hl
      have ei : i = n := by omega
      subst ei
      refine lv_iload_n hx hb dJ7_fill_53178_5 rfl (lv_at hl 2 rfl) ?_
      refine lv_iload_n hx hb dJ7_fill_53178_6 rfl (lv_at hl 3 rfl) ?_
      refine lv_icmp_ge (tgt := 20) hx hb dJ7_fill_53178_7 (by decide) (fun c3 => ?_) (fun c3 => absurd ((zI_le (by omega) (by omega) (by omega) (by omega)).mpr (Int.le_refl _)) c3)
      exact rw_vret hx hb hr hlocks hQ (Nat.le_refl _) (Nat.le_refl _) hH (fun _ => 0) rfl dJ7_fill_53178_20
    | succ j ih =>
      intro i H locs ls hij hH hl
      refine lv_iload_n hx hb dJ7_fill_53178_5 rfl (lv_at hl 2 rfl) ?_
      refine lv_iload_n hx hb dJ7_fill_53178_6 rfl (lv_at hl 3 rfl) ?_
      refine lv_icmp_ge (tgt := 20) hx hb dJ7_fill_53178_7 (by decide) (fun c3 => ?_) (fun c3 => ?_)
      · exact absurd ((zI_le (by omega) (by omega) (by omega) (by omega)).mp c3) (by omega)
      · refine lv_aload_n hx hb dJ7_fill_53178_10 rfl (lv_at hl 0 rfl) ?_
        refine lv_iload_n hx hb dJ7_fill_53178_11 rfl (lv_at hl 2 rfl) ?_
        refine lv_iload_n hx hb dJ7_fill_53178_12 rfl (lv_at hl 1 rfl) ?_
        refine rw_iast hx hb hK hL0 hH (by omega) hn dJ7_fill_53178_13 (fun H locs hH => ?_)
        refine lv_iinc (v := zI ((i + 1 : Nat) : Int)) (lv' := [(2, .int (zI ((i + 1 : Nat) : Int))), (0, .ref a), (1, .int (-1)), (3, .int (zI (n : Int)))]) hx hb dJ7_fill_53178_14 hl (k := 2) rfl (by rw [show Int32.ofInt 1 = zI 1 from rfl, zI_add]; rfl) (by decide) rfl (fun ls hl => ?_)
        refine lv_goto (tgt := 5) hx hb dJ7_fill_53178_17 (by decide) ?_
        exact ih (i + 1) _ _ _ (by omega) hH (lv_sub hl [1, 2, 0, 3] rfl)
  exact hL5 n 0 _ _ _ (by omega) hH (lv_sub hl [2, 3, 1, 0] rfl)
theorem hd_X4_init : nm_hd yX4_init 1 := by decide +kernel
theorem mk_fs0_4 : ∀ j, j < 9 → defaultValue (tyX4 j) = vp_V [.null, .int 0, .null, .null, .null, .null, .null, .int 0, .null] j := by
  intro j hj
  have h : j = 0 ∨ j = 1 ∨ j = 2 ∨ j = 3 ∨ j = 4 ∨ j = 5 ∨ j = 6 ∨ j = 7 ∨ j = 8 := by omega
  rcases h with rfl | rfl | rfl | rfl | rfl | rfl | rfl | rfl | rfl <;> rfl
set_option maxHeartbeats 4000000 in
set_option maxRecDepth 100000 in
theorem k_X1_init {l : Launch} {D : va_G} {Y : nm_Y} {s0 : Nat} {X : va_W} {q : Nat} :
    nm_Met l yX1_init cX1_init 1 none { frames := 1, cells := 3, slots := 16, locals := 12 } [.ref q] D Y s0 (X ++ [(q, .inr (0, [.null, .int 0, .int 0, .null, .null, .int 0]))]) (rw_Q D s0 (fun u => X ++ ((q, .inr (0, [.ref (u 1), .int 0, .int 0, .ref (u 2), .ref (u 3), .int 0])) :: [((u 1), rw_S Y 16 (fun _ => none)), ((u 2), rw_J Y 0), ((u 3), rw_I Y 0)]))) 3 16 := by
  refine mk_of (by decide) (Nat.le_of_ble_eq_true rfl) ?_
  intro p e R s m args below meth c Q ls hnm hx hb hr hlocks hml hown hts hs0 hK hZ hRf hRl hRc hRs hQ hP hD hl
  have hH : rw_H D s0 s.heap (X ++ ((q, .inr (0, [.null, .int 0, .int 0, .null, .null, .int 0])) :: [])) s.heap [] := ⟨hP, hD, va_S.rf⟩
  have hl : lv_has ls 1 [(0, .ref q)] := hl
  refine lv_aload_n hx hb dX1_init_0 rfl (lv_at hl 0 rfl) ?_
  refine W.objInit hx hb hown (hts _ mw_259) (hts _ mw_24) (hts _ mw_25) rfl (by rw [hml]; exact hl.1) rfl dX1_init_1 (Nat.le_trans (Nat.le_of_ble_eq_true rfl) hRf) (Nat.le_trans (Nat.le_of_ble_eq_true rfl) hRl) ?_
  refine W.eq (g2 := F0 m 4 ls []) rfl ?_
  refine lv_aload_n hx hb dX1_init_4 rfl (lv_at hl 0 rfl) ?_
  refine lv_bipush (v := 16) hx hb dX1_init_5 (by decide) ?_
  refine rw_newQ (X := X) (N' := 16) (t0 := 4) hx hb hown hts mw_260 hZ.2.1.2.2.2.2.2 hs0 hK rfl hH (by decide) (by decide) (by decide) (by omega) (by omega) dX1_init_7 (fun a1 H hH => ?_)
  have hH : rw_H D s0 s.heap (X ++ ((q, .inr (0, [.null, .int 0, .int 0, .null, .null, .int 0])) :: [(a1, rw_S Y 16 (fun _ => none))])) H _ := hH
  refine rw_putF hx hb hts inX1 tyX1 tyX1_ok nmX1 hown hK hH rfl 0 (by decide) tw_262 (fun _ h9 => h9) rfl hnm rfl rfl rfl rfl (Nat.le_of_ble_eq_true rfl) dX1_init_10 (fun H locs hH => ?_)
  have hH : rw_H D s0 s.heap (X ++ ((q, .inr (0, [.ref a1, .int 0, .int 0, .null, .null, .int 0])) :: [(a1, rw_S Y 16 (fun _ => none))])) H _ := hH
  refine lv_aload_n hx hb dX1_init_13 rfl (lv_at hl 0 rfl) ?_
  refine lv_iconst (v := 0) hx hb dX1_init_14 (by decide) ?_
  refine rw_put hx hb hts inX1 tyX1 tyX1_ok nmX1 hown hK hH rfl 1 (by decide) tw_264 (fun _ h9 => h9) rfl (ty := .int) rfl rfl rfl (Nat.le_of_ble_eq_true rfl) dX1_init_15 (fun H locs hH => ?_)
  have hH : rw_H D s0 s.heap (X ++ ((q, .inr (0, [.ref a1, .int 0, .int 0, .null, .null, .int 0])) :: [(a1, rw_S Y 16 (fun _ => none))])) H _ := hH
  refine lv_aload_n hx hb dX1_init_18 rfl (lv_at hl 0 rfl) ?_
  refine lv_iconst (v := 0) hx hb dX1_init_19 (by decide) ?_
  refine rw_put hx hb hts inX1 tyX1 tyX1_ok nmX1 hown hK hH rfl 2 (by decide) tw_266 (fun _ h9 => h9) rfl (ty := .boolean) rfl rfl rfl (Nat.le_of_ble_eq_true rfl) dX1_init_20 (fun H locs hH => ?_)
  have hH : rw_H D s0 s.heap (X ++ ((q, .inr (0, [.ref a1, .int 0, .int 0, .null, .null, .int 0])) :: [(a1, rw_S Y 16 (fun _ => none))])) H _ := hH
  refine lv_aload_n hx hb dX1_init_23 rfl (lv_at hl 0 rfl) ?_
  refine lv_iconst (v := 0) hx hb dX1_init_24 (by decide) ?_
  refine rw_newJ (X := X) (N' := 0) hx hb hts hs0 hK hH (by decide) (by decide) (by decide) (by omega) (by omega) dX1_init_25 (fun a2 H hH => ?_)
  have hH : rw_H D s0 s.heap (X ++ ((q, .inr (0, [.ref a1, .int 0, .int 0, .null, .null, .int 0])) :: [(a1, rw_S Y 16 (fun _ => none)), (a2, rw_J Y 0)])) H _ := hH
  refine rw_put hx hb hts inX1 tyX1 tyX1_ok nmX1 hown hK hH rfl 3 (by decide) tw_268 (fun _ h9 => h9) rfl rfl rfl rfl (Nat.le_of_ble_eq_true rfl) dX1_init_27 (fun H locs hH => ?_)
  have hH : rw_H D s0 s.heap (X ++ ((q, .inr (0, [.ref a1, .int 0, .int 0, .ref a2, .null, .int 0])) :: [(a1, rw_S Y 16 (fun _ => none)), (a2, rw_J Y 0)])) H _ := hH
  refine lv_aload_n hx hb dX1_init_30 rfl (lv_at hl 0 rfl) ?_
  refine lv_iconst (v := 0) hx hb dX1_init_31 (by decide) ?_
  refine rw_newI (X := X) (N' := 0) hx hb hts hs0 hK hH (by decide) (by decide) (by decide) (by omega) (by omega) dX1_init_32 (fun a3 H hH => ?_)
  have hH : rw_H D s0 s.heap (X ++ ((q, .inr (0, [.ref a1, .int 0, .int 0, .ref a2, .null, .int 0])) :: [(a1, rw_S Y 16 (fun _ => none)), (a2, rw_J Y 0), (a3, rw_I Y 0)])) H _ := hH
  refine rw_put hx hb hts inX1 tyX1 tyX1_ok nmX1 hown hK hH rfl 4 (by decide) tw_270 (fun _ h9 => h9) rfl rfl rfl rfl (Nat.le_of_ble_eq_true rfl) dX1_init_34 (fun H locs hH => ?_)
  have hH : rw_H D s0 s.heap (X ++ ((q, .inr (0, [.ref a1, .int 0, .int 0, .ref a2, .ref a3, .int 0])) :: [(a1, rw_S Y 16 (fun _ => none)), (a2, rw_J Y 0), (a3, rw_I Y 0)])) H _ := hH
  refine lv_aload_n hx hb dX1_init_37 rfl (lv_at hl 0 rfl) ?_
  refine lv_iconst (v := 0) hx hb dX1_init_38 (by decide) ?_
  refine rw_put hx hb hts inX1 tyX1 tyX1_ok nmX1 hown hK hH rfl 5 (by decide) tw_272 (fun _ h9 => h9) rfl (ty := .int) rfl rfl rfl (Nat.le_of_ble_eq_true rfl) dX1_init_39 (fun H locs hH => ?_)
  have hH : rw_H D s0 s.heap (X ++ ((q, .inr (0, [.ref a1, .int 0, .int 0, .ref a2, .ref a3, .int 0])) :: [(a1, rw_S Y 16 (fun _ => none)), (a2, rw_J Y 0), (a3, rw_I Y 0)])) H _ := hH
  exact rw_vret hx hb hr hlocks hQ (by omega) (by omega) hH (rw_u [q, a1, a2, a3]) rfl dX1_init_42
set_option maxHeartbeats 4000000 in
set_option maxRecDepth 100000 in
theorem k_X2_init {l : Launch} {D : va_G} {Y : nm_Y} {s0 : Nat} {X : va_W} {q : Nat} :
    nm_Met l yX2_init cX2_init 1 none { frames := 2, cells := 20, slots := 2218, locals := 33 } [.ref q] D Y s0 (X ++ [(q, .inr (1, [.int 0, .int 0, .int 0, .int 0, .null, .null, .int 0, .int 0, .int 0, .int 0, .null, .null, .null, .null]))]) (rw_Q D s0 (fun u => X ++ ((q, .inr (1, [.int 0, .int 0, .int 0, .int 0, .ref (u 1), .ref (u 9), .int (-1), .int (-1), .int (-1), .int 0, .ref (u 10), .ref (u 18), .ref (u 19), .ref (u 20)])) :: [((u 1), .inr (3, [.ref (u 7), .int 0, .ref (u 2), .ref (u 3), .ref (u 4), .ref (u 8), .ref (u 5), .int 0, .ref (u 6)])), ((u 2), rw_I Y 0), ((u 3), rw_I Y 0), ((u 4), rw_I Y 0), ((u 5), rw_I Y 0), ((u 6), rw_I Y 0), ((u 7), rw_J Y 1024), ((u 8), rw_I Y 1024), ((u 9), rw_I Y 24), ((u 10), .inr (3, [.ref (u 16), .int 0, .ref (u 11), .ref (u 12), .ref (u 13), .ref (u 17), .ref (u 14), .int 0, .ref (u 15)])), ((u 11), rw_I Y 0), ((u 12), rw_I Y 0), ((u 13), rw_I Y 0), ((u 14), rw_I Y 0), ((u 15), rw_I Y 0), ((u 16), rw_J Y 64), ((u 17), rw_I Y 64), ((u 18), rw_I Y 0), ((u 19), rw_I Y 0), ((u 20), rw_I Y 0)]))) 20 2218 := by
  refine mk_of (by decide) (Nat.le_of_ble_eq_true rfl) ?_
  intro p e R s m args below meth c Q ls hnm hx hb hr hlocks hml hown hts hs0 hK hZ hRf hRl hRc hRs hQ hP hD hl
  have hH : rw_H D s0 s.heap (X ++ ((q, .inr (1, [.int 0, .int 0, .int 0, .int 0, .null, .null, .int 0, .int 0, .int 0, .int 0, .null, .null, .null, .null])) :: [])) s.heap [] := ⟨hP, hD, va_S.rf⟩
  have hl : lv_has ls 1 [(0, .ref q)] := hl
  refine lv_aload_n hx hb dX2_init_0 rfl (lv_at hl 0 rfl) ?_
  refine W.objInit hx hb hown (hts _ mw_165) (hts _ mw_24) (hts _ mw_25) rfl (by rw [hml]; exact hl.1) rfl dX2_init_1 (Nat.le_trans (Nat.le_of_ble_eq_true rfl) hRf) (Nat.le_trans (Nat.le_of_ble_eq_true rfl) hRl) ?_
  refine W.eq (g2 := F0 m 4 ls []) rfl ?_
  refine lv_aload_n hx hb dX2_init_4 rfl (lv_at hl 0 rfl) ?_
  refine lv_iconst (v := 0) hx hb dX2_init_5 (by decide) ?_
  refine rw_put hx hb hts inX2 tyX2 tyX2_ok nmX2 hown hK hH rfl 0 (by decide) tw_168 (fun _ h9 => h9) rfl (ty := .int) rfl rfl rfl (Nat.le_of_ble_eq_true rfl) dX2_init_6 (fun H locs hH => ?_)
  have hH : rw_H D s0 s.heap (X ++ ((q, .inr (1, [.int 0, .int 0, .int 0, .int 0, .null, .null, .int 0, .int 0, .int 0, .int 0, .null, .null, .null, .null])) :: [])) H _ := hH
  refine lv_aload_n hx hb dX2_init_9 rfl (lv_at hl 0 rfl) ?_
  refine lv_iconst (v := 0) hx hb dX2_init_10 (by decide) ?_
  refine rw_put hx hb hts inX2 tyX2 tyX2_ok nmX2 hown hK hH rfl 1 (by decide) tw_170 (fun _ h9 => h9) rfl (ty := .int) rfl rfl rfl (Nat.le_of_ble_eq_true rfl) dX2_init_11 (fun H locs hH => ?_)
  have hH : rw_H D s0 s.heap (X ++ ((q, .inr (1, [.int 0, .int 0, .int 0, .int 0, .null, .null, .int 0, .int 0, .int 0, .int 0, .null, .null, .null, .null])) :: [])) H _ := hH
  refine lv_aload_n hx hb dX2_init_14 rfl (lv_at hl 0 rfl) ?_
  refine lv_iconst (v := 0) hx hb dX2_init_15 (by decide) ?_
  refine rw_put hx hb hts inX2 tyX2 tyX2_ok nmX2 hown hK hH rfl 2 (by decide) mw_172 (fun _ h9 => h9) rfl (ty := .boolean) rfl rfl rfl (Nat.le_of_ble_eq_true rfl) dX2_init_16 (fun H locs hH => ?_)
  have hH : rw_H D s0 s.heap (X ++ ((q, .inr (1, [.int 0, .int 0, .int 0, .int 0, .null, .null, .int 0, .int 0, .int 0, .int 0, .null, .null, .null, .null])) :: [])) H _ := hH
  refine lv_aload_n hx hb dX2_init_19 rfl (lv_at hl 0 rfl) ?_
  refine lv_iconst (v := 0) hx hb dX2_init_20 (by decide) ?_
  refine rw_put hx hb hts inX2 tyX2 tyX2_ok nmX2 hown hK hH rfl 3 (by decide) tw_174 (fun _ h9 => h9) rfl (ty := .int) rfl rfl rfl (Nat.le_of_ble_eq_true rfl) dX2_init_21 (fun H locs hH => ?_)
  have hH : rw_H D s0 s.heap (X ++ ((q, .inr (1, [.int 0, .int 0, .int 0, .int 0, .null, .null, .int 0, .int 0, .int 0, .int 0, .null, .null, .null, .null])) :: [])) H _ := hH
  refine lv_aload_n hx hb dX2_init_24 rfl (lv_at hl 0 rfl) ?_
  refine rw_new (ci := 3) hx hb hts inX4 tyX4 tyX4_ok hown mw_166 mw_35 tw_3 hK hs0 hH rfl (fs := [.null, .int 0, .null, .null, .null, .null, .null, .int 0, .null]) mk_fs0_4 (by omega) (by omega) dX2_init_25 (fun a1 H hH => ?_)
  refine lv_dup hx hb dX2_init_28 rfl ?_
  refine lv_bipush (v := 16) hx hb dX2_init_29 (by decide) ?_
  refine rw_callv (rw_runI (k_X4_init16 (X := X ++ [(q, .inr (1, [.int 0, .int 0, .int 0, .int 0, .null, .null, .int 0, .int 0, .int 0, .int 0, .null, .null, .null, .null]))]) (q := a1)) hx hb hml hown hts hs0 hK hZ hH mw_38 mw_167 mw_37 tw_3 rfl hd_X4_init rfl rfl ⟨Nat.le_trans (Nat.le_of_ble_eq_true rfl) hRf, Nat.le_trans (Nat.le_of_ble_eq_true rfl) hRl⟩ rfl hl.1 rfl (Nat.le_of_ble_eq_true rfl) dX2_init_31 ⟨by omega, by omega⟩) hH (fun v1 H locs hH => ?_)
  have hH := rw_Happ (X := X) hH
  have hH : rw_H D s0 s.heap (X ++ ((q, .inr (1, [.int 0, .int 0, .int 0, .int 0, .null, .null, .int 0, .int 0, .int 0, .int 0, .null, .null, .null, .null])) :: [(a1, .inr (3, [.ref (v1 6), .int 0, .ref (v1 1), .ref (v1 2), .ref (v1 3), .ref (v1 7), .ref (v1 4), .int 0, .ref (v1 5)])), ((v1 1), rw_I Y 0), ((v1 2), rw_I Y 0), ((v1 3), rw_I Y 0), ((v1 4), rw_I Y 0), ((v1 5), rw_I Y 0), ((v1 6), rw_J Y 1024), ((v1 7), rw_I Y 1024)])) H _ := hH
  refine rw_putF hx hb hts inX2 tyX2 tyX2_ok nmX2 hown hK hH rfl 4 (by decide) tw_177 (fun _ h9 => h9) rfl hnm rfl rfl rfl rfl (Nat.le_of_ble_eq_true rfl) dX2_init_34 (fun H locs hH => ?_)
  have hH : rw_H D s0 s.heap (X ++ ((q, .inr (1, [.int 0, .int 0, .int 0, .int 0, .ref a1, .null, .int 0, .int 0, .int 0, .int 0, .null, .null, .null, .null])) :: [(a1, .inr (3, [.ref (v1 6), .int 0, .ref (v1 1), .ref (v1 2), .ref (v1 3), .ref (v1 7), .ref (v1 4), .int 0, .ref (v1 5)])), ((v1 1), rw_I Y 0), ((v1 2), rw_I Y 0), ((v1 3), rw_I Y 0), ((v1 4), rw_I Y 0), ((v1 5), rw_I Y 0), ((v1 6), rw_J Y 1024), ((v1 7), rw_I Y 1024)])) H _ := hH
  refine lv_aload_n hx hb dX2_init_37 rfl (lv_at hl 0 rfl) ?_
  refine lv_bipush (v := 24) hx hb dX2_init_38 (by decide) ?_
  refine rw_newI (X := X) (N' := 24) hx hb hts hs0 hK hH (by decide) (by decide) (by decide) (by omega) (by omega) dX2_init_40 (fun a9 H hH => ?_)
  have hH : rw_H D s0 s.heap (X ++ ((q, .inr (1, [.int 0, .int 0, .int 0, .int 0, .ref a1, .null, .int 0, .int 0, .int 0, .int 0, .null, .null, .null, .null])) :: [(a1, .inr (3, [.ref (v1 6), .int 0, .ref (v1 1), .ref (v1 2), .ref (v1 3), .ref (v1 7), .ref (v1 4), .int 0, .ref (v1 5)])), ((v1 1), rw_I Y 0), ((v1 2), rw_I Y 0), ((v1 3), rw_I Y 0), ((v1 4), rw_I Y 0), ((v1 5), rw_I Y 0), ((v1 6), rw_J Y 1024), ((v1 7), rw_I Y 1024), (a9, rw_I Y 24)])) H _ := hH
  refine rw_putF hx hb hts inX2 tyX2 tyX2_ok nmX2 hown hK hH rfl 5 (by decide) tw_179 (fun _ h9 => h9) rfl hnm rfl rfl rfl rfl (Nat.le_of_ble_eq_true rfl) dX2_init_42 (fun H locs hH => ?_)
  have hH : rw_H D s0 s.heap (X ++ ((q, .inr (1, [.int 0, .int 0, .int 0, .int 0, .ref a1, .ref a9, .int 0, .int 0, .int 0, .int 0, .null, .null, .null, .null])) :: [(a1, .inr (3, [.ref (v1 6), .int 0, .ref (v1 1), .ref (v1 2), .ref (v1 3), .ref (v1 7), .ref (v1 4), .int 0, .ref (v1 5)])), ((v1 1), rw_I Y 0), ((v1 2), rw_I Y 0), ((v1 3), rw_I Y 0), ((v1 4), rw_I Y 0), ((v1 5), rw_I Y 0), ((v1 6), rw_J Y 1024), ((v1 7), rw_I Y 1024), (a9, rw_I Y 24)])) H _ := hH
  refine lv_aload_n hx hb dX2_init_45 rfl (lv_at hl 0 rfl) ?_
  refine lv_iconst (v := -1) hx hb dX2_init_46 (by decide) ?_
  refine rw_put hx hb hts inX2 tyX2 tyX2_ok nmX2 hown hK hH rfl 6 (by decide) tw_180 (fun _ h9 => h9) rfl (ty := .int) rfl rfl rfl (Nat.le_of_ble_eq_true rfl) dX2_init_47 (fun H locs hH => ?_)
  have hH : rw_H D s0 s.heap (X ++ ((q, .inr (1, [.int 0, .int 0, .int 0, .int 0, .ref a1, .ref a9, .int (-1), .int 0, .int 0, .int 0, .null, .null, .null, .null])) :: [(a1, .inr (3, [.ref (v1 6), .int 0, .ref (v1 1), .ref (v1 2), .ref (v1 3), .ref (v1 7), .ref (v1 4), .int 0, .ref (v1 5)])), ((v1 1), rw_I Y 0), ((v1 2), rw_I Y 0), ((v1 3), rw_I Y 0), ((v1 4), rw_I Y 0), ((v1 5), rw_I Y 0), ((v1 6), rw_J Y 1024), ((v1 7), rw_I Y 1024), (a9, rw_I Y 24)])) H _ := hH
  refine lv_aload_n hx hb dX2_init_50 rfl (lv_at hl 0 rfl) ?_
  refine lv_iconst (v := -1) hx hb dX2_init_51 (by decide) ?_
  refine rw_put hx hb hts inX2 tyX2 tyX2_ok nmX2 hown hK hH rfl 7 (by decide) tw_181 (fun _ h9 => h9) rfl (ty := .int) rfl rfl rfl (Nat.le_of_ble_eq_true rfl) dX2_init_52 (fun H locs hH => ?_)
  have hH : rw_H D s0 s.heap (X ++ ((q, .inr (1, [.int 0, .int 0, .int 0, .int 0, .ref a1, .ref a9, .int (-1), .int (-1), .int 0, .int 0, .null, .null, .null, .null])) :: [(a1, .inr (3, [.ref (v1 6), .int 0, .ref (v1 1), .ref (v1 2), .ref (v1 3), .ref (v1 7), .ref (v1 4), .int 0, .ref (v1 5)])), ((v1 1), rw_I Y 0), ((v1 2), rw_I Y 0), ((v1 3), rw_I Y 0), ((v1 4), rw_I Y 0), ((v1 5), rw_I Y 0), ((v1 6), rw_J Y 1024), ((v1 7), rw_I Y 1024), (a9, rw_I Y 24)])) H _ := hH
  refine lv_aload_n hx hb dX2_init_55 rfl (lv_at hl 0 rfl) ?_
  refine lv_iconst (v := -1) hx hb dX2_init_56 (by decide) ?_
  refine rw_put hx hb hts inX2 tyX2 tyX2_ok nmX2 hown hK hH rfl 8 (by decide) tw_182 (fun _ h9 => h9) rfl (ty := .int) rfl rfl rfl (Nat.le_of_ble_eq_true rfl) dX2_init_57 (fun H locs hH => ?_)
  have hH : rw_H D s0 s.heap (X ++ ((q, .inr (1, [.int 0, .int 0, .int 0, .int 0, .ref a1, .ref a9, .int (-1), .int (-1), .int (-1), .int 0, .null, .null, .null, .null])) :: [(a1, .inr (3, [.ref (v1 6), .int 0, .ref (v1 1), .ref (v1 2), .ref (v1 3), .ref (v1 7), .ref (v1 4), .int 0, .ref (v1 5)])), ((v1 1), rw_I Y 0), ((v1 2), rw_I Y 0), ((v1 3), rw_I Y 0), ((v1 4), rw_I Y 0), ((v1 5), rw_I Y 0), ((v1 6), rw_J Y 1024), ((v1 7), rw_I Y 1024), (a9, rw_I Y 24)])) H _ := hH
  refine lv_aload_n hx hb dX2_init_60 rfl (lv_at hl 0 rfl) ?_
  refine lv_iconst (v := 0) hx hb dX2_init_61 (by decide) ?_
  refine rw_put hx hb hts inX2 tyX2 tyX2_ok nmX2 hown hK hH rfl 9 (by decide) tw_183 (fun _ h9 => h9) rfl (ty := .int) rfl rfl rfl (Nat.le_of_ble_eq_true rfl) dX2_init_62 (fun H locs hH => ?_)
  have hH : rw_H D s0 s.heap (X ++ ((q, .inr (1, [.int 0, .int 0, .int 0, .int 0, .ref a1, .ref a9, .int (-1), .int (-1), .int (-1), .int 0, .null, .null, .null, .null])) :: [(a1, .inr (3, [.ref (v1 6), .int 0, .ref (v1 1), .ref (v1 2), .ref (v1 3), .ref (v1 7), .ref (v1 4), .int 0, .ref (v1 5)])), ((v1 1), rw_I Y 0), ((v1 2), rw_I Y 0), ((v1 3), rw_I Y 0), ((v1 4), rw_I Y 0), ((v1 5), rw_I Y 0), ((v1 6), rw_J Y 1024), ((v1 7), rw_I Y 1024), (a9, rw_I Y 24)])) H _ := hH
  refine lv_aload_n hx hb dX2_init_65 rfl (lv_at hl 0 rfl) ?_
  refine rw_new (ci := 3) hx hb hts inX4 tyX4 tyX4_ok hown mw_166 mw_35 tw_3 hK hs0 hH rfl (fs := [.null, .int 0, .null, .null, .null, .null, .null, .int 0, .null]) mk_fs0_4 (by omega) (by omega) dX2_init_66 (fun a10 H hH => ?_)
  refine lv_dup hx hb dX2_init_69 rfl ?_
  refine lv_iconst (v := 1) hx hb dX2_init_70 (by decide) ?_
  refine rw_callv (rw_runI (k_X4_init1 (X := X ++ [(q, .inr (1, [.int 0, .int 0, .int 0, .int 0, .ref a1, .ref a9, .int (-1), .int (-1), .int (-1), .int 0, .null, .null, .null, .null])), (a1, .inr (3, [.ref (v1 6), .int 0, .ref (v1 1), .ref (v1 2), .ref (v1 3), .ref (v1 7), .ref (v1 4), .int 0, .ref (v1 5)])), ((v1 1), rw_I Y 0), ((v1 2), rw_I Y 0), ((v1 3), rw_I Y 0), ((v1 4), rw_I Y 0), ((v1 5), rw_I Y 0), ((v1 6), rw_J Y 1024), ((v1 7), rw_I Y 1024), (a9, rw_I Y 24)]) (q := a10)) hx hb hml hown hts hs0 hK hZ hH mw_38 mw_167 mw_37 tw_3 rfl hd_X4_init rfl rfl ⟨Nat.le_trans (Nat.le_of_ble_eq_true rfl) hRf, Nat.le_trans (Nat.le_of_ble_eq_true rfl) hRl⟩ rfl hl.1 rfl (Nat.le_of_ble_eq_true rfl) dX2_init_71 ⟨by omega, by omega⟩) hH (fun v2 H locs hH => ?_)
  have hH := rw_Happ (X := X) hH
  have hH : rw_H D s0 s.heap (X ++ ((q, .inr (1, [.int 0, .int 0, .int 0, .int 0, .ref a1, .ref a9, .int (-1), .int (-1), .int (-1), .int 0, .null, .null, .null, .null])) :: [(a1, .inr (3, [.ref (v1 6), .int 0, .ref (v1 1), .ref (v1 2), .ref (v1 3), .ref (v1 7), .ref (v1 4), .int 0, .ref (v1 5)])), ((v1 1), rw_I Y 0), ((v1 2), rw_I Y 0), ((v1 3), rw_I Y 0), ((v1 4), rw_I Y 0), ((v1 5), rw_I Y 0), ((v1 6), rw_J Y 1024), ((v1 7), rw_I Y 1024), (a9, rw_I Y 24), (a10, .inr (3, [.ref (v2 6), .int 0, .ref (v2 1), .ref (v2 2), .ref (v2 3), .ref (v2 7), .ref (v2 4), .int 0, .ref (v2 5)])), ((v2 1), rw_I Y 0), ((v2 2), rw_I Y 0), ((v2 3), rw_I Y 0), ((v2 4), rw_I Y 0), ((v2 5), rw_I Y 0), ((v2 6), rw_J Y 64), ((v2 7), rw_I Y 64)])) H _ := hH
  refine rw_putF hx hb hts inX2 tyX2 tyX2_ok nmX2 hown hK hH rfl 10 (by decide) tw_184 (fun _ h9 => h9) rfl hnm rfl rfl rfl rfl (Nat.le_of_ble_eq_true rfl) dX2_init_74 (fun H locs hH => ?_)
  have hH : rw_H D s0 s.heap (X ++ ((q, .inr (1, [.int 0, .int 0, .int 0, .int 0, .ref a1, .ref a9, .int (-1), .int (-1), .int (-1), .int 0, .ref a10, .null, .null, .null])) :: [(a1, .inr (3, [.ref (v1 6), .int 0, .ref (v1 1), .ref (v1 2), .ref (v1 3), .ref (v1 7), .ref (v1 4), .int 0, .ref (v1 5)])), ((v1 1), rw_I Y 0), ((v1 2), rw_I Y 0), ((v1 3), rw_I Y 0), ((v1 4), rw_I Y 0), ((v1 5), rw_I Y 0), ((v1 6), rw_J Y 1024), ((v1 7), rw_I Y 1024), (a9, rw_I Y 24), (a10, .inr (3, [.ref (v2 6), .int 0, .ref (v2 1), .ref (v2 2), .ref (v2 3), .ref (v2 7), .ref (v2 4), .int 0, .ref (v2 5)])), ((v2 1), rw_I Y 0), ((v2 2), rw_I Y 0), ((v2 3), rw_I Y 0), ((v2 4), rw_I Y 0), ((v2 5), rw_I Y 0), ((v2 6), rw_J Y 64), ((v2 7), rw_I Y 64)])) H _ := hH
  refine lv_aload_n hx hb dX2_init_77 rfl (lv_at hl 0 rfl) ?_
  refine lv_iconst (v := 0) hx hb dX2_init_78 (by decide) ?_
  refine rw_newI (X := X) (N' := 0) hx hb hts hs0 hK hH (by decide) (by decide) (by decide) (by omega) (by omega) dX2_init_79 (fun a18 H hH => ?_)
  have hH : rw_H D s0 s.heap (X ++ ((q, .inr (1, [.int 0, .int 0, .int 0, .int 0, .ref a1, .ref a9, .int (-1), .int (-1), .int (-1), .int 0, .ref a10, .null, .null, .null])) :: [(a1, .inr (3, [.ref (v1 6), .int 0, .ref (v1 1), .ref (v1 2), .ref (v1 3), .ref (v1 7), .ref (v1 4), .int 0, .ref (v1 5)])), ((v1 1), rw_I Y 0), ((v1 2), rw_I Y 0), ((v1 3), rw_I Y 0), ((v1 4), rw_I Y 0), ((v1 5), rw_I Y 0), ((v1 6), rw_J Y 1024), ((v1 7), rw_I Y 1024), (a9, rw_I Y 24), (a10, .inr (3, [.ref (v2 6), .int 0, .ref (v2 1), .ref (v2 2), .ref (v2 3), .ref (v2 7), .ref (v2 4), .int 0, .ref (v2 5)])), ((v2 1), rw_I Y 0), ((v2 2), rw_I Y 0), ((v2 3), rw_I Y 0), ((v2 4), rw_I Y 0), ((v2 5), rw_I Y 0), ((v2 6), rw_J Y 64), ((v2 7), rw_I Y 64), (a18, rw_I Y 0)])) H _ := hH
  refine rw_put hx hb hts inX2 tyX2 tyX2_ok nmX2 hown hK hH rfl 11 (by decide) tw_185 (fun _ h9 => h9) rfl rfl rfl rfl (Nat.le_of_ble_eq_true rfl) dX2_init_81 (fun H locs hH => ?_)
  have hH : rw_H D s0 s.heap (X ++ ((q, .inr (1, [.int 0, .int 0, .int 0, .int 0, .ref a1, .ref a9, .int (-1), .int (-1), .int (-1), .int 0, .ref a10, .ref a18, .null, .null])) :: [(a1, .inr (3, [.ref (v1 6), .int 0, .ref (v1 1), .ref (v1 2), .ref (v1 3), .ref (v1 7), .ref (v1 4), .int 0, .ref (v1 5)])), ((v1 1), rw_I Y 0), ((v1 2), rw_I Y 0), ((v1 3), rw_I Y 0), ((v1 4), rw_I Y 0), ((v1 5), rw_I Y 0), ((v1 6), rw_J Y 1024), ((v1 7), rw_I Y 1024), (a9, rw_I Y 24), (a10, .inr (3, [.ref (v2 6), .int 0, .ref (v2 1), .ref (v2 2), .ref (v2 3), .ref (v2 7), .ref (v2 4), .int 0, .ref (v2 5)])), ((v2 1), rw_I Y 0), ((v2 2), rw_I Y 0), ((v2 3), rw_I Y 0), ((v2 4), rw_I Y 0), ((v2 5), rw_I Y 0), ((v2 6), rw_J Y 64), ((v2 7), rw_I Y 64), (a18, rw_I Y 0)])) H _ := hH
  refine lv_aload_n hx hb dX2_init_84 rfl (lv_at hl 0 rfl) ?_
  refine lv_iconst (v := 0) hx hb dX2_init_85 (by decide) ?_
  refine rw_newI (X := X) (N' := 0) hx hb hts hs0 hK hH (by decide) (by decide) (by decide) (by omega) (by omega) dX2_init_86 (fun a19 H hH => ?_)
  have hH : rw_H D s0 s.heap (X ++ ((q, .inr (1, [.int 0, .int 0, .int 0, .int 0, .ref a1, .ref a9, .int (-1), .int (-1), .int (-1), .int 0, .ref a10, .ref a18, .null, .null])) :: [(a1, .inr (3, [.ref (v1 6), .int 0, .ref (v1 1), .ref (v1 2), .ref (v1 3), .ref (v1 7), .ref (v1 4), .int 0, .ref (v1 5)])), ((v1 1), rw_I Y 0), ((v1 2), rw_I Y 0), ((v1 3), rw_I Y 0), ((v1 4), rw_I Y 0), ((v1 5), rw_I Y 0), ((v1 6), rw_J Y 1024), ((v1 7), rw_I Y 1024), (a9, rw_I Y 24), (a10, .inr (3, [.ref (v2 6), .int 0, .ref (v2 1), .ref (v2 2), .ref (v2 3), .ref (v2 7), .ref (v2 4), .int 0, .ref (v2 5)])), ((v2 1), rw_I Y 0), ((v2 2), rw_I Y 0), ((v2 3), rw_I Y 0), ((v2 4), rw_I Y 0), ((v2 5), rw_I Y 0), ((v2 6), rw_J Y 64), ((v2 7), rw_I Y 64), (a18, rw_I Y 0), (a19, rw_I Y 0)])) H _ := hH
  refine rw_put hx hb hts inX2 tyX2 tyX2_ok nmX2 hown hK hH rfl 12 (by decide) tw_186 (fun _ h9 => h9) rfl rfl rfl rfl (Nat.le_of_ble_eq_true rfl) dX2_init_88 (fun H locs hH => ?_)
  have hH : rw_H D s0 s.heap (X ++ ((q, .inr (1, [.int 0, .int 0, .int 0, .int 0, .ref a1, .ref a9, .int (-1), .int (-1), .int (-1), .int 0, .ref a10, .ref a18, .ref a19, .null])) :: [(a1, .inr (3, [.ref (v1 6), .int 0, .ref (v1 1), .ref (v1 2), .ref (v1 3), .ref (v1 7), .ref (v1 4), .int 0, .ref (v1 5)])), ((v1 1), rw_I Y 0), ((v1 2), rw_I Y 0), ((v1 3), rw_I Y 0), ((v1 4), rw_I Y 0), ((v1 5), rw_I Y 0), ((v1 6), rw_J Y 1024), ((v1 7), rw_I Y 1024), (a9, rw_I Y 24), (a10, .inr (3, [.ref (v2 6), .int 0, .ref (v2 1), .ref (v2 2), .ref (v2 3), .ref (v2 7), .ref (v2 4), .int 0, .ref (v2 5)])), ((v2 1), rw_I Y 0), ((v2 2), rw_I Y 0), ((v2 3), rw_I Y 0), ((v2 4), rw_I Y 0), ((v2 5), rw_I Y 0), ((v2 6), rw_J Y 64), ((v2 7), rw_I Y 64), (a18, rw_I Y 0), (a19, rw_I Y 0)])) H _ := hH
  refine lv_aload_n hx hb dX2_init_91 rfl (lv_at hl 0 rfl) ?_
  refine lv_iconst (v := 0) hx hb dX2_init_92 (by decide) ?_
  refine rw_newI (X := X) (N' := 0) hx hb hts hs0 hK hH (by decide) (by decide) (by decide) (by omega) (by omega) dX2_init_93 (fun a20 H hH => ?_)
  have hH : rw_H D s0 s.heap (X ++ ((q, .inr (1, [.int 0, .int 0, .int 0, .int 0, .ref a1, .ref a9, .int (-1), .int (-1), .int (-1), .int 0, .ref a10, .ref a18, .ref a19, .null])) :: [(a1, .inr (3, [.ref (v1 6), .int 0, .ref (v1 1), .ref (v1 2), .ref (v1 3), .ref (v1 7), .ref (v1 4), .int 0, .ref (v1 5)])), ((v1 1), rw_I Y 0), ((v1 2), rw_I Y 0), ((v1 3), rw_I Y 0), ((v1 4), rw_I Y 0), ((v1 5), rw_I Y 0), ((v1 6), rw_J Y 1024), ((v1 7), rw_I Y 1024), (a9, rw_I Y 24), (a10, .inr (3, [.ref (v2 6), .int 0, .ref (v2 1), .ref (v2 2), .ref (v2 3), .ref (v2 7), .ref (v2 4), .int 0, .ref (v2 5)])), ((v2 1), rw_I Y 0), ((v2 2), rw_I Y 0), ((v2 3), rw_I Y 0), ((v2 4), rw_I Y 0), ((v2 5), rw_I Y 0), ((v2 6), rw_J Y 64), ((v2 7), rw_I Y 64), (a18, rw_I Y 0), (a19, rw_I Y 0), (a20, rw_I Y 0)])) H _ := hH
  refine rw_put hx hb hts inX2 tyX2 tyX2_ok nmX2 hown hK hH rfl 13 (by decide) tw_187 (fun _ h9 => h9) rfl rfl rfl rfl (Nat.le_of_ble_eq_true rfl) dX2_init_95 (fun H locs hH => ?_)
  have hH : rw_H D s0 s.heap (X ++ ((q, .inr (1, [.int 0, .int 0, .int 0, .int 0, .ref a1, .ref a9, .int (-1), .int (-1), .int (-1), .int 0, .ref a10, .ref a18, .ref a19, .ref a20])) :: [(a1, .inr (3, [.ref (v1 6), .int 0, .ref (v1 1), .ref (v1 2), .ref (v1 3), .ref (v1 7), .ref (v1 4), .int 0, .ref (v1 5)])), ((v1 1), rw_I Y 0), ((v1 2), rw_I Y 0), ((v1 3), rw_I Y 0), ((v1 4), rw_I Y 0), ((v1 5), rw_I Y 0), ((v1 6), rw_J Y 1024), ((v1 7), rw_I Y 1024), (a9, rw_I Y 24), (a10, .inr (3, [.ref (v2 6), .int 0, .ref (v2 1), .ref (v2 2), .ref (v2 3), .ref (v2 7), .ref (v2 4), .int 0, .ref (v2 5)])), ((v2 1), rw_I Y 0), ((v2 2), rw_I Y 0), ((v2 3), rw_I Y 0), ((v2 4), rw_I Y 0), ((v2 5), rw_I Y 0), ((v2 6), rw_J Y 64), ((v2 7), rw_I Y 64), (a18, rw_I Y 0), (a19, rw_I Y 0), (a20, rw_I Y 0)])) H _ := hH
  exact rw_vret hx hb hr hlocks hQ (by omega) (by omega) hH (rw_u [q, a1, (v1 1), (v1 2), (v1 3), (v1 4), (v1 5), (v1 6), (v1 7), a9, a10, (v2 1), (v2 2), (v2 3), (v2 4), (v2 5), (v2 6), (v2 7), a18, a19, a20]) rfl dX2_init_98
set_option maxHeartbeats 4000000 in
set_option maxRecDepth 100000 in
theorem k_X3_init {l : Launch} {D : va_G} {Y : nm_Y} {s0 : Nat} {X : va_W} {q : Nat} :
    nm_Met l yX3_init cX3_init 1 none { frames := 2, cells := 13, slots := 1385, locals := 33 } [.ref q] D Y s0 (X ++ [(q, .inr (2, [.int 0, .null, .null, .int 0, .null, .null, .null, .null]))]) (rw_Q D s0 (fun u => X ++ ((q, .inr (2, [.int 0, .ref (u 1), .ref (u 2), .int 0, .ref (u 3), .ref (u 4), .ref (u 5), .ref (u 6)])) :: [((u 1), rw_J Y 1024), ((u 2), rw_I Y 200), ((u 3), rw_M Y 8), ((u 4), rw_I Y 8), ((u 5), rw_I Y 8), ((u 6), .inr (3, [.ref (u 12), .int 0, .ref (u 7), .ref (u 8), .ref (u 9), .ref (u 13), .ref (u 10), .int 0, .ref (u 11)])), ((u 7), rw_I Y 0), ((u 8), rw_I Y 0), ((u 9), rw_I Y 0), ((u 10), rw_I Y 0), ((u 11), rw_I Y 0), ((u 12), rw_J Y 64), ((u 13), rw_I Y 64)]))) 13 1385 := by
  refine mk_of (by decide) (Nat.le_of_ble_eq_true rfl) ?_
  intro p e R s m args below meth c Q ls hnm hx hb hr hlocks hml hown hts hs0 hK hZ hRf hRl hRc hRs hQ hP hD hl
  have hH : rw_H D s0 s.heap (X ++ ((q, .inr (2, [.int 0, .null, .null, .int 0, .null, .null, .null, .null])) :: [])) s.heap [] := ⟨hP, hD, va_S.rf⟩
  have hl : lv_has ls 1 [(0, .ref q)] := hl
  refine lv_aload_n hx hb dX3_init_0 rfl (lv_at hl 0 rfl) ?_
  refine W.objInit hx hb hown (hts _ mw_33) (hts _ mw_24) (hts _ mw_25) rfl (by rw [hml]; exact hl.1) rfl dX3_init_1 (Nat.le_trans (Nat.le_of_ble_eq_true rfl) hRf) (Nat.le_trans (Nat.le_of_ble_eq_true rfl) hRl) ?_
  refine W.eq (g2 := F0 m 4 ls []) rfl ?_
  refine lv_aload_n hx hb dX3_init_4 rfl (lv_at hl 0 rfl) ?_
  refine lv_iconst (v := 0) hx hb dX3_init_5 (by decide) ?_
  refine rw_put hx hb hts inX3 tyX3 tyX3_ok nmX3 hown hK hH rfl 0 (by decide) tw_83 (fun _ h9 => h9) rfl (ty := .boolean) rfl rfl rfl (Nat.le_of_ble_eq_true rfl) dX3_init_6 (fun H locs hH => ?_)
  have hH : rw_H D s0 s.heap (X ++ ((q, .inr (2, [.int 0, .null, .null, .int 0, .null, .null, .null, .null])) :: [])) H _ := hH
  refine lv_aload_n hx hb dX3_init_9 rfl (lv_at hl 0 rfl) ?_
  refine lv_sipush (v := 1024) hx hb dX3_init_10 (by decide) ?_
  refine rw_newJ (X := X) (N' := 1024) hx hb hts hs0 hK hH (by decide) (by decide) (by decide) (by omega) (by omega) dX3_init_13 (fun a1 H hH => ?_)
  have hH : rw_H D s0 s.heap (X ++ ((q, .inr (2, [.int 0, .null, .null, .int 0, .null, .null, .null, .null])) :: [(a1, rw_J Y 1024)])) H _ := hH
  refine rw_putF hx hb hts inX3 tyX3 tyX3_ok nmX3 hown hK hH rfl 1 (by decide) tw_85 (fun _ h9 => h9) rfl hnm rfl rfl rfl rfl (Nat.le_of_ble_eq_true rfl) dX3_init_15 (fun H locs hH => ?_)
  have hH : rw_H D s0 s.heap (X ++ ((q, .inr (2, [.int 0, .ref a1, .null, .int 0, .null, .null, .null, .null])) :: [(a1, rw_J Y 1024)])) H _ := hH
  refine lv_aload_n hx hb dX3_init_18 rfl (lv_at hl 0 rfl) ?_
  refine lv_sipush (v := 200) hx hb dX3_init_19 (by decide) ?_
  refine rw_newI (X := X) (N' := 200) hx hb hts hs0 hK hH (by decide) (by decide) (by decide) (by omega) (by omega) dX3_init_22 (fun a2 H hH => ?_)
  have hH : rw_H D s0 s.heap (X ++ ((q, .inr (2, [.int 0, .ref a1, .null, .int 0, .null, .null, .null, .null])) :: [(a1, rw_J Y 1024), (a2, rw_I Y 200)])) H _ := hH
  refine rw_putF hx hb hts inX3 tyX3 tyX3_ok nmX3 hown hK hH rfl 2 (by decide) tw_89 (fun _ h9 => h9) rfl hnm rfl rfl rfl rfl (Nat.le_of_ble_eq_true rfl) dX3_init_24 (fun H locs hH => ?_)
  have hH : rw_H D s0 s.heap (X ++ ((q, .inr (2, [.int 0, .ref a1, .ref a2, .int 0, .null, .null, .null, .null])) :: [(a1, rw_J Y 1024), (a2, rw_I Y 200)])) H _ := hH
  refine lv_aload_n hx hb dX3_init_27 rfl (lv_at hl 0 rfl) ?_
  refine lv_iconst (v := 0) hx hb dX3_init_28 (by decide) ?_
  refine rw_put hx hb hts inX3 tyX3 tyX3_ok nmX3 hown hK hH rfl 3 (by decide) tw_91 (fun _ h9 => h9) rfl (ty := .int) rfl rfl rfl (Nat.le_of_ble_eq_true rfl) dX3_init_29 (fun H locs hH => ?_)
  have hH : rw_H D s0 s.heap (X ++ ((q, .inr (2, [.int 0, .ref a1, .ref a2, .int 0, .null, .null, .null, .null])) :: [(a1, rw_J Y 1024), (a2, rw_I Y 200)])) H _ := hH
  refine lv_aload_n hx hb dX3_init_32 rfl (lv_at hl 0 rfl) ?_
  refine lv_bipush (v := 8) hx hb dX3_init_33 (by decide) ?_
  refine rw_newI (X := X) (N' := 8) hx hb hts hs0 hK hH (by decide) (by decide) (by decide) (by omega) (by omega) dX3_init_35 (fun a3 H hH => ?_)
  have hH : rw_H D s0 s.heap (X ++ ((q, .inr (2, [.int 0, .ref a1, .ref a2, .int 0, .null, .null, .null, .null])) :: [(a1, rw_J Y 1024), (a2, rw_I Y 200), (a3, rw_I Y 8)])) H _ := hH
  refine rw_putF hx hb hts inX3 tyX3 tyX3_ok nmX3 hown hK hH rfl 4 (by decide) tw_93 (fun _ h9 => h9) rfl hnm rfl rfl rfl rfl (Nat.le_of_ble_eq_true rfl) dX3_init_37 (fun H locs hH => ?_)
  have hH : rw_H D s0 s.heap (X ++ ((q, .inr (2, [.int 0, .ref a1, .ref a2, .int 0, .ref a3, .null, .null, .null])) :: [(a1, rw_J Y 1024), (a2, rw_I Y 200), (a3, rw_I Y 8)])) H _ := hH
  refine lv_aload_n hx hb dX3_init_40 rfl (lv_at hl 0 rfl) ?_
  refine lv_bipush (v := 8) hx hb dX3_init_41 (by decide) ?_
  refine rw_newI (X := X) (N' := 8) hx hb hts hs0 hK hH (by decide) (by decide) (by decide) (by omega) (by omega) dX3_init_43 (fun a4 H hH => ?_)
  have hH : rw_H D s0 s.heap (X ++ ((q, .inr (2, [.int 0, .ref a1, .ref a2, .int 0, .ref a3, .null, .null, .null])) :: [(a1, rw_J Y 1024), (a2, rw_I Y 200), (a3, rw_I Y 8), (a4, rw_I Y 8)])) H _ := hH
  refine rw_putF hx hb hts inX3 tyX3 tyX3_ok nmX3 hown hK hH rfl 5 (by decide) tw_94 (fun _ h9 => h9) rfl hnm rfl rfl rfl rfl (Nat.le_of_ble_eq_true rfl) dX3_init_45 (fun H locs hH => ?_)
  have hH : rw_H D s0 s.heap (X ++ ((q, .inr (2, [.int 0, .ref a1, .ref a2, .int 0, .ref a3, .ref a4, .null, .null])) :: [(a1, rw_J Y 1024), (a2, rw_I Y 200), (a3, rw_I Y 8), (a4, rw_I Y 8)])) H _ := hH
  refine lv_aload_n hx hb dX3_init_48 rfl (lv_at hl 0 rfl) ?_
  refine lv_bipush (v := 8) hx hb dX3_init_49 (by decide) ?_
  refine rw_newI (X := X) (N' := 8) hx hb hts hs0 hK hH (by decide) (by decide) (by decide) (by omega) (by omega) dX3_init_51 (fun a5 H hH => ?_)
  have hH : rw_H D s0 s.heap (X ++ ((q, .inr (2, [.int 0, .ref a1, .ref a2, .int 0, .ref a3, .ref a4, .null, .null])) :: [(a1, rw_J Y 1024), (a2, rw_I Y 200), (a3, rw_I Y 8), (a4, rw_I Y 8), (a5, rw_I Y 8)])) H _ := hH
  refine rw_putF hx hb hts inX3 tyX3 tyX3_ok nmX3 hown hK hH rfl 6 (by decide) tw_95 (fun _ h9 => h9) rfl hnm rfl rfl rfl rfl (Nat.le_of_ble_eq_true rfl) dX3_init_53 (fun H locs hH => ?_)
  have hH : rw_H D s0 s.heap (X ++ ((q, .inr (2, [.int 0, .ref a1, .ref a2, .int 0, .ref a3, .ref a4, .ref a5, .null])) :: [(a1, rw_J Y 1024), (a2, rw_I Y 200), (a3, rw_I Y 8), (a4, rw_I Y 8), (a5, rw_I Y 8)])) H _ := hH
  refine lv_aload_n hx hb dX3_init_56 rfl (lv_at hl 0 rfl) ?_
  refine rw_new (ci := 3) hx hb hts inX4 tyX4 tyX4_ok hown mw_34 mw_35 tw_3 hK hs0 hH rfl (fs := [.null, .int 0, .null, .null, .null, .null, .null, .int 0, .null]) mk_fs0_4 (by omega) (by omega) dX3_init_57 (fun a6 H hH => ?_)
  refine lv_dup hx hb dX3_init_60 rfl ?_
  refine lv_iconst (v := 1) hx hb dX3_init_61 (by decide) ?_
  refine rw_callv (rw_runI (k_X4_init1 (X := X ++ [(q, .inr (2, [.int 0, .ref a1, .ref a2, .int 0, .ref a3, .ref a4, .ref a5, .null])), (a1, rw_J Y 1024), (a2, rw_I Y 200), (a3, rw_I Y 8), (a4, rw_I Y 8), (a5, rw_I Y 8)]) (q := a6)) hx hb hml hown hts hs0 hK hZ hH mw_38 mw_36 mw_37 tw_3 rfl hd_X4_init rfl rfl ⟨Nat.le_trans (Nat.le_of_ble_eq_true rfl) hRf, Nat.le_trans (Nat.le_of_ble_eq_true rfl) hRl⟩ rfl hl.1 rfl (Nat.le_of_ble_eq_true rfl) dX3_init_62 ⟨by omega, by omega⟩) hH (fun v1 H locs hH => ?_)
  have hH := rw_Happ (X := X) hH
  have hH : rw_H D s0 s.heap (X ++ ((q, .inr (2, [.int 0, .ref a1, .ref a2, .int 0, .ref a3, .ref a4, .ref a5, .null])) :: [(a1, rw_J Y 1024), (a2, rw_I Y 200), (a3, rw_I Y 8), (a4, rw_I Y 8), (a5, rw_I Y 8), (a6, .inr (3, [.ref (v1 6), .int 0, .ref (v1 1), .ref (v1 2), .ref (v1 3), .ref (v1 7), .ref (v1 4), .int 0, .ref (v1 5)])), ((v1 1), rw_I Y 0), ((v1 2), rw_I Y 0), ((v1 3), rw_I Y 0), ((v1 4), rw_I Y 0), ((v1 5), rw_I Y 0), ((v1 6), rw_J Y 64), ((v1 7), rw_I Y 64)])) H _ := hH
  refine rw_putF hx hb hts inX3 tyX3 tyX3_ok nmX3 hown hK hH rfl 7 (by decide) tw_96 (fun _ h9 => h9) rfl hnm rfl rfl rfl rfl (Nat.le_of_ble_eq_true rfl) dX3_init_65 (fun H locs hH => ?_)
  have hH : rw_H D s0 s.heap (X ++ ((q, .inr (2, [.int 0, .ref a1, .ref a2, .int 0, .ref a3, .ref a4, .ref a5, .ref a6])) :: [(a1, rw_J Y 1024), (a2, rw_I Y 200), (a3, rw_I Y 8), (a4, rw_I Y 8), (a5, rw_I Y 8), (a6, .inr (3, [.ref (v1 6), .int 0, .ref (v1 1), .ref (v1 2), .ref (v1 3), .ref (v1 7), .ref (v1 4), .int 0, .ref (v1 5)])), ((v1 1), rw_I Y 0), ((v1 2), rw_I Y 0), ((v1 3), rw_I Y 0), ((v1 4), rw_I Y 0), ((v1 5), rw_I Y 0), ((v1 6), rw_J Y 64), ((v1 7), rw_I Y 64)])) H _ := hH
  refine lv_aload_n hx hb dX3_init_68 rfl (lv_at hl 0 rfl) ?_
  refine rw_gf hx hb hts inX3 hown hK hH rfl 4 (by decide) (hts _ tw_93) (fun _ h9 => h9) rfl dX3_init_69 ?_
  refine lv_iconst (v := -1) hx hb dX3_init_72 (by decide) ?_
  refine rw_callv (rw_runS (rw_fill (X := X) (k := 3) (n := 8) rfl (by decide)) hx hb hml hown hts hs0 hK hZ hH tw_82 mw_80 tw_81 tw_4 hd_J7_fill_53178 rfl rfl ⟨Nat.le_trans (Nat.le_of_ble_eq_true rfl) hRf, Nat.le_trans (Nat.le_of_ble_eq_true rfl) hRl⟩ rfl hl.1 rfl (Nat.le_of_ble_eq_true rfl) dX3_init_73 ⟨by omega, by omega⟩) hH (fun _ H locs hH => ?_)
  have hH : rw_H D s0 s.heap (X ++ ((q, .inr (2, [.int 0, .ref a1, .ref a2, .int 0, .ref a3, .ref a4, .ref a5, .ref a6])) :: [(a1, rw_J Y 1024), (a2, rw_I Y 200), (a3, rw_M Y 8), (a4, rw_I Y 8), (a5, rw_I Y 8), (a6, .inr (3, [.ref (v1 6), .int 0, .ref (v1 1), .ref (v1 2), .ref (v1 3), .ref (v1 7), .ref (v1 4), .int 0, .ref (v1 5)])), ((v1 1), rw_I Y 0), ((v1 2), rw_I Y 0), ((v1 3), rw_I Y 0), ((v1 4), rw_I Y 0), ((v1 5), rw_I Y 0), ((v1 6), rw_J Y 64), ((v1 7), rw_I Y 64)])) H _ := hH
  exact rw_vret hx hb hr hlocks hQ (by omega) (by omega) hH (rw_u [q, a1, a2, a3, a4, a5, a6, (v1 1), (v1 2), (v1 3), (v1 4), (v1 5), (v1 6), (v1 7)]) rfl dX3_init_76
