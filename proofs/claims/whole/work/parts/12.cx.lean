/-! contracts over named memory: the start of a method, its ends, calls -/
def nm_l {α β : Type} (v : α) (K : α → β) : β := K v
theorem nm_let {α β : Type} {v : α} {K : α → β} {o : β} (hf : nm_l v K = o) : ∃ x, x = v ∧ K x = o := ⟨v, rfl, hf⟩
def nm_c {β : Type} (i : Int32) (N : Nat) (K : Option β) : Option β := if 0 ≤ i.toInt ∧ i.toInt < N then K else none
theorem nm_chk {β : Type} {i : Int32} {N : Nat} {K : Option β} {o : β} (hf : nm_c i N K = some o) : vp_in i N ∧ K = some o := by
  unfold nm_c at hf
  split at hf
  · next h => exact ⟨vp_in_iff.mpr h, hf⟩
  · cases hf
theorem nm_c_ok {β : Type} {i : Int32} {N : Nat} {K : Option β} (h : vp_in i N) : nm_c i N K = K := if_pos (vp_in_iff.mp h)
/-- a boolean, as the machine has it -/
def nm_b {β : Type} (v : Int32) (K : Option β) : Option β := if v = 0 ∨ v = 1 then K else none
theorem nm_bool {β : Type} {v : Int32} {K : Option β} {o : β} (hf : nm_b v K = some o) : (narrow .boolean (.int v) = .int v ∧ fits .boolean (.int v) = true) ∧ K = some o := by
  unfold nm_b at hf
  split at hf
  · next h =>
    refine ⟨?_, hf⟩
    rcases h with h | h <;> subst h <;> exact ⟨rfl, rfl⟩
  · cases hf
theorem nm_b0 {β : Type} {K : Option β} : nm_b 0 K = K := rfl
theorem nm_b1 {β : Type} {K : Option β} : nm_b 1 K = K := rfl
theorem nm_it {α : Type} {c : Prop} [Decidable c] {a b o : α} (h : c) (hf : (if c then a else b) = o) : a = o := by rw [if_pos h] at hf; exact hf
theorem nm_ie {α : Type} {c : Prop} [Decidable c] {a b o : α} (h : ¬ c) (hf : (if c then a else b) = o) : b = o := by rw [if_neg h] at hf; exact hf
theorem nm_bd {α β : Type} {x : Option α} {K : α → Option β} {o : β} (hf : x.bind K = some o) : ∃ y, x = some y ∧ K y = some o := Option.bind_eq_some_iff.mp hf
theorem nm_kx {σ β : Type} {F : (σ → Option β) → Option β} {k0 : σ → Option β} {o : β} (h : F k0 = some o) : ∃ k, k = k0 ∧ F k = some o := ⟨k0, rfl, h⟩
/-- the loops' fuel -/
def nm_F : Nat := 1000000
def nm_up (I : Nat → Nat → Int32) (n k : Nat) (v : Int32) : Nat → Nat → Int32 := va_up I n (upd (I n) k v)
def nm_upJ (I : Nat → Nat → Int64) (n k : Nat) (v : Int64) : Nat → Nat → Int64 := va_up I n (vp_updL (I n) k v)
/-- what the tables say beside the words: who may call whom in the nest, which class is of which -/
def nm_Z (U : State) : Prop :=
  (va_Nw (.methodLinkNest "RulePlate$Cell" 135 yX11_outside "RulePlate") U ∧ va_Nw (.methodLinkNest "RulePlate$Circuit" 145 yX11_outside "RulePlate") U ∧ va_Nw (.methodLinkNest "RulePlate$Wish" 80 yX11_outside "RulePlate") U) ∧
  (va_Nw (.methodLinkNest "RulePlate" 24 yX8_init "RulePlate") U ∧ va_Nw (.methodLinkNest "RulePlate" 31 yX2_init "RulePlate") U ∧ va_Nw (.methodLinkNest "RulePlate" 38 yX10_init "RulePlate") U ∧ va_Nw (.methodLinkNest "RulePlate" 59 yX1_init "RulePlate") U ∧ va_AO "RulePlate$Cell" U ∧ va_AO "RulePlate$Shape" U) ∧
  (va_Nw (.castable "RulePlate$Patch" "RulePlate$Shape") U ∧ va_Nw (.castable "RulePlate$Label" "RulePlate$Shape") U ∧ va_Nw (.castable "RulePlate$Put" "RulePlate$Shape") U) ∧
  (va_Nc "RulePlate$Patch" "RulePlate$Label" U ∧ va_Nc "RulePlate$Patch" "RulePlate$Put" U ∧ va_Nc "RulePlate$Label" "RulePlate$Patch" U ∧ va_Nc "RulePlate$Label" "RulePlate$Put" U ∧ va_Nc "RulePlate$Put" "RulePlate$Patch" U ∧ va_Nc "RulePlate$Put" "RulePlate$Label" U)
theorem nm_Z.warm {s U : State} (hW : s.WarmedH U.vm) (h : nm_Z s) : nm_Z U := by
  obtain ⟨⟨a1, a2, a3⟩, ⟨b1, b2, b3, b4, b5, b6⟩, ⟨c1, c2, c3⟩, d1, d2, d3, d4, d5, d6⟩ := h
  exact ⟨⟨va_Nw.warmM hW a1, va_Nw.warmM hW a2, va_Nw.warmM hW a3⟩, ⟨va_Nw.warmM hW b1, va_Nw.warmM hW b2, va_Nw.warmM hW b3, va_Nw.warmM hW b4, va_AO.moved hW.alike b5, va_AO.moved hW.alike b6⟩, ⟨va_Nw.warmC hW c1, va_Nw.warmC hW c2, va_Nw.warmC hW c3⟩, va_Nc.moved hW.alike d1, va_Nc.moved hW.alike d2, va_Nc.moved hW.alike d3, va_Nc.moved hW.alike d4, va_Nc.moved hW.alike d5, va_Nc.moved hW.alike d6⟩
theorem nm_Z.same {s U : State} (hW : s.vm = U.vm) (h : nm_Z s) : nm_Z U := by
  obtain ⟨⟨a1, a2, a3⟩, ⟨b1, b2, b3, b4, b5, b6⟩, ⟨c1, c2, c3⟩, d1, d2, d3, d4, d5, d6⟩ := h
  have hv : s.vm.Alike U.vm := by rw [hW]; exact Vm.Alike.refl _
  exact ⟨⟨va_Nw.same rfl hW a1, va_Nw.same rfl hW a2, va_Nw.same rfl hW a3⟩, ⟨va_Nw.same rfl hW b1, va_Nw.same rfl hW b2, va_Nw.same rfl hW b3, va_Nw.same rfl hW b4, va_AO.moved hv b5, va_AO.moved hv b6⟩, ⟨va_Nw.same rfl hW c1, va_Nw.same rfl hW c2, va_Nw.same rfl hW c3⟩, va_Nc.moved hv d1, va_Nc.moved hv d2, va_Nc.moved hv d3, va_Nc.moved hv d4, va_Nc.moved hv d5, va_Nc.moved hv d6⟩
def nm_B (D : va_G) (Y : nm_Y) (s0 : Nat) (ws : va_W) (U : State) : Prop := s0 ≤ U.heap.size ∧ va_P D vwCl ws U.heap ∧ nm_K D Y U ∧ nm_Z U ∧ va_D (fun q => s0 ≤ q) ws
def nm_R (D : va_G) (s0 : Nat) (ws : va_W) (t : State) : Prop := va_P D vwCl ws t.heap ∧ va_D (fun q => s0 ≤ q) ws
abbrev nm_Qi (D : va_G) (s0 : Nat) (r0 : Int32) (ws : va_W) : Array Value → State → Outcome → State → Prop := va_Qi (fun r (_ : Unit) => r = r0) (fun _ t => nm_R D s0 ws t) (fun q => s0 ≤ q)
abbrev nm_Ql (D : va_G) (s0 : Nat) (r0 : Int64) (ws : va_W) : Array Value → State → Outcome → State → Prop := va_Ql (fun r (_ : Unit) => r = r0) (fun _ t => nm_R D s0 ws t) (fun q => s0 ≤ q)
abbrev nm_Qv (D : va_G) (s0 : Nat) (ws : va_W) : Array Value → State → Outcome → State → Prop := va_Qv (fun (_ : Unit) => True) (fun _ t => nm_R D s0 ws t) (fun q => s0 ≤ q)
abbrev nm_Met (l : Launch) (y : MethodName) (bytes : ByteArray) (maxL : Nat) (ret : Option FieldType) (rm : Room) (av : List Value) (D : va_G) (Y : nm_Y) (s0 : Nat) (ws : va_W) (Q : Array Value → State → Outcome → State → Prop) (mc ms : Nat) : Prop :=
  Met l y (Cond.code y bytes maxL ret :: nm_T) rm (va_Pc av (nm_B D Y s0 ws)) Q mc ms (fun q => s0 ≤ q)
theorem nm_B.blind {D : va_G} {Y : nm_Y} {s0 : Nat} {ws : va_W} {av : List Value} : FrameBlind (va_Pc av (nm_B D Y s0 ws)) := by
  intro a U g mk q
  obtain ⟨q0, q1, q2, q3, q4, q5⟩ := q
  exact ⟨q0, q1, q2, va_K.moved (u := U) (U := U.calling g mk a) (Vm.Alike.refl U.vm) q3, nm_Z.same rfl q4, q5⟩
/-- the start of a method -/
theorem nm_of {l : Launch} {y : MethodName} {cc : ByteArray} {maxL fr lo mc ms : Nat} {ret : Option FieldType} {av : List Value} {D : va_G} {Y : nm_Y} {s0 : Nat} {ws : va_W} {Qc : Array Value → State → Outcome → State → Prop} (hy : plainName y.cls = true) (hn : (lg_sl av).length ≤ maxL)
    (body : ∀ (p : Program) (e : Env) (R : Room) (s : State) (m : MethodId) (args : Array Value) (below : List Frame) (meth : Method) (c : Code) (Q : State → Prop) (ls : Array Slot), p.tables.exec = Jvm.exec → c.code = cc → meth.sig.returnType = ret → meth.locks = false → c.maxLocals = maxL → s.vm.findClass y.cls = some m.cls → (∀ w ∈ nm_T, w.before args s = true) → s0 ≤ s.heap.size → nm_K D Y s → nm_Z s → fr ≤ R.frames → lo ≤ R.locals → R.cells = mc → R.slots = ms → Q = MQ below Qc args s mc ms (fun q => s0 ≤ q) → va_P D vwCl ws s.heap → va_D (fun q => s0 ≤ q) ws → lv_has ls maxL (lv_args 0 av) →
      W p l e R s m args below meth c s.heap [] 0 0 Q (F0 m 0 ls [])) : nm_Met l y cc maxL ret { frames := fr, cells := mc, slots := ms, locals := lo } av D Y s0 ws Qc mc ms := by
  refine Met.ofW (cc := cc) (maxL := maxL) (ret := ret) hy rfl ?_
  intro p e s m args below meth c s₁ B hml hv
  obtain ⟨rfl, hsz, hP, hK, hZ, hD⟩ := hv
  have hts0 := atoms_spec (ws := Cond.code y cc maxL ret :: nm_T) B.pre
  have hl := lv_entry av (n := maxL) hn
  rw [lg_entry_eq]
  exact body p e _ s m _ below meth c _ _ B.exec B.bytes B.returns B.notSynchronized hml (findClass_of_methodNamed B.named) (fun w h => hts0 w (List.mem_cons_of_mem _ h)) hsz hK hZ (Nat.le_refl _) (Nat.le_refl _) rfl rfl rfl hP hD hl
section CX
variable {p : Program} {l : Launch} {e : Env} {R : Room} {s : State} {m : MethodId} {args : Array Value} {below : List Frame} {meth : Method} {c : Code} {H : Heap} {locs : List Loc} {cells slots : Nat} {Q : State → Prop}
variable {cc : ByteArray} {pc : Nat} {ls : Array Slot} {rest : List Value}
variable {D : va_G} {Y : nm_Y} {X : va_W} {nl : List Nat} {ad : Nat → Nat} {C C' : nm_M} {s0 : Nat}
theorem nm_iret (hx : p.tables.exec = Jvm.exec) (hb : c.code = cc) (hr : meth.sig.returnType = some .int) (hlocks : meth.locks = false) {v r0 : Int32} (hQ : Q = MQ below (nm_Qi D s0 r0 (nm_W Y X nl ad C')) args s cells slots (fun q => s0 ≤ q)) (hH : nm_H D Y (fun q => s0 ≤ q) s.heap X nl ad C H locs) (e1 : v = r0) (e2 : C = C') (hdg : decode cc pc = .ok (.ireturn, 1)) :
    W p l e R s m args below meth c H locs cells slots Q (F0 m pc ls [.int v]) := by
  subst e2
  subst hQ
  exact W.iret (v := v) hx hb hr (fun t ht hW => ⟨⟨v, (), rfl, e1, by rw [ht]; exact hH.1, hH.2.1⟩, hH.2.2.F ht⟩) hH.2.2.2.2 hdg hlocks
theorem nm_zret (hx : p.tables.exec = Jvm.exec) (hb : c.code = cc) (hr : meth.sig.returnType = some .boolean) (hlocks : meth.locks = false) {v r0 : Int32} (hQ : Q = MQ below (nm_Qi D s0 r0 (nm_W Y X nl ad C')) args s cells slots (fun q => s0 ≤ q)) (hH : nm_H D Y (fun q => s0 ≤ q) s.heap X nl ad C H locs) (hn : narrow .boolean (.int v) = .int v) (e1 : v = r0) (e2 : C = C') (hdg : decode cc pc = .ok (.ireturn, 1)) :
    W p l e R s m args below meth c H locs cells slots Q (F0 m pc ls [.int v]) := by
  subst e2
  subst hQ
  exact W.zret (v := v) hx hb hr hn (fun t ht hW => ⟨⟨v, (), rfl, e1, by rw [ht]; exact hH.1, hH.2.1⟩, hH.2.2.F ht⟩) hH.2.2.2.2 hdg hlocks
theorem nm_lret (hx : p.tables.exec = Jvm.exec) (hb : c.code = cc) (hr : meth.sig.returnType = some .long) (hlocks : meth.locks = false) {v r0 : Int64} (hQ : Q = MQ below (nm_Ql D s0 r0 (nm_W Y X nl ad C')) args s cells slots (fun q => s0 ≤ q)) (hH : nm_H D Y (fun q => s0 ≤ q) s.heap X nl ad C H locs) (e1 : v = r0) (e2 : C = C') (hdg : decode cc pc = .ok (.lreturn, 1)) :
    W p l e R s m args below meth c H locs cells slots Q (F0 m pc ls [.long v]) := by
  subst e2
  subst hQ
  exact W.lret (v := v) hx hb hr (fun t ht hW => ⟨⟨v, (), rfl, e1, by rw [ht]; exact hH.1, hH.2.1⟩, hH.2.2.F ht⟩) hH.2.2.2.2 hdg hlocks
theorem nm_vret (hx : p.tables.exec = Jvm.exec) (hb : c.code = cc) (hr : meth.sig.returnType = none) (hlocks : meth.locks = false) (hQ : Q = MQ below (nm_Qv D s0 (nm_W Y X nl ad C')) args s cells slots (fun q => s0 ≤ q)) (hH : nm_H D Y (fun q => s0 ≤ q) s.heap X nl ad C H locs) (e2 : C = C') (hdg : decode cc pc = .ok (.return_, 1)) :
    W p l e R s m args below meth c H locs cells slots Q (F0 m pc ls []) := by
  subst e2
  subst hQ
  exact W.vret hx hb hr (fun t ht hW => ⟨⟨(), rfl, trivial, by rw [ht]; exact hH.1, hH.2.1⟩, hH.2.2.F ht⟩) hH.2.2.2.2 hdg hlocks
/-- what every call of a method takes: its contract's start holds here -/
theorem nm_pre (hK : nm_K D Y s) (hZ : nm_Z s) (hs0 : s0 ≤ s.heap.size) (hH : nm_H D Y (fun q => s0 ≤ q) s.heap X nl ad C H locs) (av : List Value) : ∀ U : State, U.heap = H → s.WarmedH U.vm → va_Pc av (nm_B D Y s0 (nm_W Y X nl ad C)) av.toArray U := by
  intro U hU hW
  exact ⟨rfl, by rw [hU]; exact Nat.le_trans hs0 hH.2.2.1, by rw [hU]; exact hH.1, va_K.moved hW.alike hK, nm_Z.warm hW hZ, hH.2.1⟩
abbrev nm_hd (y : MethodName) (n : Nat) : Prop := y.cls ≠ "java/lang/invoke/MethodHandle" ∧ y.cls ≠ "java/lang/invoke/VarHandle" ∧ (parseMethodDescriptor y.desc).map (fun d => d.parameters.length) = some n
theorem nm_runV {y : MethodName} {bytes : ByteArray} {maxL nL n index mc ms ci nn N : Nat} {ret : Option FieldType} {rm : Room} {As st : List Value} {own : String} {T : u_T} {Qc : Array Value → State → Outcome → State → Prop}
    (hM : nm_Met l y bytes maxL ret rm (.ref (ad nn) :: As) D Y s0 (nm_W Y X nl ad C) Qc mc ms) (hx : p.tables.exec = Jvm.exec) (hb : c.code = cc) (hml : c.maxLocals = nL) (hown : s.vm.findClass own = some m.cls) (hts : ∀ w ∈ nm_T, w.before args s = true) (hs0 : s0 ≤ s.heap.size) (hK : nm_K D Y s) (hZ : nm_Z s) (hH : nm_H D Y (fun q => s0 ≤ q) s.heap X nl ad C H locs)
    (hcd : Cond.code y bytes maxL ret ∈ nm_T) (hlk : Cond.methodLink own index y ∈ nm_T) (him : Cond.instanceMethod y ∈ nm_T) (hse : Cond.selects y.cls y y ∈ nm_T) (hin : Cond.initialized y.cls ∈ nm_T) (hd : nm_hd y n) (hn : nn ∈ nl) (hk : C.2.2.2 nn = ci + 1) (hc9 : ci < 19) (hc : vwCl[ci]? = some (y.cls, T, N))
    (hrc : rm.cells = mc) (hrs : rm.slots = ms) (hR : rm.frames + 1 ≤ R.frames ∧ 8 + (maxL + 11) + rm.locals ≤ R.locals) (hlen : As.length = n) (hsz : ls.size = nL) (hst : st = As.reverse ++ .ref (ad nn) :: rest) (hW8 : (rest.map fun v => v.category).sum ≤ 8) (hdg : decode cc pc = .ok (.invokevirtual index, 3)) (hf : cells + mc ≤ R.cells ∧ slots + ms ≤ R.slots) :
    va_Run p l e R s m args below meth c H locs cells slots mc ms (F0 m pc ls st) rest (Qc (Value.ref (ad nn) :: As).toArray) (fun q => s0 ≤ q) := by
  obtain ⟨q0, hq⟩ := nm_wget (X := X) (ad := ad) (E := nm_E Y ad C) hn
  rw [nm_E_obj hk hc9] at hq
  refine va_runV (own := own) (Ts := nm_T) (C := y.cls) (n := n) (bytes := bytes) (maxL := maxL) (ret := ret) (ws := Cond.code y bytes maxL ret :: nm_T) ⟨hx, hb, hml, hown, hts⟩ hM ?_ ⟨nm_B.blind, va_recv hK hH.1 hc hq, nm_pre hK hZ hs0 hH _⟩ rfl hlen hsz hst (lv_room hW8) hdg hf
  refine cwV n hts ?_ rfl hrc hrs ⟨rfl, hd⟩ hR
  intro w hw
  unfold wsV at hw
  rcases List.mem_append.mp hw with h | h
  · have hw' : w ∈ nm_T := by
      simp only [List.mem_cons, List.not_mem_nil, or_false] at h
      rcases h with h | h | h | h <;> subst h <;> assumption
    exact ⟨hw', good_of_word (List.mem_filter.mp hw').2⟩
  · exact nm_gd (fun _ h => h) hcd w h
theorem nm_runS {y : MethodName} {bytes : ByteArray} {maxL nL n index mc ms : Nat} {ret : Option FieldType} {rm : Room} {As st : List Value} {own : String} {Qc : Array Value → State → Outcome → State → Prop}
    (hM : nm_Met l y bytes maxL ret rm As D Y s0 (nm_W Y X nl ad C) Qc mc ms) (hx : p.tables.exec = Jvm.exec) (hb : c.code = cc) (hml : c.maxLocals = nL) (hown : s.vm.findClass own = some m.cls) (hts : ∀ w ∈ nm_T, w.before args s = true) (hs0 : s0 ≤ s.heap.size) (hK : nm_K D Y s) (hZ : nm_Z s) (hH : nm_H D Y (fun q => s0 ≤ q) s.heap X nl ad C H locs)
    (hcd : Cond.code y bytes maxL ret ∈ nm_T) (hlk : Cond.methodLink own index y ∈ nm_T) (hse : Cond.static y ∈ nm_T) (hin : Cond.initialized y.cls ∈ nm_T) (hd : nm_hd y n)
    (hrc : rm.cells = mc) (hrs : rm.slots = ms) (hR : rm.frames + 1 ≤ R.frames ∧ 8 + (maxL + 11) + rm.locals ≤ R.locals) (hlen : As.length = n) (hsz : ls.size = nL) (hst : st = As.reverse ++ rest) (hW8 : (rest.map fun v => v.category).sum ≤ 8) (hdg : decode cc pc = .ok (.invokestatic index, 3)) (hf : cells + mc ≤ R.cells ∧ slots + ms ≤ R.slots) :
    va_Run p l e R s m args below meth c H locs cells slots mc ms (F0 m pc ls st) rest (Qc As.toArray) (fun q => s0 ≤ q) := by
  refine va_runS (own := own) (Ts := nm_T) (n := n) (bytes := bytes) (maxL := maxL) (ret := ret) (ws := Cond.code y bytes maxL ret :: nm_T) ⟨hx, hb, hml, hown, hts⟩ hM ?_ ⟨nm_B.blind, nm_pre hK hZ hs0 hH _⟩ rfl hlen hsz hst (lv_room hW8) hdg hf
  refine va_cwS n hts ?_ rfl hrc hrs hd hR
  intro w hw
  unfold va_wsS at hw
  rcases List.mem_append.mp hw with h | h
  · have hw' : w ∈ nm_T := by
      simp only [List.mem_cons, List.not_mem_nil, or_false] at h
      rcases h with h | h | h <;> subst h <;> assumption
    exact ⟨hw', good_of_word (List.mem_filter.mp hw').2⟩
  · exact nm_gd (fun _ h => h) hcd w h
theorem nm_runSN {y : MethodName} {bytes : ByteArray} {maxL nL n index mc ms : Nat} {ret : Option FieldType} {rm : Room} {As st : List Value} {own host : String} {Qc : Array Value → State → Outcome → State → Prop}
    (hM : nm_Met l y bytes maxL ret rm As D Y s0 (nm_W Y X nl ad C) Qc mc ms) (hx : p.tables.exec = Jvm.exec) (hb : c.code = cc) (hml : c.maxLocals = nL) (hown : s.vm.findClass own = some m.cls) (hts : ∀ w ∈ nm_T, w.before args s = true) (hs0 : s0 ≤ s.heap.size) (hK : nm_K D Y s) (hZ : nm_Z s) (hH : nm_H D Y (fun q => s0 ≤ q) s.heap X nl ad C H locs)
    (hcd : Cond.code y bytes maxL ret ∈ nm_T) (hlk : va_Nw (.methodLinkNest own index y host) s) (hse : Cond.static y ∈ nm_T) (hin : Cond.initialized y.cls ∈ nm_T) (hd : nm_hd y n)
    (hrc : rm.cells = mc) (hrs : rm.slots = ms) (hR : rm.frames + 1 ≤ R.frames ∧ 8 + (maxL + 11) + rm.locals ≤ R.locals) (hlen : As.length = n) (hsz : ls.size = nL) (hst : st = As.reverse ++ rest) (hW8 : (rest.map fun v => v.category).sum ≤ 8) (hdg : decode cc pc = .ok (.invokestatic index, 3)) (hf : cells + mc ≤ R.cells ∧ slots + ms ≤ R.slots) :
    va_Run p l e R s m args below meth c H locs cells slots mc ms (F0 m pc ls st) rest (Qc As.toArray) (fun q => s0 ≤ q) := by
  exact va_runSN (own := own) (Ts := nm_T) (n := n) (bytes := bytes) (maxL := maxL) (ret := ret) (ws := Cond.code y bytes maxL ret :: nm_T) ⟨hx, hb, hml, hown, hts⟩ hM ⟨va_cnB n hts (nm_gd (fun _ h => h) hcd) rfl hrc hrs hlk (hts _ hin) hd hR, hts _ hse, trivial⟩ ⟨nm_B.blind, nm_pre hK hZ hs0 hH _⟩ rfl hlen hsz hst (lv_room hW8) hdg hf
theorem nm_calli {r0 : Int32} {st : List Value} {a : Array Value} {X' : va_W} {nl' : List Nat} {ad' : Nat → Nat} (hrun : va_Run p l e R s m args below meth c H locs cells slots 0 0 (F0 m pc ls st) rest (nm_Qi D s0 r0 (nm_W Y X' nl' ad' C') a) (fun q => s0 ≤ q)) (hH : nm_H D Y (fun q => s0 ≤ q) s.heap X nl ad C H locs)
    (kk : ∀ (H : Heap) (locs : List Loc), nm_H D Y (fun q => s0 ≤ q) s.heap X' nl' ad' C' H locs → W p l e R s m args below meth c H locs cells slots Q (F0 m (pc + 3) ls (.int r0 :: rest))) : W p l e R s m args below meth c H locs cells slots Q (F0 m pc ls st) := by
  refine va_calli hrun hH.2.2 (fun q _ h => h) (fun q h => h) (fun r u t H1 locs1 ht hvm hp hB hz1 hk1 hS1 => ?_)
  subst hp
  have hB2 : nm_R D s0 (nm_W Y X' nl' ad' C') t := hB
  exact kk H1 locs1 ⟨by rw [← ht]; exact hB2.1, hB2.2, hS1⟩
theorem nm_calll {r0 : Int64} {st : List Value} {a : Array Value} {X' : va_W} {nl' : List Nat} {ad' : Nat → Nat} (hrun : va_Run p l e R s m args below meth c H locs cells slots 0 0 (F0 m pc ls st) rest (nm_Ql D s0 r0 (nm_W Y X' nl' ad' C') a) (fun q => s0 ≤ q)) (hH : nm_H D Y (fun q => s0 ≤ q) s.heap X nl ad C H locs)
    (kk : ∀ (H : Heap) (locs : List Loc), nm_H D Y (fun q => s0 ≤ q) s.heap X' nl' ad' C' H locs → W p l e R s m args below meth c H locs cells slots Q (F0 m (pc + 3) ls (.long r0 :: rest))) : W p l e R s m args below meth c H locs cells slots Q (F0 m pc ls st) := by
  refine va_calll hrun hH.2.2 (fun q _ h => h) (fun q h => h) (fun r u t H1 locs1 ht hvm hp hB hz1 hk1 hS1 => ?_)
  subst hp
  have hB2 : nm_R D s0 (nm_W Y X' nl' ad' C') t := hB
  exact kk H1 locs1 ⟨by rw [← ht]; exact hB2.1, hB2.2, hS1⟩
theorem nm_callv {st : List Value} {a : Array Value} {X' : va_W} {nl' : List Nat} {ad' : Nat → Nat} (hrun : va_Run p l e R s m args below meth c H locs cells slots 0 0 (F0 m pc ls st) rest (nm_Qv D s0 (nm_W Y X' nl' ad' C') a) (fun q => s0 ≤ q)) (hH : nm_H D Y (fun q => s0 ≤ q) s.heap X nl ad C H locs)
    (kk : ∀ (H : Heap) (locs : List Loc), nm_H D Y (fun q => s0 ≤ q) s.heap X' nl' ad' C' H locs → W p l e R s m args below meth c H locs cells slots Q (F0 m (pc + 3) ls rest)) : W p l e R s m args below meth c H locs cells slots Q (F0 m pc ls st) := by
  refine va_callv hrun hH.2.2 (fun q _ h => h) (fun q h => h) (fun u t H1 locs1 ht hvm hp hB hz1 hk1 hS1 => ?_)
  have hB2 : nm_R D s0 (nm_W Y X' nl' ad' C') t := hB
  exact kk H1 locs1 ⟨by rw [← ht]; exact hB2.1, hB2.2, hS1⟩
theorem nm_topi {x y : Int32} (h : y = x) (k : W p l e R s m args below meth c H locs cells slots Q (F0 m pc ls (.int y :: rest))) : W p l e R s m args below meth c H locs cells slots Q (F0 m pc ls (.int x :: rest)) := h ▸ k
theorem nm_topl {x y : Int64} (h : y = x) (k : W p l e R s m args below meth c H locs cells slots Q (F0 m pc ls (.long y :: rest))) : W p l e R s m args below meth c H locs cells slots Q (F0 m pc ls (.long x :: rest)) := h ▸ k
def nm_s1 {α β : Type} (x : Option α) (K : α → Option β) : Option β := x.bind K
def nm_s2 {α1 α2 β : Type} (x : Option (α1 × α2)) (K : α1 → α2 → Option β) : Option β := x.bind (fun p => K p.1 p.2)
def nm_s3 {α1 α2 α3 β : Type} (x : Option (α1 × α2 × α3)) (K : α1 → α2 → α3 → Option β) : Option β := x.bind (fun p => K p.1 p.2.1 p.2.2)
def nm_s4 {α1 α2 α3 α4 β : Type} (x : Option (α1 × α2 × α3 × α4)) (K : α1 → α2 → α3 → α4 → Option β) : Option β := x.bind (fun p => K p.1 p.2.1 p.2.2.1 p.2.2.2)
def nm_s5 {α1 α2 α3 α4 α5 β : Type} (x : Option (α1 × α2 × α3 × α4 × α5)) (K : α1 → α2 → α3 → α4 → α5 → Option β) : Option β := x.bind (fun p => K p.1 p.2.1 p.2.2.1 p.2.2.2.1 p.2.2.2.2)
theorem nm_sd1 {α β : Type} {x : Option α} {K : α → Option β} {o : β} (hf : nm_s1 x K = some o) : ∃ y, x = some y ∧ K y = some o := Option.bind_eq_some_iff.mp hf
theorem nm_sd2 {α1 α2 β : Type} {x : Option (α1 × α2)} {K : α1 → α2 → Option β} {o : β} (hf : nm_s2 x K = some o) : ∃ a b, x = some (a, b) ∧ K a b = some o := by
  obtain ⟨y, h1, h2⟩ := Option.bind_eq_some_iff.mp hf
  exact ⟨_, _, h1, h2⟩
theorem nm_sd3 {α1 α2 α3 β : Type} {x : Option (α1 × α2 × α3)} {K : α1 → α2 → α3 → Option β} {o : β} (hf : nm_s3 x K = some o) : ∃ a b c, x = some (a, b, c) ∧ K a b c = some o := by
  obtain ⟨y, h1, h2⟩ := Option.bind_eq_some_iff.mp hf
  exact ⟨_, _, _, h1, h2⟩
theorem nm_sd4 {α1 α2 α3 α4 β : Type} {x : Option (α1 × α2 × α3 × α4)} {K : α1 → α2 → α3 → α4 → Option β} {o : β} (hf : nm_s4 x K = some o) : ∃ a b c d, x = some (a, b, c, d) ∧ K a b c d = some o := by
  obtain ⟨y, h1, h2⟩ := Option.bind_eq_some_iff.mp hf
  exact ⟨_, _, _, _, h1, h2⟩
theorem nm_sd5 {α1 α2 α3 α4 α5 β : Type} {x : Option (α1 × α2 × α3 × α4 × α5)} {K : α1 → α2 → α3 → α4 → α5 → Option β} {o : β} (hf : nm_s5 x K = some o) : ∃ a b c d f, x = some (a, b, c, d, f) ∧ K a b c d f = some o := by
  obtain ⟨y, h1, h2⟩ := Option.bind_eq_some_iff.mp hf
  exact ⟨_, _, _, _, _, h1, h2⟩
theorem nm_eqC (h : C = C') (hH : nm_H D Y (fun q => s0 ≤ q) s.heap X nl ad C H locs) : nm_H D Y (fun q => s0 ≤ q) s.heap X nl ad C' H locs := h ▸ hH
end CX
