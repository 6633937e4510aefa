/-! THE CLAIM OUT OF ONE WALK OF THE LAW'S BODY. Your part is whole_start (and what it stands on); all else here is the same for every law, but numbers. -/
def R_law : String := "RulePlateLaw"
def lw_P (b : Addr) (xs : List Int32) (args : Array Value) (s : State) : Prop := args = #[.ref b] ∧ s.IntsAt b xs ∧ xs.length ≤ 3072 ∧ (Jvm.Cond.and given_1 narrow_1).before args s = true
def lw_Q (_ : Array Value) (s : State) (o : Outcome) (t : State) : Prop := o = .returned (some (.int 1)) ∧ Framed s o t [] 600000 7302250
def lw_Z (below : List Frame) (a : Array Value) (s : State) : State → Prop := fun t => ∃ o, t.status = .running ∧ Ended t below o ∧ lw_Q a s o t
/-- the law's own end, with 1 on the stack, nothing written that was there before, its room as the claim has it -/
theorem lw_ret {p : Program} {l : Launch} {e : Env} {s : State} {m : MethodId} {below : List Frame} {meth : Method} {c : Code} {b : Nat} (hx : p.tables.exec = Jvm.exec) (hb : c.code = code) (hr : meth.sig.returnType = ret) (hlocks : meth.locks = false) {pc : Nat} {H : Heap} {ls : Array Slot} (hdg : decode code pc = .ok (.ireturn, 1)) : W p l e room_1 s m #[Value.ref b] below meth c H [] 600000 7302250 (lw_Z below #[Value.ref b] s) (F0 m pc ls [.int 1]) := by
  intro T hT X
  obtain ⟨fs, hret, hrun, hended, hW, hframe⟩ := X.leave (v := some (.int 1)) (hlocks := hlocks) (fun h => by rw [hr] at h; cases h)
  have hmeth' : T.vm.method? m = some meth := X.method'
  refine ⟨T.setFrames fs, ?_, .returned (some (.int 1)), hrun, hended, rfl, ⟨_, rfl⟩, hW, hframe⟩
  jvm_step X.here [X.here.top, hx, hb, hdg, hmeth', hr, ret, narrow_b1]
  (try refine ⟨rfl, ?_⟩); (try refine ⟨rfl, ?_⟩)
  first | (intro acts; rw [hret _ acts rfl rfl rfl]) | rw [hret _ _ rfl rfl rfl]
  exact Steps.refl _
/-- what holds at the law's entry: the machine, the code, the tables' words (any of lw_tbl by 'hts w (by decide +kernel)'), the script of L ints xs at the cell b, what the Statement gives of the start (any of its parts by flat_of_before) -/
def lw_At (p : Program) (s : State) (m : MethodId) (meth : Method) (c : Code) (b L : Nat) (xs : Nat → Int32) : Prop :=
  p.tables.exec = Jvm.exec ∧ c.code = code ∧ meth.sig.returnType = ret ∧ c.maxLocals = 4 ∧ s.vm.findClass R_law = some m.cls ∧ (∀ w ∈ lw_tbl, w.before #[Value.ref b] s = true) ∧ va_X b L xs s s.heap ∧ b < s.heap.size ∧ meth.locks = false ∧ (Jvm.Cond.and given_1 narrow_1).before #[Value.ref b] s = true
/-- what stays through the law's loop -/
def lw_K (D : va_G) (Y : nm_Y) (p : Program) (s : State) (m : MethodId) (c : Code) (b L : Nat) (xs : Nat → Int32) : Prop := p.tables.exec = Jvm.exec ∧ c.code = code ∧ c.maxLocals = 4 ∧ s.vm.findClass R_law = some m.cls ∧ (∀ w ∈ nm_T, w.before #[Value.ref b] s = true) ∧ nm_K D Y s ∧ nm_Z s ∧ va_X b L xs s s.heap ∧ b < s.heap.size
/-- what holds between calls: k calls are done, the script is read to 6 n -/
def lw_I (D : va_G) (Y : nm_Y) (s : State) (b n k : Nat) (nl : List Nat) (ad adM K : Nat → Nat) (S : ca) (I : nm_I) (H : Heap) (locs : List Loc) (cells slots : Nat) (ls : Array Slot) : Prop :=
  nm_H D Y (fun q => s.heap.size ≤ q) s.heap (nm_w moN adM (nm_E Y adM (I, nJ0, moZ))) nl ad (S.1.1, S.1.2, S.2, K) H locs ∧ cl_L nl K ∧ RR S K I ∧ cells ≤ 200 + k + 2 * pt S.2 ∧ slots ≤ 600000 + 9 * k + 2 * pt S.2 ∧ lv_has ls 4 [(0, .ref b), (1, .ref (ad 0)), (2, .ref (adM 0)), (3, .int (zI (6 * (n : Int))))]
def lw_G (D : va_G) (Y : nm_Y) (p : Program) (e : Env) (s : State) (m : MethodId) (below : List Frame) (meth : Method) (c : Code) (l : Launch) (b L : Nat) (xs : Nat → Int32) (pc : Nat) : Prop :=
  ∀ (n : Nat) (nl : List Nat) (ad adM K : Nat → Nat) (S : ca) (I : nm_I) (H : Heap) (locs : List Loc) (cells slots : Nat) (ls : Array Slot), 6 * n + 6 ≤ L → L ≤ 3072 → lw_I D Y s b n n nl ad adM K S I H locs cells slots ls →
    (∀ (nl : List Nat) (ad adM K : Nat → Nat) (S : ca) (I : nm_I) (H : Heap) (locs : List Loc) (cells slots : Nat) (ls : Array Slot), lw_I D Y s b n (n + 1) nl ad adM K S I H locs cells slots ls → W p l e room_1 s m #[Value.ref b] below meth c H locs cells slots (lw_Z below #[Value.ref b] s) (F0 m 1373 ls [])) →
    W p l e room_1 s m #[Value.ref b] below meth c H locs cells slots (lw_Z below #[Value.ref b] s) (F0 m pc ls [])
theorem lw_n0 : ¬ cl_sh 0 := by
  rintro ⟨c, k, h1, h2, h3⟩
  omega
theorem lw_bz (x : Bool) : narrow .boolean (.int (bq x)) = .int (bq x) ∧ fits .boolean (.int (bq x)) = true := by
  cases x <;> exact ⟨rfl, rfl⟩
theorem lw_swap {D : va_G} {Y : nm_Y} {A : Nat → Prop} {H0 H : Heap} {locs : List Loc} {nl1 nl2 : List Nat} {ad1 ad2 : Nat → Nat} {C1 C2 : nm_M} (h : nm_H D Y A H0 (nm_w nl2 ad2 (nm_E Y ad2 C2)) nl1 ad1 C1 H locs) : nm_H D Y A H0 (nm_w nl1 ad1 (nm_E Y ad1 C1)) nl2 ad2 C2 H locs := by
  obtain ⟨h1, h2, h3⟩ := h
  refine ⟨?_, ?_, h3⟩
  · rw [mk_P] at h1 ⊢
    intro x hx
    refine h1 x ?_
    unfold nm_W at hx ⊢
    rcases List.mem_append.mp hx with q | q
    · exact List.mem_append_right _ q
    · exact List.mem_append_left _ q
  · rw [mk_D] at h2 ⊢
    obtain ⟨g1, g2⟩ := h2
    refine ⟨?_, fun x hx => g2 x ?_⟩
    · unfold nm_W at g1 ⊢
      rw [List.map_append] at g1 ⊢
      rw [List.nodup_append] at g1 ⊢
      exact ⟨g1.2.1, g1.1, fun a ha b hb e => g1.2.2 b hb a ha e.symm⟩
    · unfold nm_W at hx ⊢
      rcases List.mem_append.mp hx with q | q
      · exact List.mem_append_right _ q
      · exact List.mem_append_left _ q
section LWR
variable {p : Program} {l : Launch} {e : Env} {R : Room} {s : State} {m : MethodId} {args : Array Value} {below : List Frame} {meth : Method} {c : Code} {H : Heap} {locs : List Loc} {cells slots : Nat} {Q : State → Prop}
variable {cc : ByteArray} {pc : Nat} {ls : Array Slot} {rest : List Value}
theorem lw_in {n j L : Nat} (hn : 6 * n + 6 ≤ L) (hL3 : L ≤ 3072) (hj : j < 6) : vp_in (zI (6 * (n : Int)) + zI (j : Int)) L ∧ (zI (6 * (n : Int)) + zI (j : Int)).toNatClampNeg = 6 * n + j := by
  rw [zI_add]
  have hcl : (zI (6 * (n : Int) + (j : Int))).toNatClampNeg = 6 * n + j := by
    rw [zI_cl (by omega) (by omega)]
    omega
  refine ⟨?_, hcl⟩
  intro q
  rcases q with q | q
  · rw [show (0 : Int32) = zI 0 from rfl, zI_lt (by omega) (by omega) (by omega) (by omega)] at q
    omega
  · rw [hcl] at q
    omega
/-- an int of the script: from the index's start and a constant -/
theorem lw_ld (hx : p.tables.exec = Jvm.exec) (hb : c.code = cc) {b L n j : Nat} {x1 x2 : Value} {xs : Nat → Int32} (hX : va_X b L xs s s.heap) (hbl : b < s.heap.size) (hS : va_S (fun q => s.heap.size ≤ q) s.heap H locs) (hl : lv_has ls 4 [(0, .ref b), (1, x1), (2, x2), (3, .int (zI (6 * (n : Int))))]) (hn : 6 * n + 6 ≤ L) (hL3 : L ≤ 3072) (hj : j < 6) (hdg0 : decode cc pc = .ok (.aload_n 0, 1)) (hdg1 : decode cc (pc + 1) = .ok (.iload_n 3, 1)) (hdg2 : decode cc (pc + 2) = .ok (.iconst (j : Int), 1)) (hdg3 : decode cc (pc + 3) = .ok (.iadd, 1)) (hdg4 : decode cc (pc + 4) = .ok (.iaload, 1))
    (kk : W p l e R s m args below meth c H locs cells slots Q (F0 m (pc + 5) ls (.int (xs (6 * n + j)) :: rest))) : W p l e R s m args below meth c H locs cells slots Q (F0 m pc ls rest) := by
  refine lv_aload_n hx hb hdg0 rfl (lv_at hl 0 rfl) ?_
  refine lv_iload_n hx hb hdg1 rfl (lv_at hl 3 rfl) ?_
  refine lv_iconst (v := zI (j : Int)) hx hb hdg2 rfl ?_
  refine lv_iadd hx hb hdg3 ?_
  have h := lw_in (n := n) (j := j) (L := L) hn hL3 hj
  refine va_sld hx hb hX hbl (Nat.not_le.mpr hbl) hS h.1 hdg4 ?_
  rw [h.2]
  exact kk
theorem lw_bool (hx : p.tables.exec = Jvm.exec) (hb : c.code = cc) {x : Int32} (d0 : decode cc pc = .ok (.ifCond .eq 7, 3)) (d1 : decode cc (pc + 3) = .ok (.iconst 1, 1)) (d2 : decode cc (pc + 4) = .ok (.goto 4, 3)) (d3 : decode cc (pc + 7) = .ok (.iconst 0, 1))
    (kk : W p l e R s m args below meth c H locs cells slots Q (F0 m (pc + 8) ls (.int (bq (decide (x ≠ 0))) :: rest))) : W p l e R s m args below meth c H locs cells slots Q (F0 m pc ls (.int x :: rest)) := by
  refine lv_if_eq (tgt := pc + 7) hx hb d0 (by omega) (fun h => ?_) (fun h => ?_)
  · refine lv_iconst (v := 0) hx hb d3 (by decide) ?_
    have e1 : bq (decide (x ≠ 0)) = 0 := by simp [bq, h]
    rw [e1] at kk
    exact kk
  · refine lv_iconst (v := 1) hx hb d1 (by decide) ?_
    refine lv_goto (tgt := pc + 8) hx hb d2 (by omega) ?_
    have e1 : bq (decide (x ≠ 0)) = 1 := by simp [bq, h]
    rw [e1] at kk
    exact kk
end LWR
