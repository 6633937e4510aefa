/-! constructors, over worlds as lists -/
abbrev rw_H (D : va_G) (s0 : Nat) (H0 : Heap) (ws : va_W) (H : Heap) (locs : List Loc) : Prop := va_P D vwCl ws H ∧ va_D (fun q => s0 ≤ q) ws ∧ va_S (fun q => s0 ≤ q) H0 H locs
abbrev rw_Q (D : va_G) (s0 : Nat) (W : (Nat → Nat) → va_W) : Array Value → State → Outcome → State → Prop := va_Qv (fun (_ : Nat → Nat) => True) (fun u t => nm_R D s0 (W u) t) (fun q => s0 ≤ q)
def rw_u (l : List Nat) (k : Nat) : Nat := l.getD k 0
theorem rw_get {X L : va_W} {x : Nat × va_E} : (X ++ (x :: L))[X.length]? = some x := by
  rw [List.getElem?_append_right (Nat.le_refl _), Nat.sub_self]
  rfl
theorem rw_set {X L : va_W} {x y : Nat × va_E} : (X ++ (x :: L)).set X.length y = X ++ (y :: L) := by
  rw [List.set_append_right _ _ (Nat.le_refl _), Nat.sub_self]
  rfl
theorem rw_app {X L L2 : va_W} {x : Nat × va_E} : (X ++ (x :: L)) ++ L2 = X ++ (x :: (L ++ L2)) := by
  rw [List.append_assoc]
  rfl
section RW
variable {p : Program} {l : Launch} {e : Env} {R : Room} {s : State} {m : MethodId} {args : Array Value} {below : List Frame} {meth : Method} {c : Code} {H : Heap} {locs : List Loc} {cells slots : Nat} {Q : State → Prop}
variable {cc : ByteArray} {pc : Nat} {ls : Array Slot} {rest : List Value}
variable {D : va_G} {Y : nm_Y} {X L : va_W} {s0 : Nat} {H0 : Heap}
theorem rw_putF (hx : p.tables.exec = Jvm.exec) (hb : c.code = cc) {own ref CC : String} {T : u_T} {N ci index : Nat} (hts : ∀ w ∈ nm_T, w.before args s = true) (hin : ∀ w ∈ u_ws CC T N, w ∈ nm_T) (ty0 : Nat → FieldType) (hty : ∀ k, k < N → parseFieldDescriptor (T k).2.2.1 = some (ty0 k)) (hnm : ∀ a, a < N → ∀ b, b < N → a ≠ b → (T a).2.1 ≠ (T b).2.1) (hown : s.vm.findClass own = some m.cls) (hK : nm_K D Y s) {q : Nat} {fs : List Value} (hH : rw_H D s0 H0 (X ++ ((q, .inr (ci, fs)) :: L)) H locs) (hc : vwCl[ci]? = some (CC, T, N)) (k : Nat) (hkN : k < N) (hlk : Cond.fieldLink own index ref (T k).2.1 (T k).2.2.1 ∈ nm_T) (hsame : ∀ x, s.fieldFound? (T k).1 (T k).2.1 (T k).2.2.1 = some x → s.fieldFound? ref (T k).2.1 (T k).2.2.1 = some x) (hfin : (T k).2.2.2 = true) (hin2 : meth.name = "<init>") (hdecl : (T k).1 = own) {ty : FieldType} {v : Value} (hd : parseFieldDescriptor (T k).2.2.1 = some ty) (hnr : narrow ty v = v) (hfit : fits ty v = true) (hl : k < fs.length) (hdg : decode cc pc = .ok (.putfield index, 3))
    (kk : ∀ (H : Heap) (locs : List Loc), rw_H D s0 H0 (X ++ ((q, .inr (ci, fs.set k v)) :: L)) H locs → W p l e R s m args below meth c H locs cells slots Q (F0 m (pc + 3) ls rest)) : W p l e R s m args below meth c H locs cells slots Q (F0 m pc ls (v :: .ref q :: rest)) := by
  refine va_putF hx hb hts hin ty0 hty hnm hown hK hH.1 hH.2.1 hH.2.2 X.length rw_get hc k hkN (hts _ hlk) hsame hfin hin2 hdecl hd hnr hfit hl hdg (fun H1 locs1 hP1 hD1 hS1 => kk H1 locs1 ?_)
  rw [rw_set] at hP1 hD1
  exact ⟨hP1, hD1, hS1⟩
theorem rw_put (hx : p.tables.exec = Jvm.exec) (hb : c.code = cc) {own ref CC : String} {T : u_T} {N ci index : Nat} (hts : ∀ w ∈ nm_T, w.before args s = true) (hin : ∀ w ∈ u_ws CC T N, w ∈ nm_T) (ty0 : Nat → FieldType) (hty : ∀ k, k < N → parseFieldDescriptor (T k).2.2.1 = some (ty0 k)) (hnm : ∀ a, a < N → ∀ b, b < N → a ≠ b → (T a).2.1 ≠ (T b).2.1) (hown : s.vm.findClass own = some m.cls) (hK : nm_K D Y s) {q : Nat} {fs : List Value} (hH : rw_H D s0 H0 (X ++ ((q, .inr (ci, fs)) :: L)) H locs) (hc : vwCl[ci]? = some (CC, T, N)) (k : Nat) (hkN : k < N) (hlk : Cond.fieldLink own index ref (T k).2.1 (T k).2.2.1 ∈ nm_T) (hsame : ∀ x, s.fieldFound? (T k).1 (T k).2.1 (T k).2.2.1 = some x → s.fieldFound? ref (T k).2.1 (T k).2.2.1 = some x) (hfin : (T k).2.2.2 = false) {ty : FieldType} {v : Value} (hd : parseFieldDescriptor (T k).2.2.1 = some ty) (hnr : narrow ty v = v) (hfit : fits ty v = true) (hl : k < fs.length) (hdg : decode cc pc = .ok (.putfield index, 3))
    (kk : ∀ (H : Heap) (locs : List Loc), rw_H D s0 H0 (X ++ ((q, .inr (ci, fs.set k v)) :: L)) H locs → W p l e R s m args below meth c H locs cells slots Q (F0 m (pc + 3) ls rest)) : W p l e R s m args below meth c H locs cells slots Q (F0 m pc ls (v :: .ref q :: rest)) := by
  refine va_put hx hb hts hin ty0 hty hnm hown hK hH.1 hH.2.1 hH.2.2 X.length rw_get hc k hkN (hts _ hlk) hsame hfin hd hnr hfit hl hdg (fun H1 locs1 hP1 hD1 hS1 => kk H1 locs1 ?_)
  rw [rw_set] at hP1 hD1
  exact ⟨hP1, hD1, hS1⟩
theorem rw_newI (hx : p.tables.exec = Jvm.exec) (hb : c.code = cc) (hts : ∀ w ∈ nm_T, w.before args s = true) (hs0 : s0 ≤ s.heap.size) (hK : nm_K D Y s) (hH : rw_H D s0 s.heap (X ++ L) H locs) {n : Int32} {N' : Nat} (hn : ¬ n < 0) (hN : n.toNatClampNeg = N') (hbytes : N' * 4 ≤ 536870912) (hcells : cells + 1 ≤ R.cells) (hslots : slots + N' ≤ R.slots) (hdg : decode cc pc = .ok (.newarray .int, 2))
    (kk : ∀ (q : Nat) (H : Heap), rw_H D s0 s.heap (X ++ (L ++ [(q, .inl (Y.1, N', .inl (fun _ => 0)))])) H locs → W p l e R s m args below meth c H locs (cells + 1) (slots + N') Q (F0 m (pc + 2) ls (.ref q :: rest))) : W p l e R s m args below meth c H locs cells slots Q (F0 m pc ls (.int n :: rest)) := by
  refine va_newa (atype := .int) hx hb (hts _ tw_aI) rfl hK hH.1 hH.2.1 hH.2.2 (fun q h => Nat.le_trans hs0 h) (a0 := (N', .inl (fun _ => 0))) (fun cA => rfl) hn hN hbytes hcells hslots hdg (fun q cA H1 hK2 hP2 hD2 hS2 => ?_)
  have e1 := cl_sameI hK hK2
  subst e1
  rw [List.append_assoc] at hP2 hD2
  exact kk q H1 ⟨hP2, hD2, hS2⟩
theorem rw_newJ (hx : p.tables.exec = Jvm.exec) (hb : c.code = cc) (hts : ∀ w ∈ nm_T, w.before args s = true) (hs0 : s0 ≤ s.heap.size) (hK : nm_K D Y s) (hH : rw_H D s0 s.heap (X ++ L) H locs) {n : Int32} {N' : Nat} (hn : ¬ n < 0) (hN : n.toNatClampNeg = N') (hbytes : N' * 8 ≤ 536870912) (hcells : cells + 1 ≤ R.cells) (hslots : slots + N' ≤ R.slots) (hdg : decode cc pc = .ok (.newarray .long, 2))
    (kk : ∀ (q : Nat) (H : Heap), rw_H D s0 s.heap (X ++ (L ++ [(q, .inl (Y.2.1, N', .inr (.inl (fun _ => 0))))])) H locs → W p l e R s m args below meth c H locs (cells + 1) (slots + N') Q (F0 m (pc + 2) ls (.ref q :: rest))) : W p l e R s m args below meth c H locs cells slots Q (F0 m pc ls (.int n :: rest)) := by
  refine va_newa (atype := .long) hx hb (hts _ tw_aJ) rfl hK hH.1 hH.2.1 hH.2.2 (fun q h => Nat.le_trans hs0 h) (a0 := (N', .inr (.inl (fun _ => 0)))) (fun cA => rfl) hn hN hbytes hcells hslots hdg (fun q cA H1 hK2 hP2 hD2 hS2 => ?_)
  have e1 := cl_sameJ hK hK2
  subst e1
  rw [List.append_assoc] at hP2 hD2
  exact kk q H1 ⟨hP2, hD2, hS2⟩
theorem rw_vret {mc ms : Nat} {Wd : (Nat → Nat) → va_W} {ws : va_W} (hx : p.tables.exec = Jvm.exec) (hb : c.code = cc) (hr : meth.sig.returnType = none) (hlocks : meth.locks = false) (hQ : Q = MQ below (rw_Q D s0 Wd) args s mc ms (fun q => s0 ≤ q)) (hcm : cells ≤ mc) (hsm : slots ≤ ms) (hH : rw_H D s0 s.heap ws H locs) (u : Nat → Nat) (e1 : ws = Wd u) (hdg : decode cc pc = .ok (.return_, 1)) :
    W p l e R s m args below meth c H locs cells slots Q (F0 m pc ls []) := by
  subst e1
  subst hQ
  refine W.widen (k := mc) (n := ms) hcm hsm ?_
  exact W.vret hx hb hr (fun t ht hW => ⟨⟨u, rfl, trivial, by rw [ht]; exact hH.1, hH.2.1⟩, hH.2.2.F ht⟩) hH.2.2.2.2 hdg hlocks
end RW
theorem mw_39 : (Jvm.Cond.methodLink "RulePlate$Groups" (3 : Nat) ({ cls := "java/lang/Object", name := "<init>", desc := "()V" } : Jvm.MethodName)) ∈ nm_T := nm_tb 39 (by decide +kernel) (by decide +kernel)
theorem mw_119 : (Jvm.Cond.methodLink "RulePlate$RuleBook" (3 : Nat) ({ cls := "java/lang/Object", name := "<init>", desc := "()V" } : Jvm.MethodName)) ∈ nm_T := nm_tb 119 (by decide +kernel) (by decide +kernel)
theorem mw_222 : (Jvm.Cond.methodLink "RulePlate$Wish" (3 : Nat) ({ cls := "java/lang/Object", name := "<init>", desc := "()V" } : Jvm.MethodName)) ∈ nm_T := nm_tb 222 (by decide +kernel) (by decide +kernel)
theorem k_X4_init1 {l : Launch} {D : va_G} {Y : nm_Y} {s0 : Nat} {X : va_W} {q : Nat} :
    nm_Met l yX4_init cX4_init 2 none { frames := 1, cells := 7, slots := 128, locals := 12 } [.ref q, .int 1] D Y s0 (X ++ [(q, .inr (3, [.null, .int 0, .null, .null, .null, .null, .null, .int 0, .null]))]) (rw_Q D s0 (fun u => X ++ ((q, .inr (3, [.ref (u 6), .int 0, .ref (u 1), .ref (u 2), .ref (u 3), .ref (u 7), .ref (u 4), .int 0, .ref (u 5)])) :: [((u 1), .inl (Y.1, 0, .inl (fun _ => 0))), ((u 2), .inl (Y.1, 0, .inl (fun _ => 0))), ((u 3), .inl (Y.1, 0, .inl (fun _ => 0))), ((u 4), .inl (Y.1, 0, .inl (fun _ => 0))), ((u 5), .inl (Y.1, 0, .inl (fun _ => 0))), ((u 6), .inl (Y.2.1, 64, .inr (.inl (fun _ => 0)))), ((u 7), .inl (Y.1, 64, .inl (fun _ => 0)))]))) 7 128 := by
  refine mk_of (by decide) (Nat.le_of_ble_eq_true rfl) ?_
  intro p e R s m args below meth c Q ls hnm hx hb hr hlocks hml hown hts hs0 hK hZ hRf hRl hRc hRs hQ hP hD hl
  have hH : rw_H D s0 s.heap (X ++ ((q, .inr (3, [.null, .int 0, .null, .null, .null, .null, .null, .int 0, .null])) :: [])) s.heap [] := ⟨hP, hD, va_S.rf⟩
  have hl : lv_has ls 2 [(0, .ref q), (1, .int 1)] := hl
  refine lv_aload_n hx hb dX4_init_0 rfl (lv_at hl 0 rfl) ?_
  refine W.objInit hx hb hown (hts _ mw_39) (hts _ mw_24) (hts _ mw_25) rfl (by rw [hml]; exact hl.1) rfl dX4_init_1 (Nat.le_trans (Nat.le_of_ble_eq_true rfl) hRf) (Nat.le_trans (Nat.le_of_ble_eq_true rfl) hRl) ?_
  refine W.eq (g2 := F0 m 4 ls []) rfl ?_
  refine lv_aload_n hx hb dX4_init_4 rfl (lv_at hl 0 rfl) ?_
  refine lv_iconst (v := 0) hx hb dX4_init_5 (by decide) ?_
  refine rw_put hx hb hts inX4 tyX4 tyX4_ok nmX4 hown hK hH rfl 1 (by decide) tw_42 (fun _ h9 => h9) rfl (ty := .int) rfl rfl rfl (Nat.le_of_ble_eq_true rfl) dX4_init_6 (fun H locs hH => ?_)
  have hH : rw_H D s0 s.heap (X ++ ((q, .inr (3, [.null, .int 0, .null, .null, .null, .null, .null, .int 0, .null])) :: [])) H locs := hH
  refine lv_aload_n hx hb dX4_init_9 rfl (lv_at hl 0 rfl) ?_
  refine lv_iconst (v := 0) hx hb dX4_init_10 (by decide) ?_
  refine rw_newI (X := X) (N' := 0) hx hb hts hs0 hK hH (by decide) (by decide) (by decide) (by omega) (by omega) dX4_init_11 (fun a1 H hH => ?_)
  have hH : rw_H D s0 s.heap (X ++ ((q, .inr (3, [.null, .int 0, .null, .null, .null, .null, .null, .int 0, .null])) :: [(a1, .inl (Y.1, 0, .inl (fun _ => 0)))])) H locs := hH
  refine rw_put hx hb hts inX4 tyX4 tyX4_ok nmX4 hown hK hH rfl 2 (by decide) tw_46 (fun _ h9 => h9) rfl rfl rfl rfl (Nat.le_of_ble_eq_true rfl) dX4_init_13 (fun H locs hH => ?_)
  have hH : rw_H D s0 s.heap (X ++ ((q, .inr (3, [.null, .int 0, .ref a1, .null, .null, .null, .null, .int 0, .null])) :: [(a1, .inl (Y.1, 0, .inl (fun _ => 0)))])) H locs := hH
  refine lv_aload_n hx hb dX4_init_16 rfl (lv_at hl 0 rfl) ?_
  refine lv_iconst (v := 0) hx hb dX4_init_17 (by decide) ?_
  refine rw_newI (X := X) (N' := 0) hx hb hts hs0 hK hH (by decide) (by decide) (by decide) (by omega) (by omega) dX4_init_18 (fun a2 H hH => ?_)
  have hH : rw_H D s0 s.heap (X ++ ((q, .inr (3, [.null, .int 0, .ref a1, .null, .null, .null, .null, .int 0, .null])) :: [(a1, .inl (Y.1, 0, .inl (fun _ => 0))), (a2, .inl (Y.1, 0, .inl (fun _ => 0)))])) H locs := hH
  refine rw_put hx hb hts inX4 tyX4 tyX4_ok nmX4 hown hK hH rfl 3 (by decide) tw_50 (fun _ h9 => h9) rfl rfl rfl rfl (Nat.le_of_ble_eq_true rfl) dX4_init_20 (fun H locs hH => ?_)
  have hH : rw_H D s0 s.heap (X ++ ((q, .inr (3, [.null, .int 0, .ref a1, .ref a2, .null, .null, .null, .int 0, .null])) :: [(a1, .inl (Y.1, 0, .inl (fun _ => 0))), (a2, .inl (Y.1, 0, .inl (fun _ => 0)))])) H locs := hH
  refine lv_aload_n hx hb dX4_init_23 rfl (lv_at hl 0 rfl) ?_
  refine lv_iconst (v := 0) hx hb dX4_init_24 (by decide) ?_
  refine rw_newI (X := X) (N' := 0) hx hb hts hs0 hK hH (by decide) (by decide) (by decide) (by omega) (by omega) dX4_init_25 (fun a3 H hH => ?_)
  have hH : rw_H D s0 s.heap (X ++ ((q, .inr (3, [.null, .int 0, .ref a1, .ref a2, .null, .null, .null, .int 0, .null])) :: [(a1, .inl (Y.1, 0, .inl (fun _ => 0))), (a2, .inl (Y.1, 0, .inl (fun _ => 0))), (a3, .inl (Y.1, 0, .inl (fun _ => 0)))])) H locs := hH
  refine rw_put hx hb hts inX4 tyX4 tyX4_ok nmX4 hown hK hH rfl 4 (by decide) tw_53 (fun _ h9 => h9) rfl rfl rfl rfl (Nat.le_of_ble_eq_true rfl) dX4_init_27 (fun H locs hH => ?_)
  have hH : rw_H D s0 s.heap (X ++ ((q, .inr (3, [.null, .int 0, .ref a1, .ref a2, .ref a3, .null, .null, .int 0, .null])) :: [(a1, .inl (Y.1, 0, .inl (fun _ => 0))), (a2, .inl (Y.1, 0, .inl (fun _ => 0))), (a3, .inl (Y.1, 0, .inl (fun _ => 0)))])) H locs := hH
  refine lv_aload_n hx hb dX4_init_30 rfl (lv_at hl 0 rfl) ?_
  refine lv_iconst (v := 0) hx hb dX4_init_31 (by decide) ?_
  refine rw_newI (X := X) (N' := 0) hx hb hts hs0 hK hH (by decide) (by decide) (by decide) (by omega) (by omega) dX4_init_32 (fun a4 H hH => ?_)
  have hH : rw_H D s0 s.heap (X ++ ((q, .inr (3, [.null, .int 0, .ref a1, .ref a2, .ref a3, .null, .null, .int 0, .null])) :: [(a1, .inl (Y.1, 0, .inl (fun _ => 0))), (a2, .inl (Y.1, 0, .inl (fun _ => 0))), (a3, .inl (Y.1, 0, .inl (fun _ => 0))), (a4, .inl (Y.1, 0, .inl (fun _ => 0)))])) H locs := hH
  refine rw_put hx hb hts inX4 tyX4 tyX4_ok nmX4 hown hK hH rfl 6 (by decide) tw_56 (fun _ h9 => h9) rfl rfl rfl rfl (Nat.le_of_ble_eq_true rfl) dX4_init_34 (fun H locs hH => ?_)
  have hH : rw_H D s0 s.heap (X ++ ((q, .inr (3, [.null, .int 0, .ref a1, .ref a2, .ref a3, .null, .ref a4, .int 0, .null])) :: [(a1, .inl (Y.1, 0, .inl (fun _ => 0))), (a2, .inl (Y.1, 0, .inl (fun _ => 0))), (a3, .inl (Y.1, 0, .inl (fun _ => 0))), (a4, .inl (Y.1, 0, .inl (fun _ => 0)))])) H locs := hH
  refine lv_aload_n hx hb dX4_init_37 rfl (lv_at hl 0 rfl) ?_
  refine lv_iconst (v := 0) hx hb dX4_init_38 (by decide) ?_
  refine rw_put hx hb hts inX4 tyX4 tyX4_ok nmX4 hown hK hH rfl 7 (by decide) tw_57 (fun _ h9 => h9) rfl (ty := .int) rfl rfl rfl (Nat.le_of_ble_eq_true rfl) dX4_init_39 (fun H locs hH => ?_)
  have hH : rw_H D s0 s.heap (X ++ ((q, .inr (3, [.null, .int 0, .ref a1, .ref a2, .ref a3, .null, .ref a4, .int 0, .null])) :: [(a1, .inl (Y.1, 0, .inl (fun _ => 0))), (a2, .inl (Y.1, 0, .inl (fun _ => 0))), (a3, .inl (Y.1, 0, .inl (fun _ => 0))), (a4, .inl (Y.1, 0, .inl (fun _ => 0)))])) H locs := hH
  refine lv_aload_n hx hb dX4_init_42 rfl (lv_at hl 0 rfl) ?_
  refine lv_iconst (v := 0) hx hb dX4_init_43 (by decide) ?_
  refine rw_newI (X := X) (N' := 0) hx hb hts hs0 hK hH (by decide) (by decide) (by decide) (by omega) (by omega) dX4_init_44 (fun a5 H hH => ?_)
  have hH : rw_H D s0 s.heap (X ++ ((q, .inr (3, [.null, .int 0, .ref a1, .ref a2, .ref a3, .null, .ref a4, .int 0, .null])) :: [(a1, .inl (Y.1, 0, .inl (fun _ => 0))), (a2, .inl (Y.1, 0, .inl (fun _ => 0))), (a3, .inl (Y.1, 0, .inl (fun _ => 0))), (a4, .inl (Y.1, 0, .inl (fun _ => 0))), (a5, .inl (Y.1, 0, .inl (fun _ => 0)))])) H locs := hH
  refine rw_put hx hb hts inX4 tyX4 tyX4_ok nmX4 hown hK hH rfl 8 (by decide) tw_58 (fun _ h9 => h9) rfl rfl rfl rfl (Nat.le_of_ble_eq_true rfl) dX4_init_46 (fun H locs hH => ?_)
  have hH : rw_H D s0 s.heap (X ++ ((q, .inr (3, [.null, .int 0, .ref a1, .ref a2, .ref a3, .null, .ref a4, .int 0, .ref a5])) :: [(a1, .inl (Y.1, 0, .inl (fun _ => 0))), (a2, .inl (Y.1, 0, .inl (fun _ => 0))), (a3, .inl (Y.1, 0, .inl (fun _ => 0))), (a4, .inl (Y.1, 0, .inl (fun _ => 0))), (a5, .inl (Y.1, 0, .inl (fun _ => 0)))])) H locs := hH
  refine lv_aload_n hx hb dX4_init_49 rfl (lv_at hl 0 rfl) ?_
  refine lv_bipush (v := 64) hx hb dX4_init_50 (by decide) ?_
  refine lv_iload_n hx hb dX4_init_52 rfl (lv_at hl 1 rfl) ?_
  refine lv_imul hx hb dX4_init_53 ?_
  refine rw_newJ (X := X) (N' := 64) hx hb hts hs0 hK hH (by decide) (by decide) (by decide) (by omega) (by omega) dX4_init_54 (fun a6 H hH => ?_)
  have hH : rw_H D s0 s.heap (X ++ ((q, .inr (3, [.null, .int 0, .ref a1, .ref a2, .ref a3, .null, .ref a4, .int 0, .ref a5])) :: [(a1, .inl (Y.1, 0, .inl (fun _ => 0))), (a2, .inl (Y.1, 0, .inl (fun _ => 0))), (a3, .inl (Y.1, 0, .inl (fun _ => 0))), (a4, .inl (Y.1, 0, .inl (fun _ => 0))), (a5, .inl (Y.1, 0, .inl (fun _ => 0))), (a6, .inl (Y.2.1, 64, .inr (.inl (fun _ => 0))))])) H locs := hH
  refine rw_putF hx hb hts inX4 tyX4 tyX4_ok nmX4 hown hK hH rfl 0 (by decide) tw_40 (fun _ h9 => h9) rfl hnm rfl rfl rfl rfl (Nat.le_of_ble_eq_true rfl) dX4_init_56 (fun H locs hH => ?_)
  have hH : rw_H D s0 s.heap (X ++ ((q, .inr (3, [.ref a6, .int 0, .ref a1, .ref a2, .ref a3, .null, .ref a4, .int 0, .ref a5])) :: [(a1, .inl (Y.1, 0, .inl (fun _ => 0))), (a2, .inl (Y.1, 0, .inl (fun _ => 0))), (a3, .inl (Y.1, 0, .inl (fun _ => 0))), (a4, .inl (Y.1, 0, .inl (fun _ => 0))), (a5, .inl (Y.1, 0, .inl (fun _ => 0))), (a6, .inl (Y.2.1, 64, .inr (.inl (fun _ => 0))))])) H locs := hH
  refine lv_aload_n hx hb dX4_init_59 rfl (lv_at hl 0 rfl) ?_
  refine lv_bipush (v := 64) hx hb dX4_init_60 (by decide) ?_
  refine lv_iload_n hx hb dX4_init_62 rfl (lv_at hl 1 rfl) ?_
  refine lv_imul hx hb dX4_init_63 ?_
  refine rw_newI (X := X) (N' := 64) hx hb hts hs0 hK hH (by decide) (by decide) (by decide) (by omega) (by omega) dX4_init_64 (fun a7 H hH => ?_)
  have hH : rw_H D s0 s.heap (X ++ ((q, .inr (3, [.ref a6, .int 0, .ref a1, .ref a2, .ref a3, .null, .ref a4, .int 0, .ref a5])) :: [(a1, .inl (Y.1, 0, .inl (fun _ => 0))), (a2, .inl (Y.1, 0, .inl (fun _ => 0))), (a3, .inl (Y.1, 0, .inl (fun _ => 0))), (a4, .inl (Y.1, 0, .inl (fun _ => 0))), (a5, .inl (Y.1, 0, .inl (fun _ => 0))), (a6, .inl (Y.2.1, 64, .inr (.inl (fun _ => 0)))), (a7, .inl (Y.1, 64, .inl (fun _ => 0)))])) H locs := hH
  refine rw_putF hx hb hts inX4 tyX4 tyX4_ok nmX4 hown hK hH rfl 5 (by decide) tw_55 (fun _ h9 => h9) rfl hnm rfl rfl rfl rfl (Nat.le_of_ble_eq_true rfl) dX4_init_66 (fun H locs hH => ?_)
  have hH : rw_H D s0 s.heap (X ++ ((q, .inr (3, [.ref a6, .int 0, .ref a1, .ref a2, .ref a3, .ref a7, .ref a4, .int 0, .ref a5])) :: [(a1, .inl (Y.1, 0, .inl (fun _ => 0))), (a2, .inl (Y.1, 0, .inl (fun _ => 0))), (a3, .inl (Y.1, 0, .inl (fun _ => 0))), (a4, .inl (Y.1, 0, .inl (fun _ => 0))), (a5, .inl (Y.1, 0, .inl (fun _ => 0))), (a6, .inl (Y.2.1, 64, .inr (.inl (fun _ => 0)))), (a7, .inl (Y.1, 64, .inl (fun _ => 0)))])) H locs := hH
  exact rw_vret hx hb hr hlocks hQ (by omega) (by omega) hH (rw_u [q, a1, a2, a3, a4, a5, a6, a7]) rfl dX4_init_69
theorem k_X4_init16 {l : Launch} {D : va_G} {Y : nm_Y} {s0 : Nat} {X : va_W} {q : Nat} :
    nm_Met l yX4_init cX4_init 2 none { frames := 1, cells := 7, slots := 2048, locals := 12 } [.ref q, .int 16] D Y s0 (X ++ [(q, .inr (3, [.null, .int 0, .null, .null, .null, .null, .null, .int 0, .null]))]) (rw_Q D s0 (fun u => X ++ ((q, .inr (3, [.ref (u 6), .int 0, .ref (u 1), .ref (u 2), .ref (u 3), .ref (u 7), .ref (u 4), .int 0, .ref (u 5)])) :: [((u 1), .inl (Y.1, 0, .inl (fun _ => 0))), ((u 2), .inl (Y.1, 0, .inl (fun _ => 0))), ((u 3), .inl (Y.1, 0, .inl (fun _ => 0))), ((u 4), .inl (Y.1, 0, .inl (fun _ => 0))), ((u 5), .inl (Y.1, 0, .inl (fun _ => 0))), ((u 6), .inl (Y.2.1, 1024, .inr (.inl (fun _ => 0)))), ((u 7), .inl (Y.1, 1024, .inl (fun _ => 0)))]))) 7 2048 := by
  refine mk_of (by decide) (Nat.le_of_ble_eq_true rfl) ?_
  intro p e R s m args below meth c Q ls hnm hx hb hr hlocks hml hown hts hs0 hK hZ hRf hRl hRc hRs hQ hP hD hl
  have hH : rw_H D s0 s.heap (X ++ ((q, .inr (3, [.null, .int 0, .null, .null, .null, .null, .null, .int 0, .null])) :: [])) s.heap [] := ⟨hP, hD, va_S.rf⟩
  have hl : lv_has ls 2 [(0, .ref q), (1, .int 16)] := hl
  refine lv_aload_n hx hb dX4_init_0 rfl (lv_at hl 0 rfl) ?_
  refine W.objInit hx hb hown (hts _ mw_39) (hts _ mw_24) (hts _ mw_25) rfl (by rw [hml]; exact hl.1) rfl dX4_init_1 (Nat.le_trans (Nat.le_of_ble_eq_true rfl) hRf) (Nat.le_trans (Nat.le_of_ble_eq_true rfl) hRl) ?_
  refine W.eq (g2 := F0 m 4 ls []) rfl ?_
  refine lv_aload_n hx hb dX4_init_4 rfl (lv_at hl 0 rfl) ?_
  refine lv_iconst (v := 0) hx hb dX4_init_5 (by decide) ?_
  refine rw_put hx hb hts inX4 tyX4 tyX4_ok nmX4 hown hK hH rfl 1 (by decide) tw_42 (fun _ h9 => h9) rfl (ty := .int) rfl rfl rfl (Nat.le_of_ble_eq_true rfl) dX4_init_6 (fun H locs hH => ?_)
  have hH : rw_H D s0 s.heap (X ++ ((q, .inr (3, [.null, .int 0, .null, .null, .null, .null, .null, .int 0, .null])) :: [])) H locs := hH
  refine lv_aload_n hx hb dX4_init_9 rfl (lv_at hl 0 rfl) ?_
  refine lv_iconst (v := 0) hx hb dX4_init_10 (by decide) ?_
  refine rw_newI (X := X) (N' := 0) hx hb hts hs0 hK hH (by decide) (by decide) (by decide) (by omega) (by omega) dX4_init_11 (fun a1 H hH => ?_)
  have hH : rw_H D s0 s.heap (X ++ ((q, .inr (3, [.null, .int 0, .null, .null, .null, .null, .null, .int 0, .null])) :: [(a1, .inl (Y.1, 0, .inl (fun _ => 0)))])) H locs := hH
  refine rw_put hx hb hts inX4 tyX4 tyX4_ok nmX4 hown hK hH rfl 2 (by decide) tw_46 (fun _ h9 => h9) rfl rfl rfl rfl (Nat.le_of_ble_eq_true rfl) dX4_init_13 (fun H locs hH => ?_)
  have hH : rw_H D s0 s.heap (X ++ ((q, .inr (3, [.null, .int 0, .ref a1, .null, .null, .null, .null, .int 0, .null])) :: [(a1, .inl (Y.1, 0, .inl (fun _ => 0)))])) H locs := hH
  refine lv_aload_n hx hb dX4_init_16 rfl (lv_at hl 0 rfl) ?_
  refine lv_iconst (v := 0) hx hb dX4_init_17 (by decide) ?_
  refine rw_newI (X := X) (N' := 0) hx hb hts hs0 hK hH (by decide) (by decide) (by decide) (by omega) (by omega) dX4_init_18 (fun a2 H hH => ?_)
  have hH : rw_H D s0 s.heap (X ++ ((q, .inr (3, [.null, .int 0, .ref a1, .null, .null, .null, .null, .int 0, .null])) :: [(a1, .inl (Y.1, 0, .inl (fun _ => 0))), (a2, .inl (Y.1, 0, .inl (fun _ => 0)))])) H locs := hH
  refine rw_put hx hb hts inX4 tyX4 tyX4_ok nmX4 hown hK hH rfl 3 (by decide) tw_50 (fun _ h9 => h9) rfl rfl rfl rfl (Nat.le_of_ble_eq_true rfl) dX4_init_20 (fun H locs hH => ?_)
  have hH : rw_H D s0 s.heap (X ++ ((q, .inr (3, [.null, .int 0, .ref a1, .ref a2, .null, .null, .null, .int 0, .null])) :: [(a1, .inl (Y.1, 0, .inl (fun _ => 0))), (a2, .inl (Y.1, 0, .inl (fun _ => 0)))])) H locs := hH
  refine lv_aload_n hx hb dX4_init_23 rfl (lv_at hl 0 rfl) ?_
  refine lv_iconst (v := 0) hx hb dX4_init_24 (by decide) ?_
  refine rw_newI (X := X) (N' := 0) hx hb hts hs0 hK hH (by decide) (by decide) (by decide) (by omega) (by omega) dX4_init_25 (fun a3 H hH => ?_)
  have hH : rw_H D s0 s.heap (X ++ ((q, .inr (3, [.null, .int 0, .ref a1, .ref a2, .null, .null, .null, .int 0, .null])) :: [(a1, .inl (Y.1, 0, .inl (fun _ => 0))), (a2, .inl (Y.1, 0, .inl (fun _ => 0))), (a3, .inl (Y.1, 0, .inl (fun _ => 0)))])) H locs := hH
  refine rw_put hx hb hts inX4 tyX4 tyX4_ok nmX4 hown hK hH rfl 4 (by decide) tw_53 (fun _ h9 => h9) rfl rfl rfl rfl (Nat.le_of_ble_eq_true rfl) dX4_init_27 (fun H locs hH => ?_)
  have hH : rw_H D s0 s.heap (X ++ ((q, .inr (3, [.null, .int 0, .ref a1, .ref a2, .ref a3, .null, .null, .int 0, .null])) :: [(a1, .inl (Y.1, 0, .inl (fun _ => 0))), (a2, .inl (Y.1, 0, .inl (fun _ => 0))), (a3, .inl (Y.1, 0, .inl (fun _ => 0)))])) H locs := hH
  refine lv_aload_n hx hb dX4_init_30 rfl (lv_at hl 0 rfl) ?_
  refine lv_iconst (v := 0) hx hb dX4_init_31 (by decide) ?_
  refine rw_newI (X := X) (N' := 0) hx hb hts hs0 hK hH (by decide) (by decide) (by decide) (by omega) (by omega) dX4_init_32 (fun a4 H hH => ?_)
  have hH : rw_H D s0 s.heap (X ++ ((q, .inr (3, [.null, .int 0, .ref a1, .ref a2, .ref a3, .null, .null, .int 0, .null])) :: [(a1, .inl (Y.1, 0, .inl (fun _ => 0))), (a2, .inl (Y.1, 0, .inl (fun _ => 0))), (a3, .inl (Y.1, 0, .inl (fun _ => 0))), (a4, .inl (Y.1, 0, .inl (fun _ => 0)))])) H locs := hH
  refine rw_put hx hb hts inX4 tyX4 tyX4_ok nmX4 hown hK hH rfl 6 (by decide) tw_56 (fun _ h9 => h9) rfl rfl rfl rfl (Nat.le_of_ble_eq_true rfl) dX4_init_34 (fun H locs hH => ?_)
  have hH : rw_H D s0 s.heap (X ++ ((q, .inr (3, [.null, .int 0, .ref a1, .ref a2, .ref a3, .null, .ref a4, .int 0, .null])) :: [(a1, .inl (Y.1, 0, .inl (fun _ => 0))), (a2, .inl (Y.1, 0, .inl (fun _ => 0))), (a3, .inl (Y.1, 0, .inl (fun _ => 0))), (a4, .inl (Y.1, 0, .inl (fun _ => 0)))])) H locs := hH
  refine lv_aload_n hx hb dX4_init_37 rfl (lv_at hl 0 rfl) ?_
  refine lv_iconst (v := 0) hx hb dX4_init_38 (by decide) ?_
  refine rw_put hx hb hts inX4 tyX4 tyX4_ok nmX4 hown hK hH rfl 7 (by decide) tw_57 (fun _ h9 => h9) rfl (ty := .int) rfl rfl rfl (Nat.le_of_ble_eq_true rfl) dX4_init_39 (fun H locs hH => ?_)
  have hH : rw_H D s0 s.heap (X ++ ((q, .inr (3, [.null, .int 0, .ref a1, .ref a2, .ref a3, .null, .ref a4, .int 0, .null])) :: [(a1, .inl (Y.1, 0, .inl (fun _ => 0))), (a2, .inl (Y.1, 0, .inl (fun _ => 0))), (a3, .inl (Y.1, 0, .inl (fun _ => 0))), (a4, .inl (Y.1, 0, .inl (fun _ => 0)))])) H locs := hH
  refine lv_aload_n hx hb dX4_init_42 rfl (lv_at hl 0 rfl) ?_
  refine lv_iconst (v := 0) hx hb dX4_init_43 (by decide) ?_
  refine rw_newI (X := X) (N' := 0) hx hb hts hs0 hK hH (by decide) (by decide) (by decide) (by omega) (by omega) dX4_init_44 (fun a5 H hH => ?_)
  have hH : rw_H D s0 s.heap (X ++ ((q, .inr (3, [.null, .int 0, .ref a1, .ref a2, .ref a3, .null, .ref a4, .int 0, .null])) :: [(a1, .inl (Y.1, 0, .inl (fun _ => 0))), (a2, .inl (Y.1, 0, .inl (fun _ => 0))), (a3, .inl (Y.1, 0, .inl (fun _ => 0))), (a4, .inl (Y.1, 0, .inl (fun _ => 0))), (a5, .inl (Y.1, 0, .inl (fun _ => 0)))])) H locs := hH
  refine rw_put hx hb hts inX4 tyX4 tyX4_ok nmX4 hown hK hH rfl 8 (by decide) tw_58 (fun _ h9 => h9) rfl rfl rfl rfl (Nat.le_of_ble_eq_true rfl) dX4_init_46 (fun H locs hH => ?_)
  have hH : rw_H D s0 s.heap (X ++ ((q, .inr (3, [.null, .int 0, .ref a1, .ref a2, .ref a3, .null, .ref a4, .int 0, .ref a5])) :: [(a1, .inl (Y.1, 0, .inl (fun _ => 0))), (a2, .inl (Y.1, 0, .inl (fun _ => 0))), (a3, .inl (Y.1, 0, .inl (fun _ => 0))), (a4, .inl (Y.1, 0, .inl (fun _ => 0))), (a5, .inl (Y.1, 0, .inl (fun _ => 0)))])) H locs := hH
  refine lv_aload_n hx hb dX4_init_49 rfl (lv_at hl 0 rfl) ?_
  refine lv_bipush (v := 64) hx hb dX4_init_50 (by decide) ?_
  refine lv_iload_n hx hb dX4_init_52 rfl (lv_at hl 1 rfl) ?_
  refine lv_imul hx hb dX4_init_53 ?_
  refine rw_newJ (X := X) (N' := 1024) hx hb hts hs0 hK hH (by decide) (by decide) (by decide) (by omega) (by omega) dX4_init_54 (fun a6 H hH => ?_)
  have hH : rw_H D s0 s.heap (X ++ ((q, .inr (3, [.null, .int 0, .ref a1, .ref a2, .ref a3, .null, .ref a4, .int 0, .ref a5])) :: [(a1, .inl (Y.1, 0, .inl (fun _ => 0))), (a2, .inl (Y.1, 0, .inl (fun _ => 0))), (a3, .inl (Y.1, 0, .inl (fun _ => 0))), (a4, .inl (Y.1, 0, .inl (fun _ => 0))), (a5, .inl (Y.1, 0, .inl (fun _ => 0))), (a6, .inl (Y.2.1, 1024, .inr (.inl (fun _ => 0))))])) H locs := hH
  refine rw_putF hx hb hts inX4 tyX4 tyX4_ok nmX4 hown hK hH rfl 0 (by decide) tw_40 (fun _ h9 => h9) rfl hnm rfl rfl rfl rfl (Nat.le_of_ble_eq_true rfl) dX4_init_56 (fun H locs hH => ?_)
  have hH : rw_H D s0 s.heap (X ++ ((q, .inr (3, [.ref a6, .int 0, .ref a1, .ref a2, .ref a3, .null, .ref a4, .int 0, .ref a5])) :: [(a1, .inl (Y.1, 0, .inl (fun _ => 0))), (a2, .inl (Y.1, 0, .inl (fun _ => 0))), (a3, .inl (Y.1, 0, .inl (fun _ => 0))), (a4, .inl (Y.1, 0, .inl (fun _ => 0))), (a5, .inl (Y.1, 0, .inl (fun _ => 0))), (a6, .inl (Y.2.1, 1024, .inr (.inl (fun _ => 0))))])) H locs := hH
  refine lv_aload_n hx hb dX4_init_59 rfl (lv_at hl 0 rfl) ?_
  refine lv_bipush (v := 64) hx hb dX4_init_60 (by decide) ?_
  refine lv_iload_n hx hb dX4_init_62 rfl (lv_at hl 1 rfl) ?_
  refine lv_imul hx hb dX4_init_63 ?_
  refine rw_newI (X := X) (N' := 1024) hx hb hts hs0 hK hH (by decide) (by decide) (by decide) (by omega) (by omega) dX4_init_64 (fun a7 H hH => ?_)
  have hH : rw_H D s0 s.heap (X ++ ((q, .inr (3, [.ref a6, .int 0, .ref a1, .ref a2, .ref a3, .null, .ref a4, .int 0, .ref a5])) :: [(a1, .inl (Y.1, 0, .inl (fun _ => 0))), (a2, .inl (Y.1, 0, .inl (fun _ => 0))), (a3, .inl (Y.1, 0, .inl (fun _ => 0))), (a4, .inl (Y.1, 0, .inl (fun _ => 0))), (a5, .inl (Y.1, 0, .inl (fun _ => 0))), (a6, .inl (Y.2.1, 1024, .inr (.inl (fun _ => 0)))), (a7, .inl (Y.1, 1024, .inl (fun _ => 0)))])) H locs := hH
  refine rw_putF hx hb hts inX4 tyX4 tyX4_ok nmX4 hown hK hH rfl 5 (by decide) tw_55 (fun _ h9 => h9) rfl hnm rfl rfl rfl rfl (Nat.le_of_ble_eq_true rfl) dX4_init_66 (fun H locs hH => ?_)
  have hH : rw_H D s0 s.heap (X ++ ((q, .inr (3, [.ref a6, .int 0, .ref a1, .ref a2, .ref a3, .ref a7, .ref a4, .int 0, .ref a5])) :: [(a1, .inl (Y.1, 0, .inl (fun _ => 0))), (a2, .inl (Y.1, 0, .inl (fun _ => 0))), (a3, .inl (Y.1, 0, .inl (fun _ => 0))), (a4, .inl (Y.1, 0, .inl (fun _ => 0))), (a5, .inl (Y.1, 0, .inl (fun _ => 0))), (a6, .inl (Y.2.1, 1024, .inr (.inl (fun _ => 0)))), (a7, .inl (Y.1, 1024, .inl (fun _ => 0)))])) H locs := hH
  exact rw_vret hx hb hr hlocks hQ (by omega) (by omega) hH (rw_u [q, a1, a2, a3, a4, a5, a6, a7]) rfl dX4_init_69
theorem k_X8_init {l : Launch} {D : va_G} {Y : nm_Y} {s0 : Nat} {X : va_W} {q : Nat} :
    nm_Met l yX8_init cX8_init 1 none { frames := 1, cells := 8, slots := 160, locals := 12 } [.ref q] D Y s0 (X ++ [(q, .inr (7, [.int 0, .int 0, .int 0, .null, .null, .null, .null, .null, .null, .null, .null]))]) (rw_Q D s0 (fun u => X ++ ((q, .inr (7, [.int 0, .int 0, .int 0, .ref (u 1), .ref (u 2), .ref (u 3), .ref (u 4), .ref (u 5), .ref (u 6), .ref (u 7), .ref (u 8)])) :: [((u 1), .inl (Y.1, 0, .inl (fun _ => 0))), ((u 2), .inl (Y.1, 16, .inl (fun _ => 0))), ((u 3), .inl (Y.1, 16, .inl (fun _ => 0))), ((u 4), .inl (Y.1, 16, .inl (fun _ => 0))), ((u 5), .inl (Y.1, 16, .inl (fun _ => 0))), ((u 6), .inl (Y.1, 16, .inl (fun _ => 0))), ((u 7), .inl (Y.1, 16, .inl (fun _ => 0))), ((u 8), .inl (Y.2.1, 64, .inr (.inl (fun _ => 0))))]))) 8 160 := by
  refine mk_of (by decide) (Nat.le_of_ble_eq_true rfl) ?_
  intro p e R s m args below meth c Q ls hnm hx hb hr hlocks hml hown hts hs0 hK hZ hRf hRl hRc hRs hQ hP hD hl
  have hH : rw_H D s0 s.heap (X ++ ((q, .inr (7, [.int 0, .int 0, .int 0, .null, .null, .null, .null, .null, .null, .null, .null])) :: [])) s.heap [] := ⟨hP, hD, va_S.rf⟩
  have hl : lv_has ls 1 [(0, .ref q)] := hl
  refine lv_aload_n hx hb dX8_init_0 rfl (lv_at hl 0 rfl) ?_
  refine W.objInit hx hb hown (hts _ mw_119) (hts _ mw_24) (hts _ mw_25) rfl (by rw [hml]; exact hl.1) rfl dX8_init_1 (Nat.le_trans (Nat.le_of_ble_eq_true rfl) hRf) (Nat.le_trans (Nat.le_of_ble_eq_true rfl) hRl) ?_
  refine W.eq (g2 := F0 m 4 ls []) rfl ?_
  refine lv_aload_n hx hb dX8_init_4 rfl (lv_at hl 0 rfl) ?_
  refine lv_iconst (v := 0) hx hb dX8_init_5 (by decide) ?_
  refine rw_put hx hb hts inX8 tyX8 tyX8_ok nmX8 hown hK hH rfl 0 (by decide) tw_120 (fun _ h9 => h9) rfl (ty := .int) rfl rfl rfl (Nat.le_of_ble_eq_true rfl) dX8_init_6 (fun H locs hH => ?_)
  have hH : rw_H D s0 s.heap (X ++ ((q, .inr (7, [.int 0, .int 0, .int 0, .null, .null, .null, .null, .null, .null, .null, .null])) :: [])) H locs := hH
  refine lv_aload_n hx hb dX8_init_9 rfl (lv_at hl 0 rfl) ?_
  refine lv_iconst (v := 0) hx hb dX8_init_10 (by decide) ?_
  refine rw_put hx hb hts inX8 tyX8 tyX8_ok nmX8 hown hK hH rfl 1 (by decide) tw_122 (fun _ h9 => h9) rfl (ty := .boolean) rfl rfl rfl (Nat.le_of_ble_eq_true rfl) dX8_init_11 (fun H locs hH => ?_)
  have hH : rw_H D s0 s.heap (X ++ ((q, .inr (7, [.int 0, .int 0, .int 0, .null, .null, .null, .null, .null, .null, .null, .null])) :: [])) H locs := hH
  refine lv_aload_n hx hb dX8_init_14 rfl (lv_at hl 0 rfl) ?_
  refine lv_iconst (v := 0) hx hb dX8_init_15 (by decide) ?_
  refine rw_put hx hb hts inX8 tyX8 tyX8_ok nmX8 hown hK hH rfl 2 (by decide) tw_124 (fun _ h9 => h9) rfl (ty := .int) rfl rfl rfl (Nat.le_of_ble_eq_true rfl) dX8_init_16 (fun H locs hH => ?_)
  have hH : rw_H D s0 s.heap (X ++ ((q, .inr (7, [.int 0, .int 0, .int 0, .null, .null, .null, .null, .null, .null, .null, .null])) :: [])) H locs := hH
  refine lv_aload_n hx hb dX8_init_19 rfl (lv_at hl 0 rfl) ?_
  refine lv_iconst (v := 0) hx hb dX8_init_20 (by decide) ?_
  refine rw_newI (X := X) (N' := 0) hx hb hts hs0 hK hH (by decide) (by decide) (by decide) (by omega) (by omega) dX8_init_21 (fun a1 H hH => ?_)
  have hH : rw_H D s0 s.heap (X ++ ((q, .inr (7, [.int 0, .int 0, .int 0, .null, .null, .null, .null, .null, .null, .null, .null])) :: [(a1, .inl (Y.1, 0, .inl (fun _ => 0)))])) H locs := hH
  refine rw_put hx hb hts inX8 tyX8 tyX8_ok nmX8 hown hK hH rfl 3 (by decide) tw_126 (fun _ h9 => h9) rfl rfl rfl rfl (Nat.le_of_ble_eq_true rfl) dX8_init_23 (fun H locs hH => ?_)
  have hH : rw_H D s0 s.heap (X ++ ((q, .inr (7, [.int 0, .int 0, .int 0, .ref a1, .null, .null, .null, .null, .null, .null, .null])) :: [(a1, .inl (Y.1, 0, .inl (fun _ => 0)))])) H locs := hH
  refine lv_aload_n hx hb dX8_init_26 rfl (lv_at hl 0 rfl) ?_
  refine lv_bipush (v := 16) hx hb dX8_init_27 (by decide) ?_
  refine rw_newI (X := X) (N' := 16) hx hb hts hs0 hK hH (by decide) (by decide) (by decide) (by omega) (by omega) dX8_init_29 (fun a2 H hH => ?_)
  have hH : rw_H D s0 s.heap (X ++ ((q, .inr (7, [.int 0, .int 0, .int 0, .ref a1, .null, .null, .null, .null, .null, .null, .null])) :: [(a1, .inl (Y.1, 0, .inl (fun _ => 0))), (a2, .inl (Y.1, 16, .inl (fun _ => 0)))])) H locs := hH
  refine rw_putF hx hb hts inX8 tyX8 tyX8_ok nmX8 hown hK hH rfl 4 (by decide) tw_128 (fun _ h9 => h9) rfl hnm rfl rfl rfl rfl (Nat.le_of_ble_eq_true rfl) dX8_init_31 (fun H locs hH => ?_)
  have hH : rw_H D s0 s.heap (X ++ ((q, .inr (7, [.int 0, .int 0, .int 0, .ref a1, .ref a2, .null, .null, .null, .null, .null, .null])) :: [(a1, .inl (Y.1, 0, .inl (fun _ => 0))), (a2, .inl (Y.1, 16, .inl (fun _ => 0)))])) H locs := hH
  refine lv_aload_n hx hb dX8_init_34 rfl (lv_at hl 0 rfl) ?_
  refine lv_bipush (v := 16) hx hb dX8_init_35 (by decide) ?_
  refine rw_newI (X := X) (N' := 16) hx hb hts hs0 hK hH (by decide) (by decide) (by decide) (by omega) (by omega) dX8_init_37 (fun a3 H hH => ?_)
  have hH : rw_H D s0 s.heap (X ++ ((q, .inr (7, [.int 0, .int 0, .int 0, .ref a1, .ref a2, .null, .null, .null, .null, .null, .null])) :: [(a1, .inl (Y.1, 0, .inl (fun _ => 0))), (a2, .inl (Y.1, 16, .inl (fun _ => 0))), (a3, .inl (Y.1, 16, .inl (fun _ => 0)))])) H locs := hH
  refine rw_putF hx hb hts inX8 tyX8 tyX8_ok nmX8 hown hK hH rfl 5 (by decide) tw_130 (fun _ h9 => h9) rfl hnm rfl rfl rfl rfl (Nat.le_of_ble_eq_true rfl) dX8_init_39 (fun H locs hH => ?_)
  have hH : rw_H D s0 s.heap (X ++ ((q, .inr (7, [.int 0, .int 0, .int 0, .ref a1, .ref a2, .ref a3, .null, .null, .null, .null, .null])) :: [(a1, .inl (Y.1, 0, .inl (fun _ => 0))), (a2, .inl (Y.1, 16, .inl (fun _ => 0))), (a3, .inl (Y.1, 16, .inl (fun _ => 0)))])) H locs := hH
  refine lv_aload_n hx hb dX8_init_42 rfl (lv_at hl 0 rfl) ?_
  refine lv_bipush (v := 16) hx hb dX8_init_43 (by decide) ?_
  refine rw_newI (X := X) (N' := 16) hx hb hts hs0 hK hH (by decide) (by decide) (by decide) (by omega) (by omega) dX8_init_45 (fun a4 H hH => ?_)
  have hH : rw_H D s0 s.heap (X ++ ((q, .inr (7, [.int 0, .int 0, .int 0, .ref a1, .ref a2, .ref a3, .null, .null, .null, .null, .null])) :: [(a1, .inl (Y.1, 0, .inl (fun _ => 0))), (a2, .inl (Y.1, 16, .inl (fun _ => 0))), (a3, .inl (Y.1, 16, .inl (fun _ => 0))), (a4, .inl (Y.1, 16, .inl (fun _ => 0)))])) H locs := hH
  refine rw_putF hx hb hts inX8 tyX8 tyX8_ok nmX8 hown hK hH rfl 6 (by decide) tw_132 (fun _ h9 => h9) rfl hnm rfl rfl rfl rfl (Nat.le_of_ble_eq_true rfl) dX8_init_47 (fun H locs hH => ?_)
  have hH : rw_H D s0 s.heap (X ++ ((q, .inr (7, [.int 0, .int 0, .int 0, .ref a1, .ref a2, .ref a3, .ref a4, .null, .null, .null, .null])) :: [(a1, .inl (Y.1, 0, .inl (fun _ => 0))), (a2, .inl (Y.1, 16, .inl (fun _ => 0))), (a3, .inl (Y.1, 16, .inl (fun _ => 0))), (a4, .inl (Y.1, 16, .inl (fun _ => 0)))])) H locs := hH
  refine lv_aload_n hx hb dX8_init_50 rfl (lv_at hl 0 rfl) ?_
  refine lv_bipush (v := 16) hx hb dX8_init_51 (by decide) ?_
  refine rw_newI (X := X) (N' := 16) hx hb hts hs0 hK hH (by decide) (by decide) (by decide) (by omega) (by omega) dX8_init_53 (fun a5 H hH => ?_)
  have hH : rw_H D s0 s.heap (X ++ ((q, .inr (7, [.int 0, .int 0, .int 0, .ref a1, .ref a2, .ref a3, .ref a4, .null, .null, .null, .null])) :: [(a1, .inl (Y.1, 0, .inl (fun _ => 0))), (a2, .inl (Y.1, 16, .inl (fun _ => 0))), (a3, .inl (Y.1, 16, .inl (fun _ => 0))), (a4, .inl (Y.1, 16, .inl (fun _ => 0))), (a5, .inl (Y.1, 16, .inl (fun _ => 0)))])) H locs := hH
  refine rw_putF hx hb hts inX8 tyX8 tyX8_ok nmX8 hown hK hH rfl 7 (by decide) tw_133 (fun _ h9 => h9) rfl hnm rfl rfl rfl rfl (Nat.le_of_ble_eq_true rfl) dX8_init_55 (fun H locs hH => ?_)
  have hH : rw_H D s0 s.heap (X ++ ((q, .inr (7, [.int 0, .int 0, .int 0, .ref a1, .ref a2, .ref a3, .ref a4, .ref a5, .null, .null, .null])) :: [(a1, .inl (Y.1, 0, .inl (fun _ => 0))), (a2, .inl (Y.1, 16, .inl (fun _ => 0))), (a3, .inl (Y.1, 16, .inl (fun _ => 0))), (a4, .inl (Y.1, 16, .inl (fun _ => 0))), (a5, .inl (Y.1, 16, .inl (fun _ => 0)))])) H locs := hH
  refine lv_aload_n hx hb dX8_init_58 rfl (lv_at hl 0 rfl) ?_
  refine lv_bipush (v := 16) hx hb dX8_init_59 (by decide) ?_
  refine rw_newI (X := X) (N' := 16) hx hb hts hs0 hK hH (by decide) (by decide) (by decide) (by omega) (by omega) dX8_init_61 (fun a6 H hH => ?_)
  have hH : rw_H D s0 s.heap (X ++ ((q, .inr (7, [.int 0, .int 0, .int 0, .ref a1, .ref a2, .ref a3, .ref a4, .ref a5, .null, .null, .null])) :: [(a1, .inl (Y.1, 0, .inl (fun _ => 0))), (a2, .inl (Y.1, 16, .inl (fun _ => 0))), (a3, .inl (Y.1, 16, .inl (fun _ => 0))), (a4, .inl (Y.1, 16, .inl (fun _ => 0))), (a5, .inl (Y.1, 16, .inl (fun _ => 0))), (a6, .inl (Y.1, 16, .inl (fun _ => 0)))])) H locs := hH
  refine rw_putF hx hb hts inX8 tyX8 tyX8_ok nmX8 hown hK hH rfl 8 (by decide) tw_134 (fun _ h9 => h9) rfl hnm rfl rfl rfl rfl (Nat.le_of_ble_eq_true rfl) dX8_init_63 (fun H locs hH => ?_)
  have hH : rw_H D s0 s.heap (X ++ ((q, .inr (7, [.int 0, .int 0, .int 0, .ref a1, .ref a2, .ref a3, .ref a4, .ref a5, .ref a6, .null, .null])) :: [(a1, .inl (Y.1, 0, .inl (fun _ => 0))), (a2, .inl (Y.1, 16, .inl (fun _ => 0))), (a3, .inl (Y.1, 16, .inl (fun _ => 0))), (a4, .inl (Y.1, 16, .inl (fun _ => 0))), (a5, .inl (Y.1, 16, .inl (fun _ => 0))), (a6, .inl (Y.1, 16, .inl (fun _ => 0)))])) H locs := hH
  refine lv_aload_n hx hb dX8_init_66 rfl (lv_at hl 0 rfl) ?_
  refine lv_bipush (v := 16) hx hb dX8_init_67 (by decide) ?_
  refine rw_newI (X := X) (N' := 16) hx hb hts hs0 hK hH (by decide) (by decide) (by decide) (by omega) (by omega) dX8_init_69 (fun a7 H hH => ?_)
  have hH : rw_H D s0 s.heap (X ++ ((q, .inr (7, [.int 0, .int 0, .int 0, .ref a1, .ref a2, .ref a3, .ref a4, .ref a5, .ref a6, .null, .null])) :: [(a1, .inl (Y.1, 0, .inl (fun _ => 0))), (a2, .inl (Y.1, 16, .inl (fun _ => 0))), (a3, .inl (Y.1, 16, .inl (fun _ => 0))), (a4, .inl (Y.1, 16, .inl (fun _ => 0))), (a5, .inl (Y.1, 16, .inl (fun _ => 0))), (a6, .inl (Y.1, 16, .inl (fun _ => 0))), (a7, .inl (Y.1, 16, .inl (fun _ => 0)))])) H locs := hH
  refine rw_putF hx hb hts inX8 tyX8 tyX8_ok nmX8 hown hK hH rfl 9 (by decide) tw_135 (fun _ h9 => h9) rfl hnm rfl rfl rfl rfl (Nat.le_of_ble_eq_true rfl) dX8_init_71 (fun H locs hH => ?_)
  have hH : rw_H D s0 s.heap (X ++ ((q, .inr (7, [.int 0, .int 0, .int 0, .ref a1, .ref a2, .ref a3, .ref a4, .ref a5, .ref a6, .ref a7, .null])) :: [(a1, .inl (Y.1, 0, .inl (fun _ => 0))), (a2, .inl (Y.1, 16, .inl (fun _ => 0))), (a3, .inl (Y.1, 16, .inl (fun _ => 0))), (a4, .inl (Y.1, 16, .inl (fun _ => 0))), (a5, .inl (Y.1, 16, .inl (fun _ => 0))), (a6, .inl (Y.1, 16, .inl (fun _ => 0))), (a7, .inl (Y.1, 16, .inl (fun _ => 0)))])) H locs := hH
  refine lv_aload_n hx hb dX8_init_74 rfl (lv_at hl 0 rfl) ?_
  refine lv_bipush (v := 64) hx hb dX8_init_75 (by decide) ?_
  refine rw_newJ (X := X) (N' := 64) hx hb hts hs0 hK hH (by decide) (by decide) (by decide) (by omega) (by omega) dX8_init_77 (fun a8 H hH => ?_)
  have hH : rw_H D s0 s.heap (X ++ ((q, .inr (7, [.int 0, .int 0, .int 0, .ref a1, .ref a2, .ref a3, .ref a4, .ref a5, .ref a6, .ref a7, .null])) :: [(a1, .inl (Y.1, 0, .inl (fun _ => 0))), (a2, .inl (Y.1, 16, .inl (fun _ => 0))), (a3, .inl (Y.1, 16, .inl (fun _ => 0))), (a4, .inl (Y.1, 16, .inl (fun _ => 0))), (a5, .inl (Y.1, 16, .inl (fun _ => 0))), (a6, .inl (Y.1, 16, .inl (fun _ => 0))), (a7, .inl (Y.1, 16, .inl (fun _ => 0))), (a8, .inl (Y.2.1, 64, .inr (.inl (fun _ => 0))))])) H locs := hH
  refine rw_putF hx hb hts inX8 tyX8 tyX8_ok nmX8 hown hK hH rfl 10 (by decide) tw_136 (fun _ h9 => h9) rfl hnm rfl rfl rfl rfl (Nat.le_of_ble_eq_true rfl) dX8_init_79 (fun H locs hH => ?_)
  have hH : rw_H D s0 s.heap (X ++ ((q, .inr (7, [.int 0, .int 0, .int 0, .ref a1, .ref a2, .ref a3, .ref a4, .ref a5, .ref a6, .ref a7, .ref a8])) :: [(a1, .inl (Y.1, 0, .inl (fun _ => 0))), (a2, .inl (Y.1, 16, .inl (fun _ => 0))), (a3, .inl (Y.1, 16, .inl (fun _ => 0))), (a4, .inl (Y.1, 16, .inl (fun _ => 0))), (a5, .inl (Y.1, 16, .inl (fun _ => 0))), (a6, .inl (Y.1, 16, .inl (fun _ => 0))), (a7, .inl (Y.1, 16, .inl (fun _ => 0))), (a8, .inl (Y.2.1, 64, .inr (.inl (fun _ => 0))))])) H locs := hH
  exact rw_vret hx hb hr hlocks hQ (by omega) (by omega) hH (rw_u [q, a1, a2, a3, a4, a5, a6, a7, a8]) rfl dX8_init_82
theorem k_X10_init {l : Launch} {D : va_G} {Y : nm_Y} {s0 : Nat} {X : va_W} {q : Nat} :
    nm_Met l yX10_init cX10_init 1 none { frames := 1, cells := 4, slots := 60, locals := 12 } [.ref q] D Y s0 (X ++ [(q, .inr (8, [.int 0, .int 0, .int 0, .int 0, .null, .null, .null, .null, .int 0]))]) (rw_Q D s0 (fun u => X ++ ((q, .inr (8, [.int 0, .int 0, .int 0, .int 0, .ref (u 1), .ref (u 2), .ref (u 3), .ref (u 4), .int 0])) :: [((u 1), .inl (Y.1, 12, .inl (fun _ => 0))), ((u 2), .inl (Y.1, 12, .inl (fun _ => 0))), ((u 3), .inl (Y.1, 12, .inl (fun _ => 0))), ((u 4), .inl (Y.1, 24, .inl (fun _ => 0)))]))) 4 60 := by
  refine mk_of (by decide) (Nat.le_of_ble_eq_true rfl) ?_
  intro p e R s m args below meth c Q ls hnm hx hb hr hlocks hml hown hts hs0 hK hZ hRf hRl hRc hRs hQ hP hD hl
  have hH : rw_H D s0 s.heap (X ++ ((q, .inr (8, [.int 0, .int 0, .int 0, .int 0, .null, .null, .null, .null, .int 0])) :: [])) s.heap [] := ⟨hP, hD, va_S.rf⟩
  have hl : lv_has ls 1 [(0, .ref q)] := hl
  refine lv_aload_n hx hb dX10_init_0 rfl (lv_at hl 0 rfl) ?_
  refine W.objInit hx hb hown (hts _ mw_222) (hts _ mw_24) (hts _ mw_25) rfl (by rw [hml]; exact hl.1) rfl dX10_init_1 (Nat.le_trans (Nat.le_of_ble_eq_true rfl) hRf) (Nat.le_trans (Nat.le_of_ble_eq_true rfl) hRl) ?_
  refine W.eq (g2 := F0 m 4 ls []) rfl ?_
  refine lv_aload_n hx hb dX10_init_4 rfl (lv_at hl 0 rfl) ?_
  refine lv_iconst (v := 0) hx hb dX10_init_5 (by decide) ?_
  refine rw_put hx hb hts inX10 tyX10 tyX10_ok nmX10 hown hK hH rfl 0 (by decide) tw_223 (fun _ h9 => h9) rfl (ty := .int) rfl rfl rfl (Nat.le_of_ble_eq_true rfl) dX10_init_6 (fun H locs hH => ?_)
  have hH : rw_H D s0 s.heap (X ++ ((q, .inr (8, [.int 0, .int 0, .int 0, .int 0, .null, .null, .null, .null, .int 0])) :: [])) H locs := hH
  refine lv_aload_n hx hb dX10_init_9 rfl (lv_at hl 0 rfl) ?_
  refine lv_iconst (v := 0) hx hb dX10_init_10 (by decide) ?_
  refine rw_put hx hb hts inX10 tyX10 tyX10_ok nmX10 hown hK hH rfl 1 (by decide) tw_225 (fun _ h9 => h9) rfl (ty := .int) rfl rfl rfl (Nat.le_of_ble_eq_true rfl) dX10_init_11 (fun H locs hH => ?_)
  have hH : rw_H D s0 s.heap (X ++ ((q, .inr (8, [.int 0, .int 0, .int 0, .int 0, .null, .null, .null, .null, .int 0])) :: [])) H locs := hH
  refine lv_aload_n hx hb dX10_init_14 rfl (lv_at hl 0 rfl) ?_
  refine lv_iconst (v := 0) hx hb dX10_init_15 (by decide) ?_
  refine rw_put hx hb hts inX10 tyX10 tyX10_ok nmX10 hown hK hH rfl 2 (by decide) tw_227 (fun _ h9 => h9) rfl (ty := .boolean) rfl rfl rfl (Nat.le_of_ble_eq_true rfl) dX10_init_16 (fun H locs hH => ?_)
  have hH : rw_H D s0 s.heap (X ++ ((q, .inr (8, [.int 0, .int 0, .int 0, .int 0, .null, .null, .null, .null, .int 0])) :: [])) H locs := hH
  refine lv_aload_n hx hb dX10_init_19 rfl (lv_at hl 0 rfl) ?_
  refine lv_iconst (v := 0) hx hb dX10_init_20 (by decide) ?_
  refine rw_put hx hb hts inX10 tyX10 tyX10_ok nmX10 hown hK hH rfl 3 (by decide) tw_229 (fun _ h9 => h9) rfl (ty := .boolean) rfl rfl rfl (Nat.le_of_ble_eq_true rfl) dX10_init_21 (fun H locs hH => ?_)
  have hH : rw_H D s0 s.heap (X ++ ((q, .inr (8, [.int 0, .int 0, .int 0, .int 0, .null, .null, .null, .null, .int 0])) :: [])) H locs := hH
  refine lv_aload_n hx hb dX10_init_24 rfl (lv_at hl 0 rfl) ?_
  refine lv_bipush (v := 12) hx hb dX10_init_25 (by decide) ?_
  refine rw_newI (X := X) (N' := 12) hx hb hts hs0 hK hH (by decide) (by decide) (by decide) (by omega) (by omega) dX10_init_27 (fun a1 H hH => ?_)
  have hH : rw_H D s0 s.heap (X ++ ((q, .inr (8, [.int 0, .int 0, .int 0, .int 0, .null, .null, .null, .null, .int 0])) :: [(a1, .inl (Y.1, 12, .inl (fun _ => 0)))])) H locs := hH
  refine rw_putF hx hb hts inX10 tyX10 tyX10_ok nmX10 hown hK hH rfl 4 (by decide) tw_231 (fun _ h9 => h9) rfl hnm rfl rfl rfl rfl (Nat.le_of_ble_eq_true rfl) dX10_init_29 (fun H locs hH => ?_)
  have hH : rw_H D s0 s.heap (X ++ ((q, .inr (8, [.int 0, .int 0, .int 0, .int 0, .ref a1, .null, .null, .null, .int 0])) :: [(a1, .inl (Y.1, 12, .inl (fun _ => 0)))])) H locs := hH
  refine lv_aload_n hx hb dX10_init_32 rfl (lv_at hl 0 rfl) ?_
  refine lv_bipush (v := 12) hx hb dX10_init_33 (by decide) ?_
  refine rw_newI (X := X) (N' := 12) hx hb hts hs0 hK hH (by decide) (by decide) (by decide) (by omega) (by omega) dX10_init_35 (fun a2 H hH => ?_)
  have hH : rw_H D s0 s.heap (X ++ ((q, .inr (8, [.int 0, .int 0, .int 0, .int 0, .ref a1, .null, .null, .null, .int 0])) :: [(a1, .inl (Y.1, 12, .inl (fun _ => 0))), (a2, .inl (Y.1, 12, .inl (fun _ => 0)))])) H locs := hH
  refine rw_putF hx hb hts inX10 tyX10 tyX10_ok nmX10 hown hK hH rfl 5 (by decide) tw_232 (fun _ h9 => h9) rfl hnm rfl rfl rfl rfl (Nat.le_of_ble_eq_true rfl) dX10_init_37 (fun H locs hH => ?_)
  have hH : rw_H D s0 s.heap (X ++ ((q, .inr (8, [.int 0, .int 0, .int 0, .int 0, .ref a1, .ref a2, .null, .null, .int 0])) :: [(a1, .inl (Y.1, 12, .inl (fun _ => 0))), (a2, .inl (Y.1, 12, .inl (fun _ => 0)))])) H locs := hH
  refine lv_aload_n hx hb dX10_init_40 rfl (lv_at hl 0 rfl) ?_
  refine lv_bipush (v := 12) hx hb dX10_init_41 (by decide) ?_
  refine rw_newI (X := X) (N' := 12) hx hb hts hs0 hK hH (by decide) (by decide) (by decide) (by omega) (by omega) dX10_init_43 (fun a3 H hH => ?_)
  have hH : rw_H D s0 s.heap (X ++ ((q, .inr (8, [.int 0, .int 0, .int 0, .int 0, .ref a1, .ref a2, .null, .null, .int 0])) :: [(a1, .inl (Y.1, 12, .inl (fun _ => 0))), (a2, .inl (Y.1, 12, .inl (fun _ => 0))), (a3, .inl (Y.1, 12, .inl (fun _ => 0)))])) H locs := hH
  refine rw_putF hx hb hts inX10 tyX10 tyX10_ok nmX10 hown hK hH rfl 6 (by decide) tw_233 (fun _ h9 => h9) rfl hnm rfl rfl rfl rfl (Nat.le_of_ble_eq_true rfl) dX10_init_45 (fun H locs hH => ?_)
  have hH : rw_H D s0 s.heap (X ++ ((q, .inr (8, [.int 0, .int 0, .int 0, .int 0, .ref a1, .ref a2, .ref a3, .null, .int 0])) :: [(a1, .inl (Y.1, 12, .inl (fun _ => 0))), (a2, .inl (Y.1, 12, .inl (fun _ => 0))), (a3, .inl (Y.1, 12, .inl (fun _ => 0)))])) H locs := hH
  refine lv_aload_n hx hb dX10_init_48 rfl (lv_at hl 0 rfl) ?_
  refine lv_bipush (v := 24) hx hb dX10_init_49 (by decide) ?_
  refine rw_newI (X := X) (N' := 24) hx hb hts hs0 hK hH (by decide) (by decide) (by decide) (by omega) (by omega) dX10_init_51 (fun a4 H hH => ?_)
  have hH : rw_H D s0 s.heap (X ++ ((q, .inr (8, [.int 0, .int 0, .int 0, .int 0, .ref a1, .ref a2, .ref a3, .null, .int 0])) :: [(a1, .inl (Y.1, 12, .inl (fun _ => 0))), (a2, .inl (Y.1, 12, .inl (fun _ => 0))), (a3, .inl (Y.1, 12, .inl (fun _ => 0))), (a4, .inl (Y.1, 24, .inl (fun _ => 0)))])) H locs := hH
  refine rw_putF hx hb hts inX10 tyX10 tyX10_ok nmX10 hown hK hH rfl 7 (by decide) tw_234 (fun _ h9 => h9) rfl hnm rfl rfl rfl rfl (Nat.le_of_ble_eq_true rfl) dX10_init_53 (fun H locs hH => ?_)
  have hH : rw_H D s0 s.heap (X ++ ((q, .inr (8, [.int 0, .int 0, .int 0, .int 0, .ref a1, .ref a2, .ref a3, .ref a4, .int 0])) :: [(a1, .inl (Y.1, 12, .inl (fun _ => 0))), (a2, .inl (Y.1, 12, .inl (fun _ => 0))), (a3, .inl (Y.1, 12, .inl (fun _ => 0))), (a4, .inl (Y.1, 24, .inl (fun _ => 0)))])) H locs := hH
  refine lv_aload_n hx hb dX10_init_56 rfl (lv_at hl 0 rfl) ?_
  refine lv_iconst (v := 0) hx hb dX10_init_57 (by decide) ?_
  refine rw_put hx hb hts inX10 tyX10 tyX10_ok nmX10 hown hK hH rfl 8 (by decide) tw_235 (fun _ h9 => h9) rfl (ty := .int) rfl rfl rfl (Nat.le_of_ble_eq_true rfl) dX10_init_58 (fun H locs hH => ?_)
  have hH : rw_H D s0 s.heap (X ++ ((q, .inr (8, [.int 0, .int 0, .int 0, .int 0, .ref a1, .ref a2, .ref a3, .ref a4, .int 0])) :: [(a1, .inl (Y.1, 12, .inl (fun _ => 0))), (a2, .inl (Y.1, 12, .inl (fun _ => 0))), (a3, .inl (Y.1, 12, .inl (fun _ => 0))), (a4, .inl (Y.1, 24, .inl (fun _ => 0)))])) H locs := hH
  exact rw_vret hx hb hr hlocks hQ (by omega) (by omega) hH (rw_u [q, a1, a2, a3, a4]) rfl dX10_init_61
