abbrev nm_I : Type := Nat → Nat → Int32
def nJ0 : Nat → Nat → Int64 := fun _ _ => 0
def moLn : List Nat := [0, 128, 128, 128, 128, 128, 128, 128, 8, 16, 16, 16, 10, 262144, 1600, 1600, 1600, 8, 0, 0, 65536, 0, 0, 0, 200, 200, 200, 0, 4096, 4096, 4096, 4096, 4096, 4096, 0, 0, 16, 16, 16, 16, 0, 600, 600, 600, 600, 16, 16, 0, 0, 16, 16, 8, 8, 8, 0, 0, 0, 0, 0, 65536, 65536, 0, 4096, 4096, 4096, 4096, 0, 12, 12, 12, 12, 0, 0, 0, 12, 65536, 24, 12, 64, 64, 0]
def moKd : List Nat := [11, 20, 20, 20, 20, 20, 20, 20, 20, 20, 20, 20, 20, 22, 20, 20, 20, 20, 0, 0, 22, 0, 0, 0, 20, 20, 20, 0, 20, 20, 20, 20, 20, 22, 0, 0, 20, 20, 20, 20, 0, 20, 20, 20, 20, 20, 20, 0, 0, 22, 22, 20, 20, 20, 0, 0, 0, 0, 0, 20, 20, 0, 20, 20, 20, 20, 0, 20, 20, 20, 20, 0, 0, 0, 20, 20, 20, 20, 20, 20, 0]
def moZ : (Nat → Nat) × (Nat → Nat) := (fun n => moLn.getD n 0, fun n => moKd.getD n 0)
def moN : List Nat := [0, 1, 2, 3, 4, 5, 6, 7, 8, 9, 10, 11, 12, 13, 14, 15, 16, 17, 20, 24, 25, 26, 28, 29, 30, 31, 32, 33, 36, 37, 38, 39, 41, 42, 43, 44, 45, 46, 49, 50, 51, 52, 53, 59, 60, 62, 63, 64, 65, 67, 68, 69, 70, 74, 75, 76, 77, 78, 79]
theorem mo_n0 : 0 ∈ moN := by decide
theorem mo_k0 : moZ.2 0 = 11 := rfl
theorem mo_n1 : 1 ∈ moN := by decide
theorem mo_k1 : moZ.2 1 = 20 := rfl
theorem mo_l1 : moZ.1 1 = 128 := rfl
theorem mo_n2 : 2 ∈ moN := by decide
theorem mo_k2 : moZ.2 2 = 20 := rfl
theorem mo_l2 : moZ.1 2 = 128 := rfl
theorem mo_n3 : 3 ∈ moN := by decide
theorem mo_k3 : moZ.2 3 = 20 := rfl
theorem mo_l3 : moZ.1 3 = 128 := rfl
theorem mo_n4 : 4 ∈ moN := by decide
theorem mo_k4 : moZ.2 4 = 20 := rfl
theorem mo_l4 : moZ.1 4 = 128 := rfl
theorem mo_n5 : 5 ∈ moN := by decide
theorem mo_k5 : moZ.2 5 = 20 := rfl
theorem mo_l5 : moZ.1 5 = 128 := rfl
theorem mo_n6 : 6 ∈ moN := by decide
theorem mo_k6 : moZ.2 6 = 20 := rfl
theorem mo_l6 : moZ.1 6 = 128 := rfl
theorem mo_n7 : 7 ∈ moN := by decide
theorem mo_k7 : moZ.2 7 = 20 := rfl
theorem mo_l7 : moZ.1 7 = 128 := rfl
theorem mo_n8 : 8 ∈ moN := by decide
theorem mo_k8 : moZ.2 8 = 20 := rfl
theorem mo_l8 : moZ.1 8 = 8 := rfl
theorem mo_n9 : 9 ∈ moN := by decide
theorem mo_k9 : moZ.2 9 = 20 := rfl
theorem mo_l9 : moZ.1 9 = 16 := rfl
theorem mo_n10 : 10 ∈ moN := by decide
theorem mo_k10 : moZ.2 10 = 20 := rfl
theorem mo_l10 : moZ.1 10 = 16 := rfl
theorem mo_n11 : 11 ∈ moN := by decide
theorem mo_k11 : moZ.2 11 = 20 := rfl
theorem mo_l11 : moZ.1 11 = 16 := rfl
theorem mo_n12 : 12 ∈ moN := by decide
theorem mo_k12 : moZ.2 12 = 20 := rfl
theorem mo_l12 : moZ.1 12 = 10 := rfl
theorem mo_n13 : 13 ∈ moN := by decide
theorem mo_k13 : moZ.2 13 = 22 := rfl
theorem mo_l13 : moZ.1 13 = 262144 := rfl
theorem mo_n14 : 14 ∈ moN := by decide
theorem mo_k14 : moZ.2 14 = 20 := rfl
theorem mo_l14 : moZ.1 14 = 1600 := rfl
theorem mo_n15 : 15 ∈ moN := by decide
theorem mo_k15 : moZ.2 15 = 20 := rfl
theorem mo_l15 : moZ.1 15 = 1600 := rfl
theorem mo_n16 : 16 ∈ moN := by decide
theorem mo_k16 : moZ.2 16 = 20 := rfl
theorem mo_l16 : moZ.1 16 = 1600 := rfl
theorem mo_n17 : 17 ∈ moN := by decide
theorem mo_k17 : moZ.2 17 = 20 := rfl
theorem mo_l17 : moZ.1 17 = 8 := rfl
theorem mo_n20 : 20 ∈ moN := by decide
theorem mo_k20 : moZ.2 20 = 22 := rfl
theorem mo_l20 : moZ.1 20 = 65536 := rfl
theorem mo_n24 : 24 ∈ moN := by decide
theorem mo_k24 : moZ.2 24 = 20 := rfl
theorem mo_l24 : moZ.1 24 = 200 := rfl
theorem mo_n25 : 25 ∈ moN := by decide
theorem mo_k25 : moZ.2 25 = 20 := rfl
theorem mo_l25 : moZ.1 25 = 200 := rfl
theorem mo_n26 : 26 ∈ moN := by decide
theorem mo_k26 : moZ.2 26 = 20 := rfl
theorem mo_l26 : moZ.1 26 = 200 := rfl
theorem mo_n28 : 28 ∈ moN := by decide
theorem mo_k28 : moZ.2 28 = 20 := rfl
theorem mo_l28 : moZ.1 28 = 4096 := rfl
theorem mo_n29 : 29 ∈ moN := by decide
theorem mo_k29 : moZ.2 29 = 20 := rfl
theorem mo_l29 : moZ.1 29 = 4096 := rfl
theorem mo_n30 : 30 ∈ moN := by decide
theorem mo_k30 : moZ.2 30 = 20 := rfl
theorem mo_l30 : moZ.1 30 = 4096 := rfl
theorem mo_n31 : 31 ∈ moN := by decide
theorem mo_k31 : moZ.2 31 = 20 := rfl
theorem mo_l31 : moZ.1 31 = 4096 := rfl
theorem mo_n32 : 32 ∈ moN := by decide
theorem mo_k32 : moZ.2 32 = 20 := rfl
theorem mo_l32 : moZ.1 32 = 4096 := rfl
theorem mo_n33 : 33 ∈ moN := by decide
theorem mo_k33 : moZ.2 33 = 22 := rfl
theorem mo_l33 : moZ.1 33 = 4096 := rfl
theorem mo_n36 : 36 ∈ moN := by decide
theorem mo_k36 : moZ.2 36 = 20 := rfl
theorem mo_l36 : moZ.1 36 = 16 := rfl
theorem mo_n37 : 37 ∈ moN := by decide
theorem mo_k37 : moZ.2 37 = 20 := rfl
theorem mo_l37 : moZ.1 37 = 16 := rfl
theorem mo_n38 : 38 ∈ moN := by decide
theorem mo_k38 : moZ.2 38 = 20 := rfl
theorem mo_l38 : moZ.1 38 = 16 := rfl
theorem mo_n39 : 39 ∈ moN := by decide
theorem mo_k39 : moZ.2 39 = 20 := rfl
theorem mo_l39 : moZ.1 39 = 16 := rfl
theorem mo_n41 : 41 ∈ moN := by decide
theorem mo_k41 : moZ.2 41 = 20 := rfl
theorem mo_l41 : moZ.1 41 = 600 := rfl
theorem mo_n42 : 42 ∈ moN := by decide
theorem mo_k42 : moZ.2 42 = 20 := rfl
theorem mo_l42 : moZ.1 42 = 600 := rfl
theorem mo_n43 : 43 ∈ moN := by decide
theorem mo_k43 : moZ.2 43 = 20 := rfl
theorem mo_l43 : moZ.1 43 = 600 := rfl
theorem mo_n44 : 44 ∈ moN := by decide
theorem mo_k44 : moZ.2 44 = 20 := rfl
theorem mo_l44 : moZ.1 44 = 600 := rfl
theorem mo_n45 : 45 ∈ moN := by decide
theorem mo_k45 : moZ.2 45 = 20 := rfl
theorem mo_l45 : moZ.1 45 = 16 := rfl
theorem mo_n46 : 46 ∈ moN := by decide
theorem mo_k46 : moZ.2 46 = 20 := rfl
theorem mo_l46 : moZ.1 46 = 16 := rfl
theorem mo_n49 : 49 ∈ moN := by decide
theorem mo_k49 : moZ.2 49 = 22 := rfl
theorem mo_l49 : moZ.1 49 = 16 := rfl
theorem mo_n50 : 50 ∈ moN := by decide
theorem mo_k50 : moZ.2 50 = 22 := rfl
theorem mo_l50 : moZ.1 50 = 16 := rfl
theorem mo_n51 : 51 ∈ moN := by decide
theorem mo_k51 : moZ.2 51 = 20 := rfl
theorem mo_l51 : moZ.1 51 = 8 := rfl
theorem mo_n52 : 52 ∈ moN := by decide
theorem mo_k52 : moZ.2 52 = 20 := rfl
theorem mo_l52 : moZ.1 52 = 8 := rfl
theorem mo_n53 : 53 ∈ moN := by decide
theorem mo_k53 : moZ.2 53 = 20 := rfl
theorem mo_l53 : moZ.1 53 = 8 := rfl
theorem mo_n59 : 59 ∈ moN := by decide
theorem mo_k59 : moZ.2 59 = 20 := rfl
theorem mo_l59 : moZ.1 59 = 65536 := rfl
theorem mo_n60 : 60 ∈ moN := by decide
theorem mo_k60 : moZ.2 60 = 20 := rfl
theorem mo_l60 : moZ.1 60 = 65536 := rfl
theorem mo_n62 : 62 ∈ moN := by decide
theorem mo_k62 : moZ.2 62 = 20 := rfl
theorem mo_l62 : moZ.1 62 = 4096 := rfl
theorem mo_n63 : 63 ∈ moN := by decide
theorem mo_k63 : moZ.2 63 = 20 := rfl
theorem mo_l63 : moZ.1 63 = 4096 := rfl
theorem mo_n64 : 64 ∈ moN := by decide
theorem mo_k64 : moZ.2 64 = 20 := rfl
theorem mo_l64 : moZ.1 64 = 4096 := rfl
theorem mo_n65 : 65 ∈ moN := by decide
theorem mo_k65 : moZ.2 65 = 20 := rfl
theorem mo_l65 : moZ.1 65 = 4096 := rfl
theorem mo_n67 : 67 ∈ moN := by decide
theorem mo_k67 : moZ.2 67 = 20 := rfl
theorem mo_l67 : moZ.1 67 = 12 := rfl
theorem mo_n68 : 68 ∈ moN := by decide
theorem mo_k68 : moZ.2 68 = 20 := rfl
theorem mo_l68 : moZ.1 68 = 12 := rfl
theorem mo_n69 : 69 ∈ moN := by decide
theorem mo_k69 : moZ.2 69 = 20 := rfl
theorem mo_l69 : moZ.1 69 = 12 := rfl
theorem mo_n70 : 70 ∈ moN := by decide
theorem mo_k70 : moZ.2 70 = 20 := rfl
theorem mo_l70 : moZ.1 70 = 12 := rfl
theorem mo_n74 : 74 ∈ moN := by decide
theorem mo_k74 : moZ.2 74 = 20 := rfl
theorem mo_l74 : moZ.1 74 = 12 := rfl
theorem mo_n75 : 75 ∈ moN := by decide
theorem mo_k75 : moZ.2 75 = 20 := rfl
theorem mo_l75 : moZ.1 75 = 65536 := rfl
theorem mo_n76 : 76 ∈ moN := by decide
theorem mo_k76 : moZ.2 76 = 20 := rfl
theorem mo_l76 : moZ.1 76 = 24 := rfl
theorem mo_n77 : 77 ∈ moN := by decide
theorem mo_k77 : moZ.2 77 = 20 := rfl
theorem mo_l77 : moZ.1 77 = 12 := rfl
theorem mo_n78 : 78 ∈ moN := by decide
theorem mo_k78 : moZ.2 78 = 20 := rfl
theorem mo_l78 : moZ.1 78 = 64 := rfl
theorem mo_n79 : 79 ∈ moN := by decide
theorem mo_k79 : moZ.2 79 = 20 := rfl
theorem mo_l79 : moZ.1 79 = 64 := rfl
def nm_max (x y : Int32) : Int32 := if x < y then y else x
def nm_min (x y : Int32) : Int32 := if y < x then y else x
def nm_shl (x : Int64) (y : Int32) : Int64 := x <<< (y.toInt64 &&& 63)
def nm_shr (x : Int64) (y : Int32) : Int64 := (x.toUInt64 >>> (y.toInt64.toUInt64 &&& Int64.toUInt64 63)).toInt64
def nm_iushr (x y : Int32) : Int32 := (x.toUInt32 >>> (y.toUInt32 &&& Int32.toUInt32 31)).toInt32
theorem nm_tab {p : Program} {l : Launch} {e : Env} {R : Room} {s : State} {m : MethodId} {args : Array Value} {below : List Frame} {meth : Method} {c : Code} {H : Heap} {locs : List Loc} {cells slots : Nat} {Q : State → Prop} {cc : ByteArray} {pc : Nat} {ls : Array Slot} {rest : List Value} (hx : p.tables.exec = Jvm.exec) (hb : c.code = cc) {dflt lo hi : Int} {offs : Array Int} {len : Nat} {x v : Int32} (hc : x = v) {off : Int} {tgt : Nat} (hdg : decode cc pc = .ok (.tableswitch dflt lo hi offs, len)) (h1 : ¬ v.toInt < lo) (h2 : ¬ hi < v.toInt) (ho : offs[(v.toInt - lo).toNat]? = some off) (ht : (pc : Int) + off = (tgt : Int))
    (k : W p l e R s m args below meth c H locs cells slots Q (F0 m tgt ls rest)) : W p l e R s m args below meth c H locs cells slots Q (F0 m pc ls (.int x :: rest)) := by
  subst hc
  exact lv_tableIn hx hb hdg h1 h2 ho ht k
theorem nm_sw (x : Int32) {lo hi : Int} (h : ∀ k : Int, lo ≤ k → k ≤ hi → x = Int32.ofInt k → False) : x.toInt < lo ∨ hi < x.toInt := by
  by_cases h1 : x.toInt < lo
  · exact Or.inl h1
  · by_cases h2 : hi < x.toInt
    · exact Or.inr h2
    · exact absurd (Int32.ofInt_toInt x).symm (fun e => h x.toInt (by omega) (by omega) e)
theorem hd_X12_isIn : nm_hd yX12_isIn 3 := by decide +kernel
theorem hd_X12_no : nm_hd yX12_no 1 := by decide +kernel
theorem sw_X12_no : Cond.selects yX12_no.cls yX12_no yX12_no ∈ nm_T := nm_sel 29 (by decide +kernel) (by decide +kernel)
theorem hd_X12_isCell : nm_hd yX12_isCell 1 := by decide +kernel
theorem hd_X12_isLayer : nm_hd yX12_isLayer 1 := by decide +kernel
theorem hd_X12_isSquare : nm_hd yX12_isSquare 1 := by decide +kernel
theorem hd_X12_adds : nm_hd yX12_adds 6 := by decide +kernel
theorem sw_X12_adds : Cond.selects yX12_adds.cls yX12_adds yX12_adds ∈ nm_T := nm_sel 30 (by decide +kernel) (by decide +kernel)
theorem hd_X12_box : nm_hd yX12_box 5 := by decide +kernel
theorem sw_X12_box : Cond.selects yX12_box.cls yX12_box yX12_box ∈ nm_T := nm_tb 1199 (by decide +kernel) (by decide +kernel)
theorem hd_X12_path : nm_hd yX12_path 5 := by decide +kernel
theorem sw_X12_path : Cond.selects yX12_path.cls yX12_path yX12_path ∈ nm_T := nm_tb 1222 (by decide +kernel) (by decide +kernel)
theorem hd_X12_text : nm_hd yX12_text 4 := by decide +kernel
theorem sw_X12_text : Cond.selects yX12_text.cls yX12_text yX12_text ∈ nm_T := nm_tb 1227 (by decide +kernel) (by decide +kernel)
theorem hd_X12_put : nm_hd yX12_put 5 := by decide +kernel
theorem sw_X12_put : Cond.selects yX12_put.cls yX12_put yX12_put ∈ nm_T := nm_tb 1235 (by decide +kernel) (by decide +kernel)
theorem hd_X12_isShape : nm_hd yX12_isShape 2 := by decide +kernel
theorem sw_X12_isShape : Cond.selects yX12_isShape.cls yX12_isShape yX12_isShape ∈ nm_T := nm_sel 31 (by decide +kernel) (by decide +kernel)
theorem hd_X12_isTimes : nm_hd yX12_isTimes 1 := by decide +kernel
theorem hd_X12_times : nm_hd yX12_times 4 := by decide +kernel
theorem sw_X12_times : Cond.selects yX12_times.cls yX12_times yX12_times ∈ nm_T := nm_tb 1240 (by decide +kernel) (by decide +kernel)
theorem hd_X12_undo : nm_hd yX12_undo 1 := by decide +kernel
theorem sw_X12_undo : Cond.selects yX12_undo.cls yX12_undo yX12_undo ∈ nm_T := nm_tb 1254 (by decide +kernel) (by decide +kernel)
theorem hd_X12_shape : nm_hd yX12_shape 3 := by decide +kernel
theorem sw_X12_shape : Cond.selects yX12_shape.cls yX12_shape yX12_shape ∈ nm_T := nm_tb 1258 (by decide +kernel) (by decide +kernel)
theorem hd_X12_flatAt : nm_hd yX12_flatAt 2 := by decide +kernel
theorem hd_X12_fill : nm_hd yX12_fill 6 := by decide +kernel
theorem sw_X12_fill : Cond.selects yX12_fill.cls yX12_fill yX12_fill ∈ nm_T := nm_sel 34 (by decide +kernel) (by decide +kernel)
theorem hd_X12_laysPath : nm_hd yX12_laysPath 4 := by decide +kernel
theorem sw_X12_laysPath : Cond.selects yX12_laysPath.cls yX12_laysPath yX12_laysPath ∈ nm_T := nm_sel 35 (by decide +kernel) (by decide +kernel)
theorem hd_X12_laysOwn : nm_hd yX12_laysOwn 1 := by decide +kernel
theorem sw_X12_laysOwn : Cond.selects yX12_laysOwn.cls yX12_laysOwn yX12_laysOwn ∈ nm_T := nm_sel 33 (by decide +kernel) (by decide +kernel)
theorem hd_X12_turns : nm_hd yX12_turns 2 := by decide +kernel
theorem sw_X12_turns : Cond.selects yX12_turns.cls yX12_turns yX12_turns ∈ nm_T := nm_sel 38 (by decide +kernel) (by decide +kernel)
theorem hd_X12_placed : nm_hd yX12_placed 3 := by decide +kernel
theorem sw_X12_placed : Cond.selects yX12_placed.cls yX12_placed yX12_placed ∈ nm_T := nm_sel 39 (by decide +kernel) (by decide +kernel)
theorem hd_X12_laysPut : nm_hd yX12_laysPut 2 := by decide +kernel
theorem sw_X12_laysPut : Cond.selects yX12_laysPut.cls yX12_laysPut yX12_laysPut ∈ nm_T := nm_sel 37 (by decide +kernel) (by decide +kernel)
theorem hd_X12_addText : nm_hd yX12_addText 4 := by decide +kernel
theorem sw_X12_addText : Cond.selects yX12_addText.cls yX12_addText yX12_addText ∈ nm_T := nm_sel 36 (by decide +kernel) (by decide +kernel)
theorem hd_X12_textsOf : nm_hd yX12_textsOf 2 := by decide +kernel
theorem sw_X12_textsOf : Cond.selects yX12_textsOf.cls yX12_textsOf yX12_textsOf ∈ nm_T := nm_sel 40 (by decide +kernel) (by decide +kernel)
theorem hd_X12_lays : nm_hd yX12_lays 1 := by decide +kernel
theorem sw_X12_lays : Cond.selects yX12_lays.cls yX12_lays yX12_lays ∈ nm_T := nm_sel 32 (by decide +kernel) (by decide +kernel)
theorem hd_X12_made : nm_hd yX12_made 4 := by decide +kernel
theorem sw_X12_made : Cond.selects yX12_made.cls yX12_made yX12_made ∈ nm_T := nm_tb 1262 (by decide +kernel) (by decide +kernel)
theorem hd_X12_around : nm_hd yX12_around 4 := by decide +kernel
theorem sw_X12_around : Cond.selects yX12_around.cls yX12_around yX12_around ∈ nm_T := nm_sel 44 (by decide +kernel) (by decide +kernel)
theorem hd_X12_meets : nm_hd yX12_meets 4 := by decide +kernel
theorem sw_X12_meets : Cond.selects yX12_meets.cls yX12_meets yX12_meets ∈ nm_T := nm_sel 43 (by decide +kernel) (by decide +kernel)
theorem hd_X12_findPieces : nm_hd yX12_findPieces 2 := by decide +kernel
theorem sw_X12_findPieces : Cond.selects yX12_findPieces.cls yX12_findPieces yX12_findPieces ∈ nm_T := nm_sel 42 (by decide +kernel) (by decide +kernel)
theorem hd_X12_touches : nm_hd yX12_touches 1 := by decide +kernel
theorem sw_X12_touches : Cond.selects yX12_touches.cls yX12_touches yX12_touches ∈ nm_T := nm_sel 45 (by decide +kernel) (by decide +kernel)
theorem hd_X12_makes : nm_hd yX12_makes 1 := by decide +kernel
theorem sw_X12_makes : Cond.selects yX12_makes.cls yX12_makes yX12_makes ∈ nm_T := nm_sel 41 (by decide +kernel) (by decide +kernel)
theorem hd_X12_flat : nm_hd yX12_flat 1 := by decide +kernel
theorem sw_X12_flat : Cond.selects yX12_flat.cls yX12_flat yX12_flat ∈ nm_T := nm_tb 1269 (by decide +kernel) (by decide +kernel)
theorem hd_X12_areaOf : nm_hd yX12_areaOf 1 := by decide +kernel
theorem sw_X12_areaOf : Cond.selects yX12_areaOf.cls yX12_areaOf yX12_areaOf ∈ nm_T := nm_sel 46 (by decide +kernel) (by decide +kernel)
theorem hd_X12_area : nm_hd yX12_area 1 := by decide +kernel
theorem sw_X12_area : Cond.selects yX12_area.cls yX12_area yX12_area ∈ nm_T := nm_tb 1333 (by decide +kernel) (by decide +kernel)
theorem hd_X12_covered : nm_hd yX12_covered 2 := by decide +kernel
theorem sw_X12_covered : Cond.selects yX12_covered.cls yX12_covered yX12_covered ∈ nm_T := nm_tb 1341 (by decide +kernel) (by decide +kernel)
theorem hd_X12_pieces : nm_hd yX12_pieces 2 := by decide +kernel
theorem sw_X12_pieces : Cond.selects yX12_pieces.cls yX12_pieces yX12_pieces ∈ nm_T := nm_tb 1345 (by decide +kernel) (by decide +kernel)
theorem hd_X12_rule : nm_hd yX12_rule 4 := by decide +kernel
theorem sw_X12_rule : Cond.selects yX12_rule.cls yX12_rule yX12_rule ∈ nm_T := nm_tb 1349 (by decide +kernel) (by decide +kernel)
theorem hd_X12_fault : nm_hd yX12_fault 4 := by decide +kernel
theorem sw_X12_fault : Cond.selects yX12_fault.cls yX12_fault yX12_fault ∈ nm_T := nm_sel 48 (by decide +kernel) (by decide +kernel)
theorem hd_X12_along : nm_hd yX12_along 2 := by decide +kernel
theorem hd_X12_lines : nm_hd yX12_lines 2 := by decide +kernel
theorem sw_X12_lines : Cond.selects yX12_lines.cls yX12_lines yX12_lines ∈ nm_T := nm_sel 47 (by decide +kernel) (by decide +kernel)
theorem hd_X12_lacking : nm_hd yX12_lacking 3 := by decide +kernel
theorem sw_X12_lacking : Cond.selects yX12_lacking.cls yX12_lacking yX12_lacking ∈ nm_T := nm_sel 50 (by decide +kernel) (by decide +kernel)
theorem hd_X12_inside : nm_hd yX12_inside 1 := by decide +kernel
theorem sw_X12_inside : Cond.selects yX12_inside.cls yX12_inside yX12_inside ∈ nm_T := nm_sel 49 (by decide +kernel) (by decide +kernel)
theorem hd_X12_shares : nm_hd yX12_shares 1 := by decide +kernel
theorem sw_X12_shares : Cond.selects yX12_shares.cls yX12_shares yX12_shares ∈ nm_T := nm_sel 52 (by decide +kernel) (by decide +kernel)
theorem hd_X12_areas : nm_hd yX12_areas 1 := by decide +kernel
theorem sw_X12_areas : Cond.selects yX12_areas.cls yX12_areas yX12_areas ∈ nm_T := nm_sel 51 (by decide +kernel) (by decide +kernel)
theorem hd_X12_run : nm_hd yX12_run 0 := by decide +kernel
theorem sw_X12_run : Cond.selects yX12_run.cls yX12_run yX12_run ∈ nm_T := nm_tb 1354 (by decide +kernel) (by decide +kernel)
theorem hd_X12_fault_ : nm_hd yX12_fault_ 2 := by decide +kernel
theorem sw_X12_fault_ : Cond.selects yX12_fault_.cls yX12_fault_ yX12_fault_ ∈ nm_T := nm_tb 1385 (by decide +kernel) (by decide +kernel)
theorem hd_X12_faults : nm_hd yX12_faults 2 := by decide +kernel
theorem sw_X12_faults : Cond.selects yX12_faults.cls yX12_faults yX12_faults ∈ nm_T := nm_tb 1389 (by decide +kernel) (by decide +kernel)
theorem hd_X12_conducts : nm_hd yX12_conducts 2 := by decide +kernel
theorem sw_X12_conducts : Cond.selects yX12_conducts.cls yX12_conducts yX12_conducts ∈ nm_T := nm_tb 1393 (by decide +kernel) (by decide +kernel)
theorem hd_X12_joint : nm_hd yX12_joint 3 := by decide +kernel
theorem sw_X12_joint : Cond.selects yX12_joint.cls yX12_joint yX12_joint ∈ nm_T := nm_tb 1397 (by decide +kernel) (by decide +kernel)
theorem hd_X12_gates : nm_hd yX12_gates 3 := by decide +kernel
theorem sw_X12_gates : Cond.selects yX12_gates.cls yX12_gates yX12_gates ∈ nm_T := nm_tb 1401 (by decide +kernel) (by decide +kernel)
theorem hd_X12_reaches : nm_hd yX12_reaches 1 := by decide +kernel
theorem sw_X12_reaches : Cond.selects yX12_reaches.cls yX12_reaches yX12_reaches ∈ nm_T := nm_sel 54 (by decide +kernel) (by decide +kernel)
theorem hd_X12_goesOnFrom : nm_hd yX12_goesOnFrom 1 := by decide +kernel
theorem sw_X12_goesOnFrom : Cond.selects yX12_goesOnFrom.cls yX12_goesOnFrom yX12_goesOnFrom ∈ nm_T := nm_sel 55 (by decide +kernel) (by decide +kernel)
theorem hd_X12_findNets : nm_hd yX12_findNets 0 := by decide +kernel
theorem sw_X12_findNets : Cond.selects yX12_findNets.cls yX12_findNets yX12_findNets ∈ nm_T := nm_sel 53 (by decide +kernel) (by decide +kernel)
theorem hd_X12_ends : nm_hd yX12_ends 2 := by decide +kernel
theorem sw_X12_ends : Cond.selects yX12_ends.cls yX12_ends yX12_ends ∈ nm_T := nm_sel 57 (by decide +kernel) (by decide +kernel)
theorem hd_X12_findDevices : nm_hd yX12_findDevices 0 := by decide +kernel
theorem sw_X12_findDevices : Cond.selects yX12_findDevices.cls yX12_findDevices yX12_findDevices ∈ nm_T := nm_sel 56 (by decide +kernel) (by decide +kernel)
theorem hd_X12_circuit : nm_hd yX12_circuit 0 := by decide +kernel
theorem sw_X12_circuit : Cond.selects yX12_circuit.cls yX12_circuit yX12_circuit ∈ nm_T := nm_tb 1405 (by decide +kernel) (by decide +kernel)
theorem hd_X12_net : nm_hd yX12_net 2 := by decide +kernel
theorem sw_X12_net : Cond.selects yX12_net.cls yX12_net yX12_net ∈ nm_T := nm_tb 1429 (by decide +kernel) (by decide +kernel)
theorem hd_X12_name : nm_hd yX12_name 2 := by decide +kernel
theorem sw_X12_name : Cond.selects yX12_name.cls yX12_name yX12_name ∈ nm_T := nm_tb 1433 (by decide +kernel) (by decide +kernel)
theorem hd_X12_device : nm_hd yX12_device 2 := by decide +kernel
theorem sw_X12_device : Cond.selects yX12_device.cls yX12_device yX12_device ∈ nm_T := nm_tb 1437 (by decide +kernel) (by decide +kernel)
theorem hd_X12_wish : nm_hd yX12_wish 2 := by decide +kernel
theorem sw_X12_wish : Cond.selects yX12_wish.cls yX12_wish yX12_wish ∈ nm_T := nm_tb 1441 (by decide +kernel) (by decide +kernel)
theorem hd_X12_unwish : nm_hd yX12_unwish 0 := by decide +kernel
theorem sw_X12_unwish : Cond.selects yX12_unwish.cls yX12_unwish yX12_unwish ∈ nm_T := nm_tb 1446 (by decide +kernel) (by decide +kernel)
theorem hd_X12_pair : nm_hd yX12_pair 2 := by decide +kernel
theorem sw_X12_pair : Cond.selects yX12_pair.cls yX12_pair yX12_pair ∈ nm_T := nm_sel 63 (by decide +kernel) (by decide +kernel)
theorem hd_X12_pairsUpTo : nm_hd yX12_pairsUpTo 1 := by decide +kernel
theorem sw_X12_pairsUpTo : Cond.selects yX12_pairsUpTo.cls yX12_pairsUpTo yX12_pairsUpTo ∈ nm_T := nm_sel 62 (by decide +kernel) (by decide +kernel)
theorem hd_X12_isTaken : nm_hd yX12_isTaken 2 := by decide +kernel
theorem sw_X12_isTaken : Cond.selects yX12_isTaken.cls yX12_isTaken yX12_isTaken ∈ nm_T := nm_sel 60 (by decide +kernel) (by decide +kernel)
theorem hd_X12_goes : nm_hd yX12_goes 2 := by decide +kernel
theorem sw_X12_goes : Cond.selects yX12_goes.cls yX12_goes yX12_goes ∈ nm_T := nm_sel 61 (by decide +kernel) (by decide +kernel)
theorem hd_X12_nextChoice : nm_hd yX12_nextChoice 2 := by decide +kernel
theorem sw_X12_nextChoice : Cond.selects yX12_nextChoice.cls yX12_nextChoice yX12_nextChoice ∈ nm_T := nm_sel 59 (by decide +kernel) (by decide +kernel)
theorem hd_X12_isComplete : nm_hd yX12_isComplete 0 := by decide +kernel
theorem sw_X12_isComplete : Cond.selects yX12_isComplete.cls yX12_isComplete yX12_isComplete ∈ nm_T := nm_sel 58 (by decide +kernel) (by decide +kernel)
theorem hd_X12_same : nm_hd yX12_same 0 := by decide +kernel
theorem sw_X12_same : Cond.selects yX12_same.cls yX12_same yX12_same ∈ nm_T := nm_tb 1450 (by decide +kernel) (by decide +kernel)
theorem hd_X12_tries : nm_hd yX12_tries 0 := by decide +kernel
theorem sw_X12_tries : Cond.selects yX12_tries.cls yX12_tries yX12_tries ∈ nm_T := nm_tb 1478 (by decide +kernel) (by decide +kernel)
theorem hd_X12_pair_ : nm_hd yX12_pair_ 2 := by decide +kernel
theorem sw_X12_pair_ : Cond.selects yX12_pair_.cls yX12_pair_ yX12_pair_ ∈ nm_T := nm_tb 1482 (by decide +kernel) (by decide +kernel)
theorem hd_X12_lay : nm_hd yX12_lay 2 := by decide +kernel
theorem sw_X12_lay : Cond.selects yX12_lay.cls yX12_lay yX12_lay ∈ nm_T := nm_tb 1486 (by decide +kernel) (by decide +kernel)
theorem hd_X12_tear : nm_hd yX12_tear 0 := by decide +kernel
theorem sw_X12_tear : Cond.selects yX12_tear.cls yX12_tear yX12_tear ∈ nm_T := nm_tb 1490 (by decide +kernel) (by decide +kernel)
theorem hd_X12_row : nm_hd yX12_row 1 := by decide +kernel
theorem sw_X12_row : Cond.selects yX12_row.cls yX12_row yX12_row ∈ nm_T := nm_tb 1494 (by decide +kernel) (by decide +kernel)
theorem hd_X12_copy : nm_hd yX12_copy 3 := by decide +kernel
theorem sw_X12_copy : Cond.selects yX12_copy.cls yX12_copy yX12_copy ∈ nm_T := nm_tb 1498 (by decide +kernel) (by decide +kernel)
theorem hd_X12_status : nm_hd yX12_status 1 := by decide +kernel
theorem sw_X12_status : Cond.selects yX12_status.cls yX12_status yX12_status ∈ nm_T := nm_tb 1502 (by decide +kernel) (by decide +kernel)
theorem tw_9 : (Jvm.Cond.initialized "RulePlateModel") ∈ nm_T := nm_tb 9 (by decide +kernel) (by decide +kernel)
theorem tw_955 : (Jvm.Cond.constant "RulePlateModel" (63 : Nat) (65536 : Int32)) ∈ nm_T := nm_tb 955 (by decide +kernel) (by decide +kernel)
theorem tw_956 : (Jvm.Cond.fieldLink "RulePlateModel" (7 : Nat) "RulePlateModel" "sKind" "[I") ∈ nm_T := nm_tb 956 (by decide +kernel) (by decide +kernel)
theorem tw_957 : (Jvm.Cond.fieldLink "RulePlateModel" (13 : Nat) "RulePlateModel" "sLayer" "[I") ∈ nm_T := nm_tb 957 (by decide +kernel) (by decide +kernel)
theorem tw_958 : (Jvm.Cond.fieldLink "RulePlateModel" (16 : Nat) "RulePlateModel" "sSquare" "[I") ∈ nm_T := nm_tb 958 (by decide +kernel) (by decide +kernel)
theorem tw_959 : (Jvm.Cond.fieldLink "RulePlateModel" (19 : Nat) "RulePlateModel" "sOne" "[I") ∈ nm_T := nm_tb 959 (by decide +kernel) (by decide +kernel)
theorem tw_960 : (Jvm.Cond.fieldLink "RulePlateModel" (22 : Nat) "RulePlateModel" "sTwo" "[I") ∈ nm_T := nm_tb 960 (by decide +kernel) (by decide +kernel)
theorem tw_961 : (Jvm.Cond.fieldLink "RulePlateModel" (25 : Nat) "RulePlateModel" "sAcross" "[I") ∈ nm_T := nm_tb 961 (by decide +kernel) (by decide +kernel)
theorem tw_962 : (Jvm.Cond.fieldLink "RulePlateModel" (28 : Nat) "RulePlateModel" "sDown" "[I") ∈ nm_T := nm_tb 962 (by decide +kernel) (by decide +kernel)
theorem tw_963 : (Jvm.Cond.fieldLink "RulePlateModel" (31 : Nat) "RulePlateModel" "shapes" "[I") ∈ nm_T := nm_tb 963 (by decide +kernel) (by decide +kernel)
theorem tw_964 : (Jvm.Cond.fieldLink "RulePlateModel" (34 : Nat) "RulePlateModel" "mOp" "[I") ∈ nm_T := nm_tb 964 (by decide +kernel) (by decide +kernel)
theorem tw_965 : (Jvm.Cond.fieldLink "RulePlateModel" (37 : Nat) "RulePlateModel" "mA" "[I") ∈ nm_T := nm_tb 965 (by decide +kernel) (by decide +kernel)
theorem tw_966 : (Jvm.Cond.fieldLink "RulePlateModel" (40 : Nat) "RulePlateModel" "mB" "[I") ∈ nm_T := nm_tb 966 (by decide +kernel) (by decide +kernel)
theorem tw_967 : (Jvm.Cond.fieldLink "RulePlateModel" (43 : Nat) "RulePlateModel" "refused" "[I") ∈ nm_T := nm_tb 967 (by decide +kernel) (by decide +kernel)
theorem tw_968 : (Jvm.Cond.fieldLink "RulePlateModel" (47 : Nat) "RulePlateModel" "flat" "[Z") ∈ nm_T := nm_tb 968 (by decide +kernel) (by decide +kernel)
theorem tw_969 : (Jvm.Cond.fieldLink "RulePlateModel" (51 : Nat) "RulePlateModel" "tLayer" "[I") ∈ nm_T := nm_tb 969 (by decide +kernel) (by decide +kernel)
theorem tw_970 : (Jvm.Cond.fieldLink "RulePlateModel" (54 : Nat) "RulePlateModel" "tSquare" "[I") ∈ nm_T := nm_tb 970 (by decide +kernel) (by decide +kernel)
theorem tw_971 : (Jvm.Cond.fieldLink "RulePlateModel" (57 : Nat) "RulePlateModel" "tName" "[I") ∈ nm_T := nm_tb 971 (by decide +kernel) (by decide +kernel)
theorem tw_972 : (Jvm.Cond.fieldLink "RulePlateModel" (60 : Nat) "RulePlateModel" "texts" "[I") ∈ nm_T := nm_tb 972 (by decide +kernel) (by decide +kernel)
theorem tw_973 : (Jvm.Cond.fieldLink "RulePlateModel" (248 : Nat) "RulePlateModel" "turnX" "I") ∈ nm_T := nm_tb 973 (by decide +kernel) (by decide +kernel)
theorem tw_974 : (Jvm.Cond.fieldLink "RulePlateModel" (251 : Nat) "RulePlateModel" "turnY" "I") ∈ nm_T := nm_tb 974 (by decide +kernel) (by decide +kernel)
theorem tw_975 : (Jvm.Cond.fieldLink "RulePlateModel" (64 : Nat) "RulePlateModel" "on" "[Z") ∈ nm_T := nm_tb 975 (by decide +kernel) (by decide +kernel)
theorem tw_976 : (Jvm.Cond.fieldLink "RulePlateModel" (304 : Nat) "RulePlateModel" "isDrawn" "Z") ∈ nm_T := nm_tb 976 (by decide +kernel) (by decide +kernel)
theorem tw_977 : (Jvm.Cond.fieldLink "RulePlateModel" (308 : Nat) "RulePlateModel" "wasRun" "Z") ∈ nm_T := nm_tb 977 (by decide +kernel) (by decide +kernel)
theorem tw_978 : (Jvm.Cond.fieldLink "RulePlateModel" (311 : Nat) "RulePlateModel" "isFound" "Z") ∈ nm_T := nm_tb 978 (by decide +kernel) (by decide +kernel)
theorem tw_979 : (Jvm.Cond.fieldLink "RulePlateModel" (67 : Nat) "RulePlateModel" "dLayer" "[I") ∈ nm_T := nm_tb 979 (by decide +kernel) (by decide +kernel)
theorem tw_980 : (Jvm.Cond.fieldLink "RulePlateModel" (70 : Nat) "RulePlateModel" "dSquare" "[I") ∈ nm_T := nm_tb 980 (by decide +kernel) (by decide +kernel)
theorem tw_981 : (Jvm.Cond.fieldLink "RulePlateModel" (73 : Nat) "RulePlateModel" "dName" "[I") ∈ nm_T := nm_tb 981 (by decide +kernel) (by decide +kernel)
theorem tw_982 : (Jvm.Cond.fieldLink "RulePlateModel" (301 : Nat) "RulePlateModel" "dTexts" "I") ∈ nm_T := nm_tb 982 (by decide +kernel) (by decide +kernel)
theorem tw_983 : (Jvm.Cond.fieldLink "RulePlateModel" (76 : Nat) "RulePlateModel" "piece" "[I") ∈ nm_T := nm_tb 983 (by decide +kernel) (by decide +kernel)
theorem tw_984 : (Jvm.Cond.fieldLink "RulePlateModel" (79 : Nat) "RulePlateModel" "pieceSize" "[I") ∈ nm_T := nm_tb 984 (by decide +kernel) (by decide +kernel)
theorem tw_985 : (Jvm.Cond.fieldLink "RulePlateModel" (82 : Nat) "RulePlateModel" "pieceLast" "[I") ∈ nm_T := nm_tb 985 (by decide +kernel) (by decide +kernel)
theorem tw_986 : (Jvm.Cond.fieldLink "RulePlateModel" (85 : Nat) "RulePlateModel" "pieceFirst" "[I") ∈ nm_T := nm_tb 986 (by decide +kernel) (by decide +kernel)
theorem tw_987 : (Jvm.Cond.fieldLink "RulePlateModel" (88 : Nat) "RulePlateModel" "open" "[I") ∈ nm_T := nm_tb 987 (by decide +kernel) (by decide +kernel)
theorem tw_988 : (Jvm.Cond.fieldLink "RulePlateModel" (91 : Nat) "RulePlateModel" "hit" "[Z") ∈ nm_T := nm_tb 988 (by decide +kernel) (by decide +kernel)
theorem tw_989 : (Jvm.Cond.fieldLink "RulePlateModel" (291 : Nat) "RulePlateModel" "pieceCount" "I") ∈ nm_T := nm_tb 989 (by decide +kernel) (by decide +kernel)
theorem tw_990 : (Jvm.Cond.fieldLink "RulePlateModel" (320 : Nat) "RulePlateModel" "openCount" "I") ∈ nm_T := nm_tb 990 (by decide +kernel) (by decide +kernel)
theorem tw_991 : (Jvm.Cond.fieldLink "RulePlateModel" (94 : Nat) "RulePlateModel" "rKind" "[I") ∈ nm_T := nm_tb 991 (by decide +kernel) (by decide +kernel)
theorem tw_992 : (Jvm.Cond.fieldLink "RulePlateModel" (97 : Nat) "RulePlateModel" "rA" "[I") ∈ nm_T := nm_tb 992 (by decide +kernel) (by decide +kernel)
theorem tw_993 : (Jvm.Cond.fieldLink "RulePlateModel" (100 : Nat) "RulePlateModel" "rB" "[I") ∈ nm_T := nm_tb 993 (by decide +kernel) (by decide +kernel)
theorem tw_994 : (Jvm.Cond.fieldLink "RulePlateModel" (103 : Nat) "RulePlateModel" "rN" "[I") ∈ nm_T := nm_tb 994 (by decide +kernel) (by decide +kernel)
theorem tw_995 : (Jvm.Cond.fieldLink "RulePlateModel" (328 : Nat) "RulePlateModel" "rules" "I") ∈ nm_T := nm_tb 995 (by decide +kernel) (by decide +kernel)
theorem tw_996 : (Jvm.Cond.fieldLink "RulePlateModel" (106 : Nat) "RulePlateModel" "fRule" "[I") ∈ nm_T := nm_tb 996 (by decide +kernel) (by decide +kernel)
theorem tw_997 : (Jvm.Cond.fieldLink "RulePlateModel" (109 : Nat) "RulePlateModel" "fFirst" "[I") ∈ nm_T := nm_tb 997 (by decide +kernel) (by decide +kernel)
theorem tw_998 : (Jvm.Cond.fieldLink "RulePlateModel" (112 : Nat) "RulePlateModel" "fSecond" "[I") ∈ nm_T := nm_tb 998 (by decide +kernel) (by decide +kernel)
theorem tw_999 : (Jvm.Cond.fieldLink "RulePlateModel" (115 : Nat) "RulePlateModel" "fMeasure" "[I") ∈ nm_T := nm_tb 999 (by decide +kernel) (by decide +kernel)
theorem tw_1000 : (Jvm.Cond.fieldLink "RulePlateModel" (118 : Nat) "RulePlateModel" "manyOf" "[I") ∈ nm_T := nm_tb 1000 (by decide +kernel) (by decide +kernel)
theorem tw_1001 : (Jvm.Cond.fieldLink "RulePlateModel" (121 : Nat) "RulePlateModel" "leastOf" "[I") ∈ nm_T := nm_tb 1001 (by decide +kernel) (by decide +kernel)
theorem tw_1002 : (Jvm.Cond.fieldLink "RulePlateModel" (331 : Nat) "RulePlateModel" "faults" "I") ∈ nm_T := nm_tb 1002 (by decide +kernel) (by decide +kernel)
theorem tw_1003 : (Jvm.Cond.fieldLink "RulePlateModel" (124 : Nat) "RulePlateModel" "conducts" "[Z") ∈ nm_T := nm_tb 1003 (by decide +kernel) (by decide +kernel)
theorem tw_1004 : (Jvm.Cond.fieldLink "RulePlateModel" (127 : Nat) "RulePlateModel" "conducted" "[Z") ∈ nm_T := nm_tb 1004 (by decide +kernel) (by decide +kernel)
theorem tw_1005 : (Jvm.Cond.fieldLink "RulePlateModel" (130 : Nat) "RulePlateModel" "jA" "[I") ∈ nm_T := nm_tb 1005 (by decide +kernel) (by decide +kernel)
theorem tw_1006 : (Jvm.Cond.fieldLink "RulePlateModel" (133 : Nat) "RulePlateModel" "jV" "[I") ∈ nm_T := nm_tb 1006 (by decide +kernel) (by decide +kernel)
theorem tw_1007 : (Jvm.Cond.fieldLink "RulePlateModel" (136 : Nat) "RulePlateModel" "jB" "[I") ∈ nm_T := nm_tb 1007 (by decide +kernel) (by decide +kernel)
theorem tw_1008 : (Jvm.Cond.fieldLink "RulePlateModel" (356 : Nat) "RulePlateModel" "joints" "I") ∈ nm_T := nm_tb 1008 (by decide +kernel) (by decide +kernel)
theorem tw_1009 : (Jvm.Cond.fieldLink "RulePlateModel" (139 : Nat) "RulePlateModel" "gateG" "I") ∈ nm_T := nm_tb 1009 (by decide +kernel) (by decide +kernel)
theorem tw_1010 : (Jvm.Cond.fieldLink "RulePlateModel" (359 : Nat) "RulePlateModel" "gateW" "I") ∈ nm_T := nm_tb 1010 (by decide +kernel) (by decide +kernel)
theorem tw_1011 : (Jvm.Cond.fieldLink "RulePlateModel" (362 : Nat) "RulePlateModel" "gateC" "I") ∈ nm_T := nm_tb 1011 (by decide +kernel) (by decide +kernel)
theorem tw_1012 : (Jvm.Cond.fieldLink "RulePlateModel" (365 : Nat) "RulePlateModel" "nets" "I") ∈ nm_T := nm_tb 1012 (by decide +kernel) (by decide +kernel)
theorem tw_1013 : (Jvm.Cond.fieldLink "RulePlateModel" (143 : Nat) "RulePlateModel" "netOf" "[I") ∈ nm_T := nm_tb 1013 (by decide +kernel) (by decide +kernel)
theorem tw_1014 : (Jvm.Cond.fieldLink "RulePlateModel" (146 : Nat) "RulePlateModel" "todo" "[I") ∈ nm_T := nm_tb 1014 (by decide +kernel) (by decide +kernel)
theorem tw_1015 : (Jvm.Cond.fieldLink "RulePlateModel" (368 : Nat) "RulePlateModel" "todoCount" "I") ∈ nm_T := nm_tb 1015 (by decide +kernel) (by decide +kernel)
theorem tw_1016 : (Jvm.Cond.fieldLink "RulePlateModel" (149 : Nat) "RulePlateModel" "devSize" "[I") ∈ nm_T := nm_tb 1016 (by decide +kernel) (by decide +kernel)
theorem tw_1017 : (Jvm.Cond.fieldLink "RulePlateModel" (152 : Nat) "RulePlateModel" "devGate" "[I") ∈ nm_T := nm_tb 1017 (by decide +kernel) (by decide +kernel)
theorem tw_1018 : (Jvm.Cond.fieldLink "RulePlateModel" (155 : Nat) "RulePlateModel" "devOne" "[I") ∈ nm_T := nm_tb 1018 (by decide +kernel) (by decide +kernel)
theorem tw_1019 : (Jvm.Cond.fieldLink "RulePlateModel" (158 : Nat) "RulePlateModel" "devTwo" "[I") ∈ nm_T := nm_tb 1019 (by decide +kernel) (by decide +kernel)
theorem tw_1020 : (Jvm.Cond.fieldLink "RulePlateModel" (377 : Nat) "RulePlateModel" "devices" "I") ∈ nm_T := nm_tb 1020 (by decide +kernel) (by decide +kernel)
theorem tw_1021 : (Jvm.Cond.fieldLink "RulePlateModel" (161 : Nat) "RulePlateModel" "wGate" "[I") ∈ nm_T := nm_tb 1021 (by decide +kernel) (by decide +kernel)
theorem tw_1022 : (Jvm.Cond.fieldLink "RulePlateModel" (164 : Nat) "RulePlateModel" "wOne" "[I") ∈ nm_T := nm_tb 1022 (by decide +kernel) (by decide +kernel)
theorem tw_1023 : (Jvm.Cond.fieldLink "RulePlateModel" (167 : Nat) "RulePlateModel" "wTwo" "[I") ∈ nm_T := nm_tb 1023 (by decide +kernel) (by decide +kernel)
theorem tw_1024 : (Jvm.Cond.fieldLink "RulePlateModel" (170 : Nat) "RulePlateModel" "wSize" "[I") ∈ nm_T := nm_tb 1024 (by decide +kernel) (by decide +kernel)
theorem tw_1025 : (Jvm.Cond.fieldLink "RulePlateModel" (391 : Nat) "RulePlateModel" "wishes" "I") ∈ nm_T := nm_tb 1025 (by decide +kernel) (by decide +kernel)
theorem tw_1026 : (Jvm.Cond.fieldLink "RulePlateModel" (403 : Nat) "RulePlateModel" "tries" "I") ∈ nm_T := nm_tb 1026 (by decide +kernel) (by decide +kernel)
theorem tw_1027 : (Jvm.Cond.fieldLink "RulePlateModel" (314 : Nat) "RulePlateModel" "isPaired" "Z") ∈ nm_T := nm_tb 1027 (by decide +kernel) (by decide +kernel)
theorem tw_1028 : (Jvm.Cond.fieldLink "RulePlateModel" (173 : Nat) "RulePlateModel" "chosen" "[I") ∈ nm_T := nm_tb 1028 (by decide +kernel) (by decide +kernel)
theorem tw_1029 : (Jvm.Cond.fieldLink "RulePlateModel" (176 : Nat) "RulePlateModel" "wishOf" "[I") ∈ nm_T := nm_tb 1029 (by decide +kernel) (by decide +kernel)
theorem tw_1030 : (Jvm.Cond.fieldLink "RulePlateModel" (179 : Nat) "RulePlateModel" "netFor" "[I") ∈ nm_T := nm_tb 1030 (by decide +kernel) (by decide +kernel)
theorem tw_1031 : (Jvm.Cond.fieldLink "RulePlateModel" (182 : Nat) "RulePlateModel" "told" "[I") ∈ nm_T := nm_tb 1031 (by decide +kernel) (by decide +kernel)
theorem tw_1032 : (Jvm.Cond.fieldLink "RulePlateModel" (185 : Nat) "RulePlateModel" "row" "[I") ∈ nm_T := nm_tb 1032 (by decide +kernel) (by decide +kernel)
theorem tw_1033 : (Jvm.Cond.fieldLink "RulePlateModel" (188 : Nat) "RulePlateModel" "moved" "[I") ∈ nm_T := nm_tb 1033 (by decide +kernel) (by decide +kernel)
theorem tw_1034 : (Jvm.Cond.fieldLink "RulePlateModel" (416 : Nat) "RulePlateModel" "hasRow" "Z") ∈ nm_T := nm_tb 1034 (by decide +kernel) (by decide +kernel)
theorem tw_1201 : (Jvm.Cond.methodLink "RulePlateModel" (195 : Nat) ({ cls := "RulePlateModel", name := "isCell", desc := "(I)Z" } : Jvm.MethodName)) ∈ nm_T := nm_tb 1201 (by decide +kernel) (by decide +kernel)
theorem tw_1202 : (Jvm.Cond.static ({ cls := "RulePlateModel", name := "isCell", desc := "(I)Z" } : Jvm.MethodName)) ∈ nm_T := nm_tb 1202 (by decide +kernel) (by decide +kernel)
theorem tw_1203 : (Jvm.Cond.code ({ cls := "RulePlateModel", name := "isCell", desc := "(I)Z" } : Jvm.MethodName) prog_14_method_4_code (1 : Nat) (Option.some Jvm.ClassFile.FieldType.boolean)) ∈ nm_T := nm_tb 1203 (by decide +kernel) (by decide +kernel)
theorem tw_1204 : (Jvm.Cond.constantLong "RulePlateModel" (199 : Nat) (7 : Int64)) ∈ nm_T := nm_tb 1204 (by decide +kernel) (by decide +kernel)
theorem tw_1205 : (Jvm.Cond.methodLink "RulePlateModel" (201 : Nat) ({ cls := "RulePlateModel", name := "isIn", desc := "(JJJ)Z" } : Jvm.MethodName)) ∈ nm_T := nm_tb 1205 (by decide +kernel) (by decide +kernel)
theorem tw_1206 : (Jvm.Cond.static ({ cls := "RulePlateModel", name := "isIn", desc := "(JJJ)Z" } : Jvm.MethodName)) ∈ nm_T := nm_tb 1206 (by decide +kernel) (by decide +kernel)
theorem tw_1207 : (Jvm.Cond.code ({ cls := "RulePlateModel", name := "isIn", desc := "(JJJ)Z" } : Jvm.MethodName) prog_14_method_2_code (6 : Nat) (Option.some Jvm.ClassFile.FieldType.boolean)) ∈ nm_T := nm_tb 1207 (by decide +kernel) (by decide +kernel)
theorem tw_1208 : (Jvm.Cond.methodLink "RulePlateModel" (205 : Nat) ({ cls := "RulePlateModel", name := "isSquare", desc := "(I)Z" } : Jvm.MethodName)) ∈ nm_T := nm_tb 1208 (by decide +kernel) (by decide +kernel)
theorem tw_1209 : (Jvm.Cond.static ({ cls := "RulePlateModel", name := "isSquare", desc := "(I)Z" } : Jvm.MethodName)) ∈ nm_T := nm_tb 1209 (by decide +kernel) (by decide +kernel)
theorem tw_1210 : (Jvm.Cond.code ({ cls := "RulePlateModel", name := "isSquare", desc := "(I)Z" } : Jvm.MethodName) prog_14_method_6_code (1 : Nat) (Option.some Jvm.ClassFile.FieldType.boolean)) ∈ nm_T := nm_tb 1210 (by decide +kernel) (by decide +kernel)
theorem tw_1211 : (Jvm.Cond.methodLink "RulePlateModel" (191 : Nat) ({ cls := "RulePlateModel", name := "no", desc := "(I)I" } : Jvm.MethodName)) ∈ nm_T := nm_tb 1211 (by decide +kernel) (by decide +kernel)
theorem tw_1213 : (Jvm.Cond.instanceMethod ({ cls := "RulePlateModel", name := "no", desc := "(I)I" } : Jvm.MethodName)) ∈ nm_T := nm_tb 1213 (by decide +kernel) (by decide +kernel)
theorem tw_1214 : (Jvm.Cond.code ({ cls := "RulePlateModel", name := "no", desc := "(I)I" } : Jvm.MethodName) prog_14_method_3_code (2 : Nat) (Option.some Jvm.ClassFile.FieldType.int)) ∈ nm_T := nm_tb 1214 (by decide +kernel) (by decide +kernel)
theorem tw_1215 : (Jvm.Cond.constantLong "RulePlateModel" (208 : Nat) (64 : Int64)) ∈ nm_T := nm_tb 1215 (by decide +kernel) (by decide +kernel)
theorem tw_1216 : (Jvm.Cond.methodLink "RulePlateModel" (210 : Nat) ({ cls := "RulePlateModel", name := "adds", desc := "(IIIIII)I" } : Jvm.MethodName)) ∈ nm_T := nm_tb 1216 (by decide +kernel) (by decide +kernel)
theorem tw_1218 : (Jvm.Cond.instanceMethod ({ cls := "RulePlateModel", name := "adds", desc := "(IIIIII)I" } : Jvm.MethodName)) ∈ nm_T := nm_tb 1218 (by decide +kernel) (by decide +kernel)
theorem tw_1219 : (Jvm.Cond.code ({ cls := "RulePlateModel", name := "adds", desc := "(IIIIII)I" } : Jvm.MethodName) prog_14_method_7_code (8 : Nat) (Option.some Jvm.ClassFile.FieldType.int)) ∈ nm_T := nm_tb 1219 (by decide +kernel) (by decide +kernel)
theorem tw_1224 : (Jvm.Cond.constantLong "RulePlateModel" (214 : Nat) (9 : Int64)) ∈ nm_T := nm_tb 1224 (by decide +kernel) (by decide +kernel)
theorem tw_1229 : (Jvm.Cond.methodLink "RulePlateModel" (216 : Nat) ({ cls := "RulePlateModel", name := "isLayer", desc := "(I)Z" } : Jvm.MethodName)) ∈ nm_T := nm_tb 1229 (by decide +kernel) (by decide +kernel)
theorem tw_1230 : (Jvm.Cond.static ({ cls := "RulePlateModel", name := "isLayer", desc := "(I)Z" } : Jvm.MethodName)) ∈ nm_T := nm_tb 1230 (by decide +kernel) (by decide +kernel)
theorem tw_1231 : (Jvm.Cond.code ({ cls := "RulePlateModel", name := "isLayer", desc := "(I)Z" } : Jvm.MethodName) prog_14_method_5_code (1 : Nat) (Option.some Jvm.ClassFile.FieldType.boolean)) ∈ nm_T := nm_tb 1231 (by decide +kernel) (by decide +kernel)
theorem tw_1232 : (Jvm.Cond.constantLong "RulePlateModel" (219 : Nat) (999 : Int64)) ∈ nm_T := nm_tb 1232 (by decide +kernel) (by decide +kernel)
theorem tw_1237 : (Jvm.Cond.constantLong "RulePlateModel" (221 : Nat) (3 : Int64)) ∈ nm_T := nm_tb 1237 (by decide +kernel) (by decide +kernel)
theorem tw_1242 : (Jvm.Cond.methodLink "RulePlateModel" (229 : Nat) ({ cls := "RulePlateModel", name := "isShape", desc := "(II)Z" } : Jvm.MethodName)) ∈ nm_T := nm_tb 1242 (by decide +kernel) (by decide +kernel)
theorem tw_1244 : (Jvm.Cond.instanceMethod ({ cls := "RulePlateModel", name := "isShape", desc := "(II)Z" } : Jvm.MethodName)) ∈ nm_T := nm_tb 1244 (by decide +kernel) (by decide +kernel)
theorem tw_1245 : (Jvm.Cond.code ({ cls := "RulePlateModel", name := "isShape", desc := "(II)Z" } : Jvm.MethodName) prog_14_method_12_code (3 : Nat) (Option.some Jvm.ClassFile.FieldType.boolean)) ∈ nm_T := nm_tb 1245 (by decide +kernel) (by decide +kernel)
theorem tw_1246 : (Jvm.Cond.methodLink "RulePlateModel" (233 : Nat) ({ cls := "RulePlateModel", name := "isTimes", desc := "(I)Z" } : Jvm.MethodName)) ∈ nm_T := nm_tb 1246 (by decide +kernel) (by decide +kernel)
theorem tw_1247 : (Jvm.Cond.static ({ cls := "RulePlateModel", name := "isTimes", desc := "(I)Z" } : Jvm.MethodName)) ∈ nm_T := nm_tb 1247 (by decide +kernel) (by decide +kernel)
theorem tw_1248 : (Jvm.Cond.code ({ cls := "RulePlateModel", name := "isTimes", desc := "(I)Z" } : Jvm.MethodName) prog_14_method_13_code (1 : Nat) (Option.some Jvm.ClassFile.FieldType.boolean)) ∈ nm_T := nm_tb 1248 (by decide +kernel) (by decide +kernel)
theorem tw_1249 : (Jvm.Cond.constantLong "RulePlateModel" (223 : Nat) (4 : Int64)) ∈ nm_T := nm_tb 1249 (by decide +kernel) (by decide +kernel)
theorem tw_1250 : (Jvm.Cond.constantLong "RulePlateModel" (225 : Nat) (-63 : Int64)) ∈ nm_T := nm_tb 1250 (by decide +kernel) (by decide +kernel)
theorem tw_1251 : (Jvm.Cond.constantLong "RulePlateModel" (227 : Nat) (63 : Int64)) ∈ nm_T := nm_tb 1251 (by decide +kernel) (by decide +kernel)
theorem tw_1264 : (Jvm.Cond.constantLong "RulePlateModel" (275 : Nat) (8 : Int64)) ∈ nm_T := nm_tb 1264 (by decide +kernel) (by decide +kernel)
theorem tw_1265 : (Jvm.Cond.constantLong "RulePlateModel" (277 : Nat) (15 : Int64)) ∈ nm_T := nm_tb 1265 (by decide +kernel) (by decide +kernel)
theorem tw_1266 : (Jvm.Cond.constantLong "RulePlateModel" (279 : Nat) (5 : Int64)) ∈ nm_T := nm_tb 1266 (by decide +kernel) (by decide +kernel)
theorem tw_1271 : (Jvm.Cond.methodLink "RulePlateModel" (294 : Nat) ({ cls := "RulePlateModel", name := "lays", desc := "(I)V" } : Jvm.MethodName)) ∈ nm_T := nm_tb 1271 (by decide +kernel) (by decide +kernel)
theorem tw_1273 : (Jvm.Cond.instanceMethod ({ cls := "RulePlateModel", name := "lays", desc := "(I)V" } : Jvm.MethodName)) ∈ nm_T := nm_tb 1273 (by decide +kernel) (by decide +kernel)
theorem tw_1274 : (Jvm.Cond.code ({ cls := "RulePlateModel", name := "lays", desc := "(I)V" } : Jvm.MethodName) prog_14_method_26_code (4 : Nat) (Option.none : Option Jvm.ClassFile.FieldType)) ∈ nm_T := nm_tb 1274 (by decide +kernel) (by decide +kernel)
theorem tw_1275 : (Jvm.Cond.methodLink "RulePlateModel" (265 : Nat) ({ cls := "RulePlateModel", name := "laysOwn", desc := "(I)V" } : Jvm.MethodName)) ∈ nm_T := nm_tb 1275 (by decide +kernel) (by decide +kernel)
theorem tw_1277 : (Jvm.Cond.instanceMethod ({ cls := "RulePlateModel", name := "laysOwn", desc := "(I)V" } : Jvm.MethodName)) ∈ nm_T := nm_tb 1277 (by decide +kernel) (by decide +kernel)
theorem tw_1278 : (Jvm.Cond.code ({ cls := "RulePlateModel", name := "laysOwn", desc := "(I)V" } : Jvm.MethodName) prog_14_method_20_code (5 : Nat) (Option.none : Option Jvm.ClassFile.FieldType)) ∈ nm_T := nm_tb 1278 (by decide +kernel) (by decide +kernel)
theorem tw_1279 : (Jvm.Cond.methodLink "RulePlateModel" (240 : Nat) ({ cls := "RulePlateModel", name := "flatAt", desc := "(II)I" } : Jvm.MethodName)) ∈ nm_T := nm_tb 1279 (by decide +kernel) (by decide +kernel)
theorem tw_1280 : (Jvm.Cond.static ({ cls := "RulePlateModel", name := "flatAt", desc := "(II)I" } : Jvm.MethodName)) ∈ nm_T := nm_tb 1280 (by decide +kernel) (by decide +kernel)
theorem tw_1281 : (Jvm.Cond.code ({ cls := "RulePlateModel", name := "flatAt", desc := "(II)I" } : Jvm.MethodName) prog_14_method_17_code (2 : Nat) (Option.some Jvm.ClassFile.FieldType.int)) ∈ nm_T := nm_tb 1281 (by decide +kernel) (by decide +kernel)
theorem tw_1282 : (Jvm.Cond.methodLink "RulePlateModel" (236 : Nat) ({ cls := "RulePlateModel", name := "fill", desc := "(IIIIIZ)V" } : Jvm.MethodName)) ∈ nm_T := nm_tb 1282 (by decide +kernel) (by decide +kernel)
theorem tw_1284 : (Jvm.Cond.instanceMethod ({ cls := "RulePlateModel", name := "fill", desc := "(IIIIIZ)V" } : Jvm.MethodName)) ∈ nm_T := nm_tb 1284 (by decide +kernel) (by decide +kernel)
theorem tw_1285 : (Jvm.Cond.code ({ cls := "RulePlateModel", name := "fill", desc := "(IIIIIZ)V" } : Jvm.MethodName) prog_14_method_18_code (9 : Nat) (Option.none : Option Jvm.ClassFile.FieldType)) ∈ nm_T := nm_tb 1285 (by decide +kernel) (by decide +kernel)
theorem tw_1286 : (Jvm.Cond.methodLink "RulePlateModel" (244 : Nat) ({ cls := "RulePlateModel", name := "laysPath", desc := "(IIII)V" } : Jvm.MethodName)) ∈ nm_T := nm_tb 1286 (by decide +kernel) (by decide +kernel)
theorem tw_1288 : (Jvm.Cond.instanceMethod ({ cls := "RulePlateModel", name := "laysPath", desc := "(IIII)V" } : Jvm.MethodName)) ∈ nm_T := nm_tb 1288 (by decide +kernel) (by decide +kernel)
theorem tw_1289 : (Jvm.Cond.code ({ cls := "RulePlateModel", name := "laysPath", desc := "(IIII)V" } : Jvm.MethodName) prog_14_method_19_code (10 : Nat) (Option.none : Option Jvm.ClassFile.FieldType)) ∈ nm_T := nm_tb 1289 (by decide +kernel) (by decide +kernel)
theorem tw_1290 : (Jvm.Cond.methodLink "RulePlateModel" (262 : Nat) ({ cls := "RulePlateModel", name := "addText", desc := "(IIII)V" } : Jvm.MethodName)) ∈ nm_T := nm_tb 1290 (by decide +kernel) (by decide +kernel)
theorem tw_1292 : (Jvm.Cond.instanceMethod ({ cls := "RulePlateModel", name := "addText", desc := "(IIII)V" } : Jvm.MethodName)) ∈ nm_T := nm_tb 1292 (by decide +kernel) (by decide +kernel)
theorem tw_1293 : (Jvm.Cond.code ({ cls := "RulePlateModel", name := "addText", desc := "(IIII)V" } : Jvm.MethodName) prog_14_method_24_code (6 : Nat) (Option.none : Option Jvm.ClassFile.FieldType)) ∈ nm_T := nm_tb 1293 (by decide +kernel) (by decide +kernel)
theorem tw_1294 : (Jvm.Cond.methodLink "RulePlateModel" (269 : Nat) ({ cls := "RulePlateModel", name := "laysPut", desc := "(II)V" } : Jvm.MethodName)) ∈ nm_T := nm_tb 1294 (by decide +kernel) (by decide +kernel)
theorem tw_1296 : (Jvm.Cond.instanceMethod ({ cls := "RulePlateModel", name := "laysPut", desc := "(II)V" } : Jvm.MethodName)) ∈ nm_T := nm_tb 1296 (by decide +kernel) (by decide +kernel)
theorem tw_1297 : (Jvm.Cond.code ({ cls := "RulePlateModel", name := "laysPut", desc := "(II)V" } : Jvm.MethodName) prog_14_method_23_code (9 : Nat) (Option.none : Option Jvm.ClassFile.FieldType)) ∈ nm_T := nm_tb 1297 (by decide +kernel) (by decide +kernel)
theorem tw_1298 : (Jvm.Cond.methodLink "RulePlateModel" (254 : Nat) ({ cls := "RulePlateModel", name := "turns", desc := "(II)V" } : Jvm.MethodName)) ∈ nm_T := nm_tb 1298 (by decide +kernel) (by decide +kernel)
theorem tw_1300 : (Jvm.Cond.instanceMethod ({ cls := "RulePlateModel", name := "turns", desc := "(II)V" } : Jvm.MethodName)) ∈ nm_T := nm_tb 1300 (by decide +kernel) (by decide +kernel)
theorem tw_1301 : (Jvm.Cond.code ({ cls := "RulePlateModel", name := "turns", desc := "(II)V" } : Jvm.MethodName) prog_14_method_21_code (7 : Nat) (Option.none : Option Jvm.ClassFile.FieldType)) ∈ nm_T := nm_tb 1301 (by decide +kernel) (by decide +kernel)
theorem tw_1302 : (Jvm.Cond.methodLink "RulePlateModel" (258 : Nat) ({ cls := "RulePlateModel", name := "placed", desc := "(III)I" } : Jvm.MethodName)) ∈ nm_T := nm_tb 1302 (by decide +kernel) (by decide +kernel)
theorem tw_1304 : (Jvm.Cond.instanceMethod ({ cls := "RulePlateModel", name := "placed", desc := "(III)I" } : Jvm.MethodName)) ∈ nm_T := nm_tb 1304 (by decide +kernel) (by decide +kernel)
theorem tw_1305 : (Jvm.Cond.code ({ cls := "RulePlateModel", name := "placed", desc := "(III)I" } : Jvm.MethodName) prog_14_method_22_code (6 : Nat) (Option.some Jvm.ClassFile.FieldType.int)) ∈ nm_T := nm_tb 1305 (by decide +kernel) (by decide +kernel)
theorem tw_1306 : (Jvm.Cond.methodLink "RulePlateModel" (272 : Nat) ({ cls := "RulePlateModel", name := "textsOf", desc := "(II)V" } : Jvm.MethodName)) ∈ nm_T := nm_tb 1306 (by decide +kernel) (by decide +kernel)
theorem tw_1308 : (Jvm.Cond.instanceMethod ({ cls := "RulePlateModel", name := "textsOf", desc := "(II)V" } : Jvm.MethodName)) ∈ nm_T := nm_tb 1308 (by decide +kernel) (by decide +kernel)
theorem tw_1309 : (Jvm.Cond.code ({ cls := "RulePlateModel", name := "textsOf", desc := "(II)V" } : Jvm.MethodName) prog_14_method_25_code (8 : Nat) (Option.none : Option Jvm.ClassFile.FieldType)) ∈ nm_T := nm_tb 1309 (by decide +kernel) (by decide +kernel)
theorem tw_1310 : (Jvm.Cond.constant "RulePlateModel" (297 : Nat) (32768 : Int32)) ∈ nm_T := nm_tb 1310 (by decide +kernel) (by decide +kernel)
theorem tw_1311 : (Jvm.Cond.methodLink "RulePlateModel" (298 : Nat) ({ cls := "RulePlateModel", name := "makes", desc := "(I)V" } : Jvm.MethodName)) ∈ nm_T := nm_tb 1311 (by decide +kernel) (by decide +kernel)
theorem tw_1313 : (Jvm.Cond.instanceMethod ({ cls := "RulePlateModel", name := "makes", desc := "(I)V" } : Jvm.MethodName)) ∈ nm_T := nm_tb 1313 (by decide +kernel) (by decide +kernel)
theorem tw_1314 : (Jvm.Cond.code ({ cls := "RulePlateModel", name := "makes", desc := "(I)V" } : Jvm.MethodName) prog_14_method_29_code (6 : Nat) (Option.none : Option Jvm.ClassFile.FieldType)) ∈ nm_T := nm_tb 1314 (by decide +kernel) (by decide +kernel)
theorem tw_1315 : (Jvm.Cond.methodLink "RulePlateModel" (281 : Nat) ({ cls := "RulePlateModel", name := "findPieces", desc := "(II)V" } : Jvm.MethodName)) ∈ nm_T := nm_tb 1315 (by decide +kernel) (by decide +kernel)
theorem tw_1317 : (Jvm.Cond.instanceMethod ({ cls := "RulePlateModel", name := "findPieces", desc := "(II)V" } : Jvm.MethodName)) ∈ nm_T := nm_tb 1317 (by decide +kernel) (by decide +kernel)
theorem tw_1318 : (Jvm.Cond.code ({ cls := "RulePlateModel", name := "findPieces", desc := "(II)V" } : Jvm.MethodName) prog_14_method_36_code (7 : Nat) (Option.none : Option Jvm.ClassFile.FieldType)) ∈ nm_T := nm_tb 1318 (by decide +kernel) (by decide +kernel)
theorem tw_1319 : (Jvm.Cond.methodLink "RulePlateModel" (323 : Nat) ({ cls := "RulePlateModel", name := "meets", desc := "(IIII)V" } : Jvm.MethodName)) ∈ nm_T := nm_tb 1319 (by decide +kernel) (by decide +kernel)
theorem tw_1321 : (Jvm.Cond.instanceMethod ({ cls := "RulePlateModel", name := "meets", desc := "(IIII)V" } : Jvm.MethodName)) ∈ nm_T := nm_tb 1321 (by decide +kernel) (by decide +kernel)
theorem tw_1322 : (Jvm.Cond.code ({ cls := "RulePlateModel", name := "meets", desc := "(IIII)V" } : Jvm.MethodName) prog_14_method_35_code (5 : Nat) (Option.none : Option Jvm.ClassFile.FieldType)) ∈ nm_T := nm_tb 1322 (by decide +kernel) (by decide +kernel)
theorem tw_1323 : (Jvm.Cond.methodLink "RulePlateModel" (284 : Nat) ({ cls := "RulePlateModel", name := "around", desc := "(IIIZ)Z" } : Jvm.MethodName)) ∈ nm_T := nm_tb 1323 (by decide +kernel) (by decide +kernel)
theorem tw_1325 : (Jvm.Cond.instanceMethod ({ cls := "RulePlateModel", name := "around", desc := "(IIIZ)Z" } : Jvm.MethodName)) ∈ nm_T := nm_tb 1325 (by decide +kernel) (by decide +kernel)
theorem tw_1326 : (Jvm.Cond.code ({ cls := "RulePlateModel", name := "around", desc := "(IIIZ)Z" } : Jvm.MethodName) prog_14_method_28_code (8 : Nat) (Option.some Jvm.ClassFile.FieldType.boolean)) ∈ nm_T := nm_tb 1326 (by decide +kernel) (by decide +kernel)
theorem tw_1327 : (Jvm.Cond.methodLink "RulePlateModel" (288 : Nat) ({ cls := "RulePlateModel", name := "touches", desc := "(I)V" } : Jvm.MethodName)) ∈ nm_T := nm_tb 1327 (by decide +kernel) (by decide +kernel)
theorem tw_1329 : (Jvm.Cond.instanceMethod ({ cls := "RulePlateModel", name := "touches", desc := "(I)V" } : Jvm.MethodName)) ∈ nm_T := nm_tb 1329 (by decide +kernel) (by decide +kernel)
theorem tw_1330 : (Jvm.Cond.code ({ cls := "RulePlateModel", name := "touches", desc := "(I)V" } : Jvm.MethodName) prog_14_method_30_code (3 : Nat) (Option.none : Option Jvm.ClassFile.FieldType)) ∈ nm_T := nm_tb 1330 (by decide +kernel) (by decide +kernel)
theorem tw_1335 : (Jvm.Cond.methodLink "RulePlateModel" (317 : Nat) ({ cls := "RulePlateModel", name := "areaOf", desc := "(I)I" } : Jvm.MethodName)) ∈ nm_T := nm_tb 1335 (by decide +kernel) (by decide +kernel)
theorem tw_1337 : (Jvm.Cond.instanceMethod ({ cls := "RulePlateModel", name := "areaOf", desc := "(I)I" } : Jvm.MethodName)) ∈ nm_T := nm_tb 1337 (by decide +kernel) (by decide +kernel)
theorem tw_1338 : (Jvm.Cond.code ({ cls := "RulePlateModel", name := "areaOf", desc := "(I)I" } : Jvm.MethodName) prog_14_method_32_code (4 : Nat) (Option.some Jvm.ClassFile.FieldType.int)) ∈ nm_T := nm_tb 1338 (by decide +kernel) (by decide +kernel)
theorem tw_1351 : (Jvm.Cond.constantLong "RulePlateModel" (326 : Nat) (4096 : Int64)) ∈ nm_T := nm_tb 1351 (by decide +kernel) (by decide +kernel)
theorem tw_1356 : (Jvm.Cond.methodLink "RulePlateModel" (343 : Nat) ({ cls := "RulePlateModel", name := "lines", desc := "(IZ)V" } : Jvm.MethodName)) ∈ nm_T := nm_tb 1356 (by decide +kernel) (by decide +kernel)
theorem tw_1358 : (Jvm.Cond.instanceMethod ({ cls := "RulePlateModel", name := "lines", desc := "(IZ)V" } : Jvm.MethodName)) ∈ nm_T := nm_tb 1358 (by decide +kernel) (by decide +kernel)
theorem tw_1359 : (Jvm.Cond.code ({ cls := "RulePlateModel", name := "lines", desc := "(IZ)V" } : Jvm.MethodName) prog_14_method_41_code (9 : Nat) (Option.none : Option Jvm.ClassFile.FieldType)) ∈ nm_T := nm_tb 1359 (by decide +kernel) (by decide +kernel)
theorem tw_1360 : (Jvm.Cond.methodLink "RulePlateModel" (334 : Nat) ({ cls := "RulePlateModel", name := "along", desc := "(II)I" } : Jvm.MethodName)) ∈ nm_T := nm_tb 1360 (by decide +kernel) (by decide +kernel)
theorem tw_1361 : (Jvm.Cond.static ({ cls := "RulePlateModel", name := "along", desc := "(II)I" } : Jvm.MethodName)) ∈ nm_T := nm_tb 1361 (by decide +kernel) (by decide +kernel)
theorem tw_1362 : (Jvm.Cond.code ({ cls := "RulePlateModel", name := "along", desc := "(II)I" } : Jvm.MethodName) prog_14_method_40_code (2 : Nat) (Option.some Jvm.ClassFile.FieldType.int)) ∈ nm_T := nm_tb 1362 (by decide +kernel) (by decide +kernel)
theorem tw_1363 : (Jvm.Cond.methodLink "RulePlateModel" (337 : Nat) ({ cls := "RulePlateModel", name := "fault", desc := "(IIII)V" } : Jvm.MethodName)) ∈ nm_T := nm_tb 1363 (by decide +kernel) (by decide +kernel)
theorem tw_1365 : (Jvm.Cond.instanceMethod ({ cls := "RulePlateModel", name := "fault", desc := "(IIII)V" } : Jvm.MethodName)) ∈ nm_T := nm_tb 1365 (by decide +kernel) (by decide +kernel)
theorem tw_1366 : (Jvm.Cond.code ({ cls := "RulePlateModel", name := "fault", desc := "(IIII)V" } : Jvm.MethodName) prog_14_method_39_code (5 : Nat) (Option.none : Option Jvm.ClassFile.FieldType)) ∈ nm_T := nm_tb 1366 (by decide +kernel) (by decide +kernel)
theorem tw_1367 : (Jvm.Cond.methodLink "RulePlateModel" (347 : Nat) ({ cls := "RulePlateModel", name := "inside", desc := "(I)V" } : Jvm.MethodName)) ∈ nm_T := nm_tb 1367 (by decide +kernel) (by decide +kernel)
theorem tw_1369 : (Jvm.Cond.instanceMethod ({ cls := "RulePlateModel", name := "inside", desc := "(I)V" } : Jvm.MethodName)) ∈ nm_T := nm_tb 1369 (by decide +kernel) (by decide +kernel)
theorem tw_1370 : (Jvm.Cond.code ({ cls := "RulePlateModel", name := "inside", desc := "(I)V" } : Jvm.MethodName) prog_14_method_43_code (3 : Nat) (Option.none : Option Jvm.ClassFile.FieldType)) ∈ nm_T := nm_tb 1370 (by decide +kernel) (by decide +kernel)
theorem tw_1371 : (Jvm.Cond.methodLink "RulePlateModel" (340 : Nat) ({ cls := "RulePlateModel", name := "lacking", desc := "(III)I" } : Jvm.MethodName)) ∈ nm_T := nm_tb 1371 (by decide +kernel) (by decide +kernel)
theorem tw_1373 : (Jvm.Cond.instanceMethod ({ cls := "RulePlateModel", name := "lacking", desc := "(III)I" } : Jvm.MethodName)) ∈ nm_T := nm_tb 1373 (by decide +kernel) (by decide +kernel)
theorem tw_1374 : (Jvm.Cond.code ({ cls := "RulePlateModel", name := "lacking", desc := "(III)I" } : Jvm.MethodName) prog_14_method_42_code (6 : Nat) (Option.some Jvm.ClassFile.FieldType.int)) ∈ nm_T := nm_tb 1374 (by decide +kernel) (by decide +kernel)
theorem tw_1375 : (Jvm.Cond.methodLink "RulePlateModel" (350 : Nat) ({ cls := "RulePlateModel", name := "areas", desc := "(I)V" } : Jvm.MethodName)) ∈ nm_T := nm_tb 1375 (by decide +kernel) (by decide +kernel)
theorem tw_1377 : (Jvm.Cond.instanceMethod ({ cls := "RulePlateModel", name := "areas", desc := "(I)V" } : Jvm.MethodName)) ∈ nm_T := nm_tb 1377 (by decide +kernel) (by decide +kernel)
theorem tw_1378 : (Jvm.Cond.code ({ cls := "RulePlateModel", name := "areas", desc := "(I)V" } : Jvm.MethodName) prog_14_method_45_code (3 : Nat) (Option.none : Option Jvm.ClassFile.FieldType)) ∈ nm_T := nm_tb 1378 (by decide +kernel) (by decide +kernel)
theorem tw_1379 : (Jvm.Cond.methodLink "RulePlateModel" (353 : Nat) ({ cls := "RulePlateModel", name := "shares", desc := "(I)V" } : Jvm.MethodName)) ∈ nm_T := nm_tb 1379 (by decide +kernel) (by decide +kernel)
theorem tw_1381 : (Jvm.Cond.instanceMethod ({ cls := "RulePlateModel", name := "shares", desc := "(I)V" } : Jvm.MethodName)) ∈ nm_T := nm_tb 1381 (by decide +kernel) (by decide +kernel)
theorem tw_1382 : (Jvm.Cond.code ({ cls := "RulePlateModel", name := "shares", desc := "(I)V" } : Jvm.MethodName) prog_14_method_44_code (6 : Nat) (Option.none : Option Jvm.ClassFile.FieldType)) ∈ nm_T := nm_tb 1382 (by decide +kernel) (by decide +kernel)
theorem tw_1407 : (Jvm.Cond.methodLink "RulePlateModel" (383 : Nat) ({ cls := "RulePlateModel", name := "findNets", desc := "()V" } : Jvm.MethodName)) ∈ nm_T := nm_tb 1407 (by decide +kernel) (by decide +kernel)
theorem tw_1409 : (Jvm.Cond.instanceMethod ({ cls := "RulePlateModel", name := "findNets", desc := "()V" } : Jvm.MethodName)) ∈ nm_T := nm_tb 1409 (by decide +kernel) (by decide +kernel)
theorem tw_1410 : (Jvm.Cond.code ({ cls := "RulePlateModel", name := "findNets", desc := "()V" } : Jvm.MethodName) prog_14_method_54_code (3 : Nat) (Option.none : Option Jvm.ClassFile.FieldType)) ∈ nm_T := nm_tb 1410 (by decide +kernel) (by decide +kernel)
theorem tw_1411 : (Jvm.Cond.methodLink "RulePlateModel" (371 : Nat) ({ cls := "RulePlateModel", name := "reaches", desc := "(I)V" } : Jvm.MethodName)) ∈ nm_T := nm_tb 1411 (by decide +kernel) (by decide +kernel)
theorem tw_1413 : (Jvm.Cond.instanceMethod ({ cls := "RulePlateModel", name := "reaches", desc := "(I)V" } : Jvm.MethodName)) ∈ nm_T := nm_tb 1413 (by decide +kernel) (by decide +kernel)
theorem tw_1414 : (Jvm.Cond.code ({ cls := "RulePlateModel", name := "reaches", desc := "(I)V" } : Jvm.MethodName) prog_14_method_52_code (2 : Nat) (Option.none : Option Jvm.ClassFile.FieldType)) ∈ nm_T := nm_tb 1414 (by decide +kernel) (by decide +kernel)
theorem tw_1415 : (Jvm.Cond.methodLink "RulePlateModel" (374 : Nat) ({ cls := "RulePlateModel", name := "goesOnFrom", desc := "(I)V" } : Jvm.MethodName)) ∈ nm_T := nm_tb 1415 (by decide +kernel) (by decide +kernel)
theorem tw_1417 : (Jvm.Cond.instanceMethod ({ cls := "RulePlateModel", name := "goesOnFrom", desc := "(I)V" } : Jvm.MethodName)) ∈ nm_T := nm_tb 1417 (by decide +kernel) (by decide +kernel)
theorem tw_1418 : (Jvm.Cond.code ({ cls := "RulePlateModel", name := "goesOnFrom", desc := "(I)V" } : Jvm.MethodName) prog_14_method_53_code (5 : Nat) (Option.none : Option Jvm.ClassFile.FieldType)) ∈ nm_T := nm_tb 1418 (by decide +kernel) (by decide +kernel)
theorem tw_1419 : (Jvm.Cond.methodLink "RulePlateModel" (386 : Nat) ({ cls := "RulePlateModel", name := "findDevices", desc := "()V" } : Jvm.MethodName)) ∈ nm_T := nm_tb 1419 (by decide +kernel) (by decide +kernel)
theorem tw_1421 : (Jvm.Cond.instanceMethod ({ cls := "RulePlateModel", name := "findDevices", desc := "()V" } : Jvm.MethodName)) ∈ nm_T := nm_tb 1421 (by decide +kernel) (by decide +kernel)
theorem tw_1422 : (Jvm.Cond.code ({ cls := "RulePlateModel", name := "findDevices", desc := "()V" } : Jvm.MethodName) prog_14_method_56_code (3 : Nat) (Option.none : Option Jvm.ClassFile.FieldType)) ∈ nm_T := nm_tb 1422 (by decide +kernel) (by decide +kernel)
theorem tw_1423 : (Jvm.Cond.methodLink "RulePlateModel" (380 : Nat) ({ cls := "RulePlateModel", name := "ends", desc := "(II)V" } : Jvm.MethodName)) ∈ nm_T := nm_tb 1423 (by decide +kernel) (by decide +kernel)
theorem tw_1425 : (Jvm.Cond.instanceMethod ({ cls := "RulePlateModel", name := "ends", desc := "(II)V" } : Jvm.MethodName)) ∈ nm_T := nm_tb 1425 (by decide +kernel) (by decide +kernel)
theorem tw_1426 : (Jvm.Cond.code ({ cls := "RulePlateModel", name := "ends", desc := "(II)V" } : Jvm.MethodName) prog_14_method_55_code (4 : Nat) (Option.none : Option Jvm.ClassFile.FieldType)) ∈ nm_T := nm_tb 1426 (by decide +kernel) (by decide +kernel)
theorem tw_1443 : (Jvm.Cond.constantLong "RulePlateModel" (389 : Nat) (13823 : Int64)) ∈ nm_T := nm_tb 1443 (by decide +kernel) (by decide +kernel)
theorem tw_1452 : (Jvm.Cond.methodLink "RulePlateModel" (409 : Nat) ({ cls := "RulePlateModel", name := "isComplete", desc := "()Z" } : Jvm.MethodName)) ∈ nm_T := nm_tb 1452 (by decide +kernel) (by decide +kernel)
theorem tw_1454 : (Jvm.Cond.instanceMethod ({ cls := "RulePlateModel", name := "isComplete", desc := "()Z" } : Jvm.MethodName)) ∈ nm_T := nm_tb 1454 (by decide +kernel) (by decide +kernel)
theorem tw_1455 : (Jvm.Cond.code ({ cls := "RulePlateModel", name := "isComplete", desc := "()Z" } : Jvm.MethodName) prog_14_method_68_code (3 : Nat) (Option.some Jvm.ClassFile.FieldType.boolean)) ∈ nm_T := nm_tb 1455 (by decide +kernel) (by decide +kernel)
theorem tw_1456 : (Jvm.Cond.methodLink "RulePlateModel" (413 : Nat) ({ cls := "RulePlateModel", name := "nextChoice", desc := "(II)I" } : Jvm.MethodName)) ∈ nm_T := nm_tb 1456 (by decide +kernel) (by decide +kernel)
theorem tw_1458 : (Jvm.Cond.instanceMethod ({ cls := "RulePlateModel", name := "nextChoice", desc := "(II)I" } : Jvm.MethodName)) ∈ nm_T := nm_tb 1458 (by decide +kernel) (by decide +kernel)
theorem tw_1459 : (Jvm.Cond.code ({ cls := "RulePlateModel", name := "nextChoice", desc := "(II)I" } : Jvm.MethodName) prog_14_method_67_code (4 : Nat) (Option.some Jvm.ClassFile.FieldType.int)) ∈ nm_T := nm_tb 1459 (by decide +kernel) (by decide +kernel)
theorem tw_1460 : (Jvm.Cond.methodLink "RulePlateModel" (400 : Nat) ({ cls := "RulePlateModel", name := "isTaken", desc := "(II)Z" } : Jvm.MethodName)) ∈ nm_T := nm_tb 1460 (by decide +kernel) (by decide +kernel)
theorem tw_1462 : (Jvm.Cond.instanceMethod ({ cls := "RulePlateModel", name := "isTaken", desc := "(II)Z" } : Jvm.MethodName)) ∈ nm_T := nm_tb 1462 (by decide +kernel) (by decide +kernel)
theorem tw_1463 : (Jvm.Cond.code ({ cls := "RulePlateModel", name := "isTaken", desc := "(II)Z" } : Jvm.MethodName) prog_14_method_65_code (5 : Nat) (Option.some Jvm.ClassFile.FieldType.boolean)) ∈ nm_T := nm_tb 1463 (by decide +kernel) (by decide +kernel)
theorem tw_1464 : (Jvm.Cond.methodLink "RulePlateModel" (406 : Nat) ({ cls := "RulePlateModel", name := "goes", desc := "(II)Z" } : Jvm.MethodName)) ∈ nm_T := nm_tb 1464 (by decide +kernel) (by decide +kernel)
theorem tw_1466 : (Jvm.Cond.instanceMethod ({ cls := "RulePlateModel", name := "goes", desc := "(II)Z" } : Jvm.MethodName)) ∈ nm_T := nm_tb 1466 (by decide +kernel) (by decide +kernel)
theorem tw_1467 : (Jvm.Cond.code ({ cls := "RulePlateModel", name := "goes", desc := "(II)Z" } : Jvm.MethodName) prog_14_method_66_code (5 : Nat) (Option.some Jvm.ClassFile.FieldType.boolean)) ∈ nm_T := nm_tb 1467 (by decide +kernel) (by decide +kernel)
theorem tw_1468 : (Jvm.Cond.methodLink "RulePlateModel" (397 : Nat) ({ cls := "RulePlateModel", name := "pairsUpTo", desc := "(I)V" } : Jvm.MethodName)) ∈ nm_T := nm_tb 1468 (by decide +kernel) (by decide +kernel)
theorem tw_1470 : (Jvm.Cond.instanceMethod ({ cls := "RulePlateModel", name := "pairsUpTo", desc := "(I)V" } : Jvm.MethodName)) ∈ nm_T := nm_tb 1470 (by decide +kernel) (by decide +kernel)
theorem tw_1471 : (Jvm.Cond.code ({ cls := "RulePlateModel", name := "pairsUpTo", desc := "(I)V" } : Jvm.MethodName) prog_14_method_63_code (5 : Nat) (Option.none : Option Jvm.ClassFile.FieldType)) ∈ nm_T := nm_tb 1471 (by decide +kernel) (by decide +kernel)
theorem tw_1472 : (Jvm.Cond.methodLink "RulePlateModel" (394 : Nat) ({ cls := "RulePlateModel", name := "pair", desc := "(II)Z" } : Jvm.MethodName)) ∈ nm_T := nm_tb 1472 (by decide +kernel) (by decide +kernel)
theorem tw_1474 : (Jvm.Cond.instanceMethod ({ cls := "RulePlateModel", name := "pair", desc := "(II)Z" } : Jvm.MethodName)) ∈ nm_T := nm_tb 1474 (by decide +kernel) (by decide +kernel)
theorem tw_1475 : (Jvm.Cond.code ({ cls := "RulePlateModel", name := "pair", desc := "(II)Z" } : Jvm.MethodName) prog_14_method_64_code (3 : Nat) (Option.some Jvm.ClassFile.FieldType.boolean)) ∈ nm_T := nm_tb 1475 (by decide +kernel) (by decide +kernel)
theorem tw_1504 : (Jvm.Cond.constantLong "RulePlateModel" (419 : Nat) (-9 : Int64)) ∈ nm_T := nm_tb 1504 (by decide +kernel) (by decide +kernel)
theorem tw_1505 : (Jvm.Cond.constantLong "RulePlateModel" (421 : Nat) (-2 : Int64)) ∈ nm_T := nm_tb 1505 (by decide +kernel) (by decide +kernel)
