theorem mw_315 : (Jvm.Cond.methodLink "RulePlateLaw" (13 : Nat) ({ cls := "RulePlate", name := "box", desc := "(IIIIZ)I" } : Jvm.MethodName)) ∈ nm_T := nm_tb 315 (by decide +kernel) (by decide +kernel)
theorem mw_316 : (Jvm.Cond.instanceMethod ({ cls := "RulePlate", name := "box", desc := "(IIIIZ)I" } : Jvm.MethodName)) ∈ nm_T := nm_tb 316 (by decide +kernel) (by decide +kernel)
theorem mw_318 : (Jvm.Cond.code ({ cls := "RulePlate", name := "box", desc := "(IIIIZ)I" } : Jvm.MethodName) prog_1_method_2_code (11 : Nat) (Option.some Jvm.ClassFile.FieldType.int)) ∈ nm_T := nm_tb 318 (by decide +kernel) (by decide +kernel)
theorem mw_392 : (Jvm.Cond.methodLink "RulePlateLaw" (18 : Nat) ({ cls := "RulePlate", name := "path", desc := "(IIIII)I" } : Jvm.MethodName)) ∈ nm_T := nm_tb 392 (by decide +kernel) (by decide +kernel)
theorem mw_393 : (Jvm.Cond.instanceMethod ({ cls := "RulePlate", name := "path", desc := "(IIIII)I" } : Jvm.MethodName)) ∈ nm_T := nm_tb 393 (by decide +kernel) (by decide +kernel)
theorem mw_395 : (Jvm.Cond.code ({ cls := "RulePlate", name := "path", desc := "(IIIII)I" } : Jvm.MethodName) prog_1_method_3_code (15 : Nat) (Option.some Jvm.ClassFile.FieldType.int)) ∈ nm_T := nm_tb 395 (by decide +kernel) (by decide +kernel)
theorem mw_398 : (Jvm.Cond.methodLink "RulePlateLaw" (23 : Nat) ({ cls := "RulePlate", name := "text", desc := "(IIII)I" } : Jvm.MethodName)) ∈ nm_T := nm_tb 398 (by decide +kernel) (by decide +kernel)
theorem mw_399 : (Jvm.Cond.instanceMethod ({ cls := "RulePlate", name := "text", desc := "(IIII)I" } : Jvm.MethodName)) ∈ nm_T := nm_tb 399 (by decide +kernel) (by decide +kernel)
theorem mw_401 : (Jvm.Cond.code ({ cls := "RulePlate", name := "text", desc := "(IIII)I" } : Jvm.MethodName) prog_1_method_4_code (5 : Nat) (Option.some Jvm.ClassFile.FieldType.int)) ∈ nm_T := nm_tb 401 (by decide +kernel) (by decide +kernel)
theorem mw_419 : (Jvm.Cond.methodLink "RulePlateLaw" (28 : Nat) ({ cls := "RulePlate", name := "put", desc := "(IIIIZ)I" } : Jvm.MethodName)) ∈ nm_T := nm_tb 419 (by decide +kernel) (by decide +kernel)
theorem mw_420 : (Jvm.Cond.instanceMethod ({ cls := "RulePlate", name := "put", desc := "(IIIIZ)I" } : Jvm.MethodName)) ∈ nm_T := nm_tb 420 (by decide +kernel) (by decide +kernel)
theorem mw_422 : (Jvm.Cond.code ({ cls := "RulePlate", name := "put", desc := "(IIIIZ)I" } : Jvm.MethodName) prog_1_method_5_code (6 : Nat) (Option.some Jvm.ClassFile.FieldType.int)) ∈ nm_T := nm_tb 422 (by decide +kernel) (by decide +kernel)
theorem mw_453 : (Jvm.Cond.methodLink "RulePlateLaw" (32 : Nat) ({ cls := "RulePlate", name := "times", desc := "(IIII)I" } : Jvm.MethodName)) ∈ nm_T := nm_tb 453 (by decide +kernel) (by decide +kernel)
theorem mw_454 : (Jvm.Cond.instanceMethod ({ cls := "RulePlate", name := "times", desc := "(IIII)I" } : Jvm.MethodName)) ∈ nm_T := nm_tb 454 (by decide +kernel) (by decide +kernel)
theorem mw_456 : (Jvm.Cond.code ({ cls := "RulePlate", name := "times", desc := "(IIII)I" } : Jvm.MethodName) prog_1_method_6_code (7 : Nat) (Option.some Jvm.ClassFile.FieldType.int)) ∈ nm_T := nm_tb 456 (by decide +kernel) (by decide +kernel)
theorem mw_464 : (Jvm.Cond.methodLink "RulePlateLaw" (36 : Nat) ({ cls := "RulePlate", name := "undo", desc := "(I)I" } : Jvm.MethodName)) ∈ nm_T := nm_tb 464 (by decide +kernel) (by decide +kernel)
theorem mw_465 : (Jvm.Cond.instanceMethod ({ cls := "RulePlate", name := "undo", desc := "(I)I" } : Jvm.MethodName)) ∈ nm_T := nm_tb 465 (by decide +kernel) (by decide +kernel)
theorem mw_467 : (Jvm.Cond.code ({ cls := "RulePlate", name := "undo", desc := "(I)I" } : Jvm.MethodName) prog_1_method_7_code (2 : Nat) (Option.some Jvm.ClassFile.FieldType.int)) ∈ nm_T := nm_tb 467 (by decide +kernel) (by decide +kernel)
theorem mw_468 : (Jvm.Cond.methodLink "RulePlateLaw" (41 : Nat) ({ cls := "RulePlate", name := "shape", desc := "(III)I" } : Jvm.MethodName)) ∈ nm_T := nm_tb 468 (by decide +kernel) (by decide +kernel)
theorem mw_469 : (Jvm.Cond.instanceMethod ({ cls := "RulePlate", name := "shape", desc := "(III)I" } : Jvm.MethodName)) ∈ nm_T := nm_tb 469 (by decide +kernel) (by decide +kernel)
theorem mw_471 : (Jvm.Cond.code ({ cls := "RulePlate", name := "shape", desc := "(III)I" } : Jvm.MethodName) prog_1_method_8_code (5 : Nat) (Option.some Jvm.ClassFile.FieldType.int)) ∈ nm_T := nm_tb 471 (by decide +kernel) (by decide +kernel)
theorem mw_472 : (Jvm.Cond.methodLink "RulePlateLaw" (46 : Nat) ({ cls := "RulePlate", name := "made", desc := "(IIII)I" } : Jvm.MethodName)) ∈ nm_T := nm_tb 472 (by decide +kernel) (by decide +kernel)
theorem mw_473 : (Jvm.Cond.instanceMethod ({ cls := "RulePlate", name := "made", desc := "(IIII)I" } : Jvm.MethodName)) ∈ nm_T := nm_tb 473 (by decide +kernel) (by decide +kernel)
theorem mw_475 : (Jvm.Cond.code ({ cls := "RulePlate", name := "made", desc := "(IIII)I" } : Jvm.MethodName) prog_1_method_9_code (7 : Nat) (Option.some Jvm.ClassFile.FieldType.int)) ∈ nm_T := nm_tb 475 (by decide +kernel) (by decide +kernel)
theorem mw_480 : (Jvm.Cond.methodLink "RulePlateLaw" (50 : Nat) ({ cls := "RulePlate", name := "flat", desc := "(I)I" } : Jvm.MethodName)) ∈ nm_T := nm_tb 480 (by decide +kernel) (by decide +kernel)
theorem mw_481 : (Jvm.Cond.instanceMethod ({ cls := "RulePlate", name := "flat", desc := "(I)I" } : Jvm.MethodName)) ∈ nm_T := nm_tb 481 (by decide +kernel) (by decide +kernel)
theorem mw_483 : (Jvm.Cond.code ({ cls := "RulePlate", name := "flat", desc := "(I)I" } : Jvm.MethodName) prog_1_method_10_code (4 : Nat) (Option.some Jvm.ClassFile.FieldType.int)) ∈ nm_T := nm_tb 483 (by decide +kernel) (by decide +kernel)
theorem mw_673 : (Jvm.Cond.methodLink "RulePlateLaw" (54 : Nat) ({ cls := "RulePlate", name := "area", desc := "(I)I" } : Jvm.MethodName)) ∈ nm_T := nm_tb 673 (by decide +kernel) (by decide +kernel)
theorem mw_674 : (Jvm.Cond.instanceMethod ({ cls := "RulePlate", name := "area", desc := "(I)I" } : Jvm.MethodName)) ∈ nm_T := nm_tb 674 (by decide +kernel) (by decide +kernel)
theorem mw_676 : (Jvm.Cond.code ({ cls := "RulePlate", name := "area", desc := "(I)I" } : Jvm.MethodName) prog_1_method_11_code (2 : Nat) (Option.some Jvm.ClassFile.FieldType.int)) ∈ nm_T := nm_tb 676 (by decide +kernel) (by decide +kernel)
theorem mw_678 : (Jvm.Cond.methodLink "RulePlateLaw" (58 : Nat) ({ cls := "RulePlate", name := "covered", desc := "(II)I" } : Jvm.MethodName)) ∈ nm_T := nm_tb 678 (by decide +kernel) (by decide +kernel)
theorem mw_679 : (Jvm.Cond.instanceMethod ({ cls := "RulePlate", name := "covered", desc := "(II)I" } : Jvm.MethodName)) ∈ nm_T := nm_tb 679 (by decide +kernel) (by decide +kernel)
theorem mw_681 : (Jvm.Cond.code ({ cls := "RulePlate", name := "covered", desc := "(II)I" } : Jvm.MethodName) prog_1_method_12_code (3 : Nat) (Option.some Jvm.ClassFile.FieldType.int)) ∈ nm_T := nm_tb 681 (by decide +kernel) (by decide +kernel)
theorem mw_682 : (Jvm.Cond.methodLink "RulePlateLaw" (63 : Nat) ({ cls := "RulePlate", name := "pieces", desc := "(II)I" } : Jvm.MethodName)) ∈ nm_T := nm_tb 682 (by decide +kernel) (by decide +kernel)
theorem mw_683 : (Jvm.Cond.instanceMethod ({ cls := "RulePlate", name := "pieces", desc := "(II)I" } : Jvm.MethodName)) ∈ nm_T := nm_tb 683 (by decide +kernel) (by decide +kernel)
theorem mw_685 : (Jvm.Cond.code ({ cls := "RulePlate", name := "pieces", desc := "(II)I" } : Jvm.MethodName) prog_1_method_13_code (4 : Nat) (Option.some Jvm.ClassFile.FieldType.int)) ∈ nm_T := nm_tb 685 (by decide +kernel) (by decide +kernel)
theorem mw_690 : (Jvm.Cond.methodLink "RulePlateLaw" (67 : Nat) ({ cls := "RulePlate", name := "rule", desc := "(IIII)I" } : Jvm.MethodName)) ∈ nm_T := nm_tb 690 (by decide +kernel) (by decide +kernel)
theorem mw_691 : (Jvm.Cond.instanceMethod ({ cls := "RulePlate", name := "rule", desc := "(IIII)I" } : Jvm.MethodName)) ∈ nm_T := nm_tb 691 (by decide +kernel) (by decide +kernel)
theorem mw_693 : (Jvm.Cond.code ({ cls := "RulePlate", name := "rule", desc := "(IIII)I" } : Jvm.MethodName) prog_1_method_14_code (5 : Nat) (Option.some Jvm.ClassFile.FieldType.int)) ∈ nm_T := nm_tb 693 (by decide +kernel) (by decide +kernel)
theorem mw_701 : (Jvm.Cond.methodLink "RulePlateLaw" (71 : Nat) ({ cls := "RulePlate", name := "run", desc := "()I" } : Jvm.MethodName)) ∈ nm_T := nm_tb 701 (by decide +kernel) (by decide +kernel)
theorem mw_702 : (Jvm.Cond.instanceMethod ({ cls := "RulePlate", name := "run", desc := "()I" } : Jvm.MethodName)) ∈ nm_T := nm_tb 702 (by decide +kernel) (by decide +kernel)
theorem mw_704 : (Jvm.Cond.code ({ cls := "RulePlate", name := "run", desc := "()I" } : Jvm.MethodName) prog_1_method_15_code (1 : Nat) (Option.some Jvm.ClassFile.FieldType.int)) ∈ nm_T := nm_tb 704 (by decide +kernel) (by decide +kernel)
theorem mw_753 : (Jvm.Cond.methodLink "RulePlateLaw" (76 : Nat) ({ cls := "RulePlate", name := "fault", desc := "(II)I" } : Jvm.MethodName)) ∈ nm_T := nm_tb 753 (by decide +kernel) (by decide +kernel)
theorem mw_754 : (Jvm.Cond.instanceMethod ({ cls := "RulePlate", name := "fault", desc := "(II)I" } : Jvm.MethodName)) ∈ nm_T := nm_tb 754 (by decide +kernel) (by decide +kernel)
theorem mw_756 : (Jvm.Cond.code ({ cls := "RulePlate", name := "fault", desc := "(II)I" } : Jvm.MethodName) prog_1_method_16_code (3 : Nat) (Option.some Jvm.ClassFile.FieldType.int)) ∈ nm_T := nm_tb 756 (by decide +kernel) (by decide +kernel)
theorem mw_757 : (Jvm.Cond.methodLink "RulePlateLaw" (80 : Nat) ({ cls := "RulePlate", name := "faults", desc := "(II)I" } : Jvm.MethodName)) ∈ nm_T := nm_tb 757 (by decide +kernel) (by decide +kernel)
theorem mw_758 : (Jvm.Cond.instanceMethod ({ cls := "RulePlate", name := "faults", desc := "(II)I" } : Jvm.MethodName)) ∈ nm_T := nm_tb 758 (by decide +kernel) (by decide +kernel)
theorem mw_760 : (Jvm.Cond.code ({ cls := "RulePlate", name := "faults", desc := "(II)I" } : Jvm.MethodName) prog_1_method_17_code (3 : Nat) (Option.some Jvm.ClassFile.FieldType.int)) ∈ nm_T := nm_tb 760 (by decide +kernel) (by decide +kernel)
theorem mw_761 : (Jvm.Cond.methodLink "RulePlateLaw" (84 : Nat) ({ cls := "RulePlate", name := "conducts", desc := "(IZ)I" } : Jvm.MethodName)) ∈ nm_T := nm_tb 761 (by decide +kernel) (by decide +kernel)
theorem mw_762 : (Jvm.Cond.instanceMethod ({ cls := "RulePlate", name := "conducts", desc := "(IZ)I" } : Jvm.MethodName)) ∈ nm_T := nm_tb 762 (by decide +kernel) (by decide +kernel)
theorem mw_764 : (Jvm.Cond.code ({ cls := "RulePlate", name := "conducts", desc := "(IZ)I" } : Jvm.MethodName) prog_1_method_18_code (4 : Nat) (Option.some Jvm.ClassFile.FieldType.int)) ∈ nm_T := nm_tb 764 (by decide +kernel) (by decide +kernel)
theorem mw_765 : (Jvm.Cond.methodLink "RulePlateLaw" (89 : Nat) ({ cls := "RulePlate", name := "joint", desc := "(III)I" } : Jvm.MethodName)) ∈ nm_T := nm_tb 765 (by decide +kernel) (by decide +kernel)
theorem mw_766 : (Jvm.Cond.instanceMethod ({ cls := "RulePlate", name := "joint", desc := "(III)I" } : Jvm.MethodName)) ∈ nm_T := nm_tb 766 (by decide +kernel) (by decide +kernel)
theorem mw_768 : (Jvm.Cond.code ({ cls := "RulePlate", name := "joint", desc := "(III)I" } : Jvm.MethodName) prog_1_method_19_code (4 : Nat) (Option.some Jvm.ClassFile.FieldType.int)) ∈ nm_T := nm_tb 768 (by decide +kernel) (by decide +kernel)
theorem mw_773 : (Jvm.Cond.methodLink "RulePlateLaw" (93 : Nat) ({ cls := "RulePlate", name := "gates", desc := "(III)I" } : Jvm.MethodName)) ∈ nm_T := nm_tb 773 (by decide +kernel) (by decide +kernel)
theorem mw_774 : (Jvm.Cond.instanceMethod ({ cls := "RulePlate", name := "gates", desc := "(III)I" } : Jvm.MethodName)) ∈ nm_T := nm_tb 774 (by decide +kernel) (by decide +kernel)
theorem mw_776 : (Jvm.Cond.code ({ cls := "RulePlate", name := "gates", desc := "(III)I" } : Jvm.MethodName) prog_1_method_20_code (4 : Nat) (Option.some Jvm.ClassFile.FieldType.int)) ∈ nm_T := nm_tb 776 (by decide +kernel) (by decide +kernel)
theorem mw_781 : (Jvm.Cond.methodLink "RulePlateLaw" (97 : Nat) ({ cls := "RulePlate", name := "circuit", desc := "()I" } : Jvm.MethodName)) ∈ nm_T := nm_tb 781 (by decide +kernel) (by decide +kernel)
theorem mw_782 : (Jvm.Cond.instanceMethod ({ cls := "RulePlate", name := "circuit", desc := "()I" } : Jvm.MethodName)) ∈ nm_T := nm_tb 782 (by decide +kernel) (by decide +kernel)
theorem mw_784 : (Jvm.Cond.code ({ cls := "RulePlate", name := "circuit", desc := "()I" } : Jvm.MethodName) prog_1_method_21_code (1 : Nat) (Option.some Jvm.ClassFile.FieldType.int)) ∈ nm_T := nm_tb 784 (by decide +kernel) (by decide +kernel)
theorem mw_837 : (Jvm.Cond.methodLink "RulePlateLaw" (101 : Nat) ({ cls := "RulePlate", name := "net", desc := "(II)I" } : Jvm.MethodName)) ∈ nm_T := nm_tb 837 (by decide +kernel) (by decide +kernel)
theorem mw_838 : (Jvm.Cond.instanceMethod ({ cls := "RulePlate", name := "net", desc := "(II)I" } : Jvm.MethodName)) ∈ nm_T := nm_tb 838 (by decide +kernel) (by decide +kernel)
theorem mw_840 : (Jvm.Cond.code ({ cls := "RulePlate", name := "net", desc := "(II)I" } : Jvm.MethodName) prog_1_method_22_code (3 : Nat) (Option.some Jvm.ClassFile.FieldType.int)) ∈ nm_T := nm_tb 840 (by decide +kernel) (by decide +kernel)
theorem mw_846 : (Jvm.Cond.methodLink "RulePlateLaw" (105 : Nat) ({ cls := "RulePlate", name := "name", desc := "(II)I" } : Jvm.MethodName)) ∈ nm_T := nm_tb 846 (by decide +kernel) (by decide +kernel)
theorem mw_847 : (Jvm.Cond.instanceMethod ({ cls := "RulePlate", name := "name", desc := "(II)I" } : Jvm.MethodName)) ∈ nm_T := nm_tb 847 (by decide +kernel) (by decide +kernel)
theorem mw_849 : (Jvm.Cond.code ({ cls := "RulePlate", name := "name", desc := "(II)I" } : Jvm.MethodName) prog_1_method_23_code (3 : Nat) (Option.some Jvm.ClassFile.FieldType.int)) ∈ nm_T := nm_tb 849 (by decide +kernel) (by decide +kernel)
theorem mw_857 : (Jvm.Cond.methodLink "RulePlateLaw" (109 : Nat) ({ cls := "RulePlate", name := "device", desc := "(II)I" } : Jvm.MethodName)) ∈ nm_T := nm_tb 857 (by decide +kernel) (by decide +kernel)
theorem mw_858 : (Jvm.Cond.instanceMethod ({ cls := "RulePlate", name := "device", desc := "(II)I" } : Jvm.MethodName)) ∈ nm_T := nm_tb 858 (by decide +kernel) (by decide +kernel)
theorem mw_860 : (Jvm.Cond.code ({ cls := "RulePlate", name := "device", desc := "(II)I" } : Jvm.MethodName) prog_1_method_24_code (3 : Nat) (Option.some Jvm.ClassFile.FieldType.int)) ∈ nm_T := nm_tb 860 (by decide +kernel) (by decide +kernel)
theorem mw_865 : (Jvm.Cond.methodLink "RulePlateLaw" (113 : Nat) ({ cls := "RulePlate", name := "wish", desc := "(II)I" } : Jvm.MethodName)) ∈ nm_T := nm_tb 865 (by decide +kernel) (by decide +kernel)
theorem mw_866 : (Jvm.Cond.instanceMethod ({ cls := "RulePlate", name := "wish", desc := "(II)I" } : Jvm.MethodName)) ∈ nm_T := nm_tb 866 (by decide +kernel) (by decide +kernel)
theorem mw_868 : (Jvm.Cond.code ({ cls := "RulePlate", name := "wish", desc := "(II)I" } : Jvm.MethodName) prog_1_method_25_code (3 : Nat) (Option.some Jvm.ClassFile.FieldType.int)) ∈ nm_T := nm_tb 868 (by decide +kernel) (by decide +kernel)
theorem mw_873 : (Jvm.Cond.methodLink "RulePlateLaw" (117 : Nat) ({ cls := "RulePlate", name := "unwish", desc := "()I" } : Jvm.MethodName)) ∈ nm_T := nm_tb 873 (by decide +kernel) (by decide +kernel)
theorem mw_874 : (Jvm.Cond.instanceMethod ({ cls := "RulePlate", name := "unwish", desc := "()I" } : Jvm.MethodName)) ∈ nm_T := nm_tb 874 (by decide +kernel) (by decide +kernel)
theorem mw_876 : (Jvm.Cond.code ({ cls := "RulePlate", name := "unwish", desc := "()I" } : Jvm.MethodName) prog_1_method_26_code (2 : Nat) (Option.some Jvm.ClassFile.FieldType.int)) ∈ nm_T := nm_tb 876 (by decide +kernel) (by decide +kernel)
theorem mw_877 : (Jvm.Cond.methodLink "RulePlateLaw" (121 : Nat) ({ cls := "RulePlate", name := "same", desc := "()I" } : Jvm.MethodName)) ∈ nm_T := nm_tb 877 (by decide +kernel) (by decide +kernel)
theorem mw_878 : (Jvm.Cond.instanceMethod ({ cls := "RulePlate", name := "same", desc := "()I" } : Jvm.MethodName)) ∈ nm_T := nm_tb 878 (by decide +kernel) (by decide +kernel)
theorem mw_880 : (Jvm.Cond.code ({ cls := "RulePlate", name := "same", desc := "()I" } : Jvm.MethodName) prog_1_method_27_code (1 : Nat) (Option.some Jvm.ClassFile.FieldType.int)) ∈ nm_T := nm_tb 880 (by decide +kernel) (by decide +kernel)
theorem mw_911 : (Jvm.Cond.methodLink "RulePlateLaw" (125 : Nat) ({ cls := "RulePlate", name := "tries", desc := "()I" } : Jvm.MethodName)) ∈ nm_T := nm_tb 911 (by decide +kernel) (by decide +kernel)
theorem mw_912 : (Jvm.Cond.instanceMethod ({ cls := "RulePlate", name := "tries", desc := "()I" } : Jvm.MethodName)) ∈ nm_T := nm_tb 912 (by decide +kernel) (by decide +kernel)
theorem mw_914 : (Jvm.Cond.code ({ cls := "RulePlate", name := "tries", desc := "()I" } : Jvm.MethodName) prog_1_method_28_code (1 : Nat) (Option.some Jvm.ClassFile.FieldType.int)) ∈ nm_T := nm_tb 914 (by decide +kernel) (by decide +kernel)
theorem mw_915 : (Jvm.Cond.methodLink "RulePlateLaw" (129 : Nat) ({ cls := "RulePlate", name := "pair", desc := "(IZ)I" } : Jvm.MethodName)) ∈ nm_T := nm_tb 915 (by decide +kernel) (by decide +kernel)
theorem mw_916 : (Jvm.Cond.instanceMethod ({ cls := "RulePlate", name := "pair", desc := "(IZ)I" } : Jvm.MethodName)) ∈ nm_T := nm_tb 916 (by decide +kernel) (by decide +kernel)
theorem mw_918 : (Jvm.Cond.code ({ cls := "RulePlate", name := "pair", desc := "(IZ)I" } : Jvm.MethodName) prog_1_method_29_code (3 : Nat) (Option.some Jvm.ClassFile.FieldType.int)) ∈ nm_T := nm_tb 918 (by decide +kernel) (by decide +kernel)
theorem mw_925 : (Jvm.Cond.methodLink "RulePlateLaw" (133 : Nat) ({ cls := "RulePlate", name := "lay", desc := "(II)I" } : Jvm.MethodName)) ∈ nm_T := nm_tb 925 (by decide +kernel) (by decide +kernel)
theorem mw_926 : (Jvm.Cond.instanceMethod ({ cls := "RulePlate", name := "lay", desc := "(II)I" } : Jvm.MethodName)) ∈ nm_T := nm_tb 926 (by decide +kernel) (by decide +kernel)
theorem mw_928 : (Jvm.Cond.code ({ cls := "RulePlate", name := "lay", desc := "(II)I" } : Jvm.MethodName) prog_1_method_30_code (3 : Nat) (Option.some Jvm.ClassFile.FieldType.int)) ∈ nm_T := nm_tb 928 (by decide +kernel) (by decide +kernel)
theorem mw_930 : (Jvm.Cond.methodLink "RulePlateLaw" (137 : Nat) ({ cls := "RulePlate", name := "tear", desc := "()I" } : Jvm.MethodName)) ∈ nm_T := nm_tb 930 (by decide +kernel) (by decide +kernel)
theorem mw_931 : (Jvm.Cond.instanceMethod ({ cls := "RulePlate", name := "tear", desc := "()I" } : Jvm.MethodName)) ∈ nm_T := nm_tb 931 (by decide +kernel) (by decide +kernel)
theorem mw_933 : (Jvm.Cond.code ({ cls := "RulePlate", name := "tear", desc := "()I" } : Jvm.MethodName) prog_1_method_31_code (2 : Nat) (Option.some Jvm.ClassFile.FieldType.int)) ∈ nm_T := nm_tb 933 (by decide +kernel) (by decide +kernel)
theorem mw_934 : (Jvm.Cond.methodLink "RulePlateLaw" (141 : Nat) ({ cls := "RulePlate", name := "row", desc := "(I)I" } : Jvm.MethodName)) ∈ nm_T := nm_tb 934 (by decide +kernel) (by decide +kernel)
theorem mw_935 : (Jvm.Cond.instanceMethod ({ cls := "RulePlate", name := "row", desc := "(I)I" } : Jvm.MethodName)) ∈ nm_T := nm_tb 935 (by decide +kernel) (by decide +kernel)
theorem mw_937 : (Jvm.Cond.code ({ cls := "RulePlate", name := "row", desc := "(I)I" } : Jvm.MethodName) prog_1_method_32_code (2 : Nat) (Option.some Jvm.ClassFile.FieldType.int)) ∈ nm_T := nm_tb 937 (by decide +kernel) (by decide +kernel)
theorem mw_938 : (Jvm.Cond.methodLink "RulePlateLaw" (145 : Nat) ({ cls := "RulePlate", name := "copy", desc := "(III)I" } : Jvm.MethodName)) ∈ nm_T := nm_tb 938 (by decide +kernel) (by decide +kernel)
theorem mw_939 : (Jvm.Cond.instanceMethod ({ cls := "RulePlate", name := "copy", desc := "(III)I" } : Jvm.MethodName)) ∈ nm_T := nm_tb 939 (by decide +kernel) (by decide +kernel)
theorem mw_941 : (Jvm.Cond.code ({ cls := "RulePlate", name := "copy", desc := "(III)I" } : Jvm.MethodName) prog_1_method_33_code (6 : Nat) (Option.some Jvm.ClassFile.FieldType.int)) ∈ nm_T := nm_tb 941 (by decide +kernel) (by decide +kernel)
theorem mw_944 : (Jvm.Cond.methodLink "RulePlateLaw" (149 : Nat) ({ cls := "RulePlate", name := "status", desc := "(I)I" } : Jvm.MethodName)) ∈ nm_T := nm_tb 944 (by decide +kernel) (by decide +kernel)
theorem mw_945 : (Jvm.Cond.instanceMethod ({ cls := "RulePlate", name := "status", desc := "(I)I" } : Jvm.MethodName)) ∈ nm_T := nm_tb 945 (by decide +kernel) (by decide +kernel)
theorem mw_947 : (Jvm.Cond.code ({ cls := "RulePlate", name := "status", desc := "(I)I" } : Jvm.MethodName) prog_1_method_34_code (2 : Nat) (Option.some Jvm.ClassFile.FieldType.int)) ∈ nm_T := nm_tb 947 (by decide +kernel) (by decide +kernel)
theorem mw_1197 : (Jvm.Cond.methodLink "RulePlateLaw" (17 : Nat) ({ cls := "RulePlateModel", name := "box", desc := "(IIIIZ)I" } : Jvm.MethodName)) ∈ nm_T := nm_tb 1197 (by decide +kernel) (by decide +kernel)
theorem mw_1198 : (Jvm.Cond.instanceMethod ({ cls := "RulePlateModel", name := "box", desc := "(IIIIZ)I" } : Jvm.MethodName)) ∈ nm_T := nm_tb 1198 (by decide +kernel) (by decide +kernel)
theorem mw_1200 : (Jvm.Cond.code ({ cls := "RulePlateModel", name := "box", desc := "(IIIIZ)I" } : Jvm.MethodName) prog_14_method_8_code (6 : Nat) (Option.some Jvm.ClassFile.FieldType.int)) ∈ nm_T := nm_tb 1200 (by decide +kernel) (by decide +kernel)
theorem mw_1220 : (Jvm.Cond.methodLink "RulePlateLaw" (22 : Nat) ({ cls := "RulePlateModel", name := "path", desc := "(IIIII)I" } : Jvm.MethodName)) ∈ nm_T := nm_tb 1220 (by decide +kernel) (by decide +kernel)
theorem mw_1221 : (Jvm.Cond.instanceMethod ({ cls := "RulePlateModel", name := "path", desc := "(IIIII)I" } : Jvm.MethodName)) ∈ nm_T := nm_tb 1221 (by decide +kernel) (by decide +kernel)
theorem mw_1223 : (Jvm.Cond.code ({ cls := "RulePlateModel", name := "path", desc := "(IIIII)I" } : Jvm.MethodName) prog_14_method_9_code (6 : Nat) (Option.some Jvm.ClassFile.FieldType.int)) ∈ nm_T := nm_tb 1223 (by decide +kernel) (by decide +kernel)
theorem mw_1225 : (Jvm.Cond.methodLink "RulePlateLaw" (27 : Nat) ({ cls := "RulePlateModel", name := "text", desc := "(IIII)I" } : Jvm.MethodName)) ∈ nm_T := nm_tb 1225 (by decide +kernel) (by decide +kernel)
theorem mw_1226 : (Jvm.Cond.instanceMethod ({ cls := "RulePlateModel", name := "text", desc := "(IIII)I" } : Jvm.MethodName)) ∈ nm_T := nm_tb 1226 (by decide +kernel) (by decide +kernel)
theorem mw_1228 : (Jvm.Cond.code ({ cls := "RulePlateModel", name := "text", desc := "(IIII)I" } : Jvm.MethodName) prog_14_method_10_code (5 : Nat) (Option.some Jvm.ClassFile.FieldType.int)) ∈ nm_T := nm_tb 1228 (by decide +kernel) (by decide +kernel)
theorem mw_1233 : (Jvm.Cond.methodLink "RulePlateLaw" (31 : Nat) ({ cls := "RulePlateModel", name := "put", desc := "(IIIIZ)I" } : Jvm.MethodName)) ∈ nm_T := nm_tb 1233 (by decide +kernel) (by decide +kernel)
theorem mw_1234 : (Jvm.Cond.instanceMethod ({ cls := "RulePlateModel", name := "put", desc := "(IIIIZ)I" } : Jvm.MethodName)) ∈ nm_T := nm_tb 1234 (by decide +kernel) (by decide +kernel)
theorem mw_1236 : (Jvm.Cond.code ({ cls := "RulePlateModel", name := "put", desc := "(IIIIZ)I" } : Jvm.MethodName) prog_14_method_11_code (6 : Nat) (Option.some Jvm.ClassFile.FieldType.int)) ∈ nm_T := nm_tb 1236 (by decide +kernel) (by decide +kernel)
theorem mw_1238 : (Jvm.Cond.methodLink "RulePlateLaw" (35 : Nat) ({ cls := "RulePlateModel", name := "times", desc := "(IIII)I" } : Jvm.MethodName)) ∈ nm_T := nm_tb 1238 (by decide +kernel) (by decide +kernel)
theorem mw_1239 : (Jvm.Cond.instanceMethod ({ cls := "RulePlateModel", name := "times", desc := "(IIII)I" } : Jvm.MethodName)) ∈ nm_T := nm_tb 1239 (by decide +kernel) (by decide +kernel)
theorem mw_1241 : (Jvm.Cond.code ({ cls := "RulePlateModel", name := "times", desc := "(IIII)I" } : Jvm.MethodName) prog_14_method_14_code (6 : Nat) (Option.some Jvm.ClassFile.FieldType.int)) ∈ nm_T := nm_tb 1241 (by decide +kernel) (by decide +kernel)
theorem mw_1252 : (Jvm.Cond.methodLink "RulePlateLaw" (40 : Nat) ({ cls := "RulePlateModel", name := "undo", desc := "(I)I" } : Jvm.MethodName)) ∈ nm_T := nm_tb 1252 (by decide +kernel) (by decide +kernel)
theorem mw_1253 : (Jvm.Cond.instanceMethod ({ cls := "RulePlateModel", name := "undo", desc := "(I)I" } : Jvm.MethodName)) ∈ nm_T := nm_tb 1253 (by decide +kernel) (by decide +kernel)
theorem mw_1255 : (Jvm.Cond.code ({ cls := "RulePlateModel", name := "undo", desc := "(I)I" } : Jvm.MethodName) prog_14_method_15_code (2 : Nat) (Option.some Jvm.ClassFile.FieldType.int)) ∈ nm_T := nm_tb 1255 (by decide +kernel) (by decide +kernel)
theorem mw_1256 : (Jvm.Cond.methodLink "RulePlateLaw" (45 : Nat) ({ cls := "RulePlateModel", name := "shape", desc := "(III)I" } : Jvm.MethodName)) ∈ nm_T := nm_tb 1256 (by decide +kernel) (by decide +kernel)
theorem mw_1257 : (Jvm.Cond.instanceMethod ({ cls := "RulePlateModel", name := "shape", desc := "(III)I" } : Jvm.MethodName)) ∈ nm_T := nm_tb 1257 (by decide +kernel) (by decide +kernel)
theorem mw_1259 : (Jvm.Cond.code ({ cls := "RulePlateModel", name := "shape", desc := "(III)I" } : Jvm.MethodName) prog_14_method_16_code (5 : Nat) (Option.some Jvm.ClassFile.FieldType.int)) ∈ nm_T := nm_tb 1259 (by decide +kernel) (by decide +kernel)
theorem mw_1260 : (Jvm.Cond.methodLink "RulePlateLaw" (49 : Nat) ({ cls := "RulePlateModel", name := "made", desc := "(IIII)I" } : Jvm.MethodName)) ∈ nm_T := nm_tb 1260 (by decide +kernel) (by decide +kernel)
theorem mw_1261 : (Jvm.Cond.instanceMethod ({ cls := "RulePlateModel", name := "made", desc := "(IIII)I" } : Jvm.MethodName)) ∈ nm_T := nm_tb 1261 (by decide +kernel) (by decide +kernel)
theorem mw_1263 : (Jvm.Cond.code ({ cls := "RulePlateModel", name := "made", desc := "(IIII)I" } : Jvm.MethodName) prog_14_method_27_code (6 : Nat) (Option.some Jvm.ClassFile.FieldType.int)) ∈ nm_T := nm_tb 1263 (by decide +kernel) (by decide +kernel)
theorem mw_1267 : (Jvm.Cond.methodLink "RulePlateLaw" (53 : Nat) ({ cls := "RulePlateModel", name := "flat", desc := "(I)I" } : Jvm.MethodName)) ∈ nm_T := nm_tb 1267 (by decide +kernel) (by decide +kernel)
theorem mw_1268 : (Jvm.Cond.instanceMethod ({ cls := "RulePlateModel", name := "flat", desc := "(I)I" } : Jvm.MethodName)) ∈ nm_T := nm_tb 1268 (by decide +kernel) (by decide +kernel)
theorem mw_1270 : (Jvm.Cond.code ({ cls := "RulePlateModel", name := "flat", desc := "(I)I" } : Jvm.MethodName) prog_14_method_31_code (4 : Nat) (Option.some Jvm.ClassFile.FieldType.int)) ∈ nm_T := nm_tb 1270 (by decide +kernel) (by decide +kernel)
theorem mw_1331 : (Jvm.Cond.methodLink "RulePlateLaw" (57 : Nat) ({ cls := "RulePlateModel", name := "area", desc := "(I)I" } : Jvm.MethodName)) ∈ nm_T := nm_tb 1331 (by decide +kernel) (by decide +kernel)
theorem mw_1332 : (Jvm.Cond.instanceMethod ({ cls := "RulePlateModel", name := "area", desc := "(I)I" } : Jvm.MethodName)) ∈ nm_T := nm_tb 1332 (by decide +kernel) (by decide +kernel)
theorem mw_1334 : (Jvm.Cond.code ({ cls := "RulePlateModel", name := "area", desc := "(I)I" } : Jvm.MethodName) prog_14_method_33_code (2 : Nat) (Option.some Jvm.ClassFile.FieldType.int)) ∈ nm_T := nm_tb 1334 (by decide +kernel) (by decide +kernel)
theorem mw_1339 : (Jvm.Cond.methodLink "RulePlateLaw" (62 : Nat) ({ cls := "RulePlateModel", name := "covered", desc := "(II)I" } : Jvm.MethodName)) ∈ nm_T := nm_tb 1339 (by decide +kernel) (by decide +kernel)
theorem mw_1340 : (Jvm.Cond.instanceMethod ({ cls := "RulePlateModel", name := "covered", desc := "(II)I" } : Jvm.MethodName)) ∈ nm_T := nm_tb 1340 (by decide +kernel) (by decide +kernel)
theorem mw_1342 : (Jvm.Cond.code ({ cls := "RulePlateModel", name := "covered", desc := "(II)I" } : Jvm.MethodName) prog_14_method_34_code (3 : Nat) (Option.some Jvm.ClassFile.FieldType.int)) ∈ nm_T := nm_tb 1342 (by decide +kernel) (by decide +kernel)
theorem mw_1343 : (Jvm.Cond.methodLink "RulePlateLaw" (66 : Nat) ({ cls := "RulePlateModel", name := "pieces", desc := "(II)I" } : Jvm.MethodName)) ∈ nm_T := nm_tb 1343 (by decide +kernel) (by decide +kernel)
theorem mw_1344 : (Jvm.Cond.instanceMethod ({ cls := "RulePlateModel", name := "pieces", desc := "(II)I" } : Jvm.MethodName)) ∈ nm_T := nm_tb 1344 (by decide +kernel) (by decide +kernel)
theorem mw_1346 : (Jvm.Cond.code ({ cls := "RulePlateModel", name := "pieces", desc := "(II)I" } : Jvm.MethodName) prog_14_method_37_code (3 : Nat) (Option.some Jvm.ClassFile.FieldType.int)) ∈ nm_T := nm_tb 1346 (by decide +kernel) (by decide +kernel)
theorem mw_1347 : (Jvm.Cond.methodLink "RulePlateLaw" (70 : Nat) ({ cls := "RulePlateModel", name := "rule", desc := "(IIII)I" } : Jvm.MethodName)) ∈ nm_T := nm_tb 1347 (by decide +kernel) (by decide +kernel)
theorem mw_1348 : (Jvm.Cond.instanceMethod ({ cls := "RulePlateModel", name := "rule", desc := "(IIII)I" } : Jvm.MethodName)) ∈ nm_T := nm_tb 1348 (by decide +kernel) (by decide +kernel)
theorem mw_1350 : (Jvm.Cond.code ({ cls := "RulePlateModel", name := "rule", desc := "(IIII)I" } : Jvm.MethodName) prog_14_method_38_code (5 : Nat) (Option.some Jvm.ClassFile.FieldType.int)) ∈ nm_T := nm_tb 1350 (by decide +kernel) (by decide +kernel)
theorem mw_1352 : (Jvm.Cond.methodLink "RulePlateLaw" (75 : Nat) ({ cls := "RulePlateModel", name := "run", desc := "()I" } : Jvm.MethodName)) ∈ nm_T := nm_tb 1352 (by decide +kernel) (by decide +kernel)
theorem mw_1353 : (Jvm.Cond.instanceMethod ({ cls := "RulePlateModel", name := "run", desc := "()I" } : Jvm.MethodName)) ∈ nm_T := nm_tb 1353 (by decide +kernel) (by decide +kernel)
theorem mw_1355 : (Jvm.Cond.code ({ cls := "RulePlateModel", name := "run", desc := "()I" } : Jvm.MethodName) prog_14_method_46_code (2 : Nat) (Option.some Jvm.ClassFile.FieldType.int)) ∈ nm_T := nm_tb 1355 (by decide +kernel) (by decide +kernel)
theorem mw_1383 : (Jvm.Cond.methodLink "RulePlateLaw" (79 : Nat) ({ cls := "RulePlateModel", name := "fault", desc := "(II)I" } : Jvm.MethodName)) ∈ nm_T := nm_tb 1383 (by decide +kernel) (by decide +kernel)
theorem mw_1384 : (Jvm.Cond.instanceMethod ({ cls := "RulePlateModel", name := "fault", desc := "(II)I" } : Jvm.MethodName)) ∈ nm_T := nm_tb 1384 (by decide +kernel) (by decide +kernel)
theorem mw_1386 : (Jvm.Cond.code ({ cls := "RulePlateModel", name := "fault", desc := "(II)I" } : Jvm.MethodName) prog_14_method_47_code (3 : Nat) (Option.some Jvm.ClassFile.FieldType.int)) ∈ nm_T := nm_tb 1386 (by decide +kernel) (by decide +kernel)
theorem mw_1387 : (Jvm.Cond.methodLink "RulePlateLaw" (83 : Nat) ({ cls := "RulePlateModel", name := "faults", desc := "(II)I" } : Jvm.MethodName)) ∈ nm_T := nm_tb 1387 (by decide +kernel) (by decide +kernel)
theorem mw_1388 : (Jvm.Cond.instanceMethod ({ cls := "RulePlateModel", name := "faults", desc := "(II)I" } : Jvm.MethodName)) ∈ nm_T := nm_tb 1388 (by decide +kernel) (by decide +kernel)
theorem mw_1390 : (Jvm.Cond.code ({ cls := "RulePlateModel", name := "faults", desc := "(II)I" } : Jvm.MethodName) prog_14_method_48_code (3 : Nat) (Option.some Jvm.ClassFile.FieldType.int)) ∈ nm_T := nm_tb 1390 (by decide +kernel) (by decide +kernel)
theorem mw_1391 : (Jvm.Cond.methodLink "RulePlateLaw" (88 : Nat) ({ cls := "RulePlateModel", name := "conducts", desc := "(IZ)I" } : Jvm.MethodName)) ∈ nm_T := nm_tb 1391 (by decide +kernel) (by decide +kernel)
theorem mw_1392 : (Jvm.Cond.instanceMethod ({ cls := "RulePlateModel", name := "conducts", desc := "(IZ)I" } : Jvm.MethodName)) ∈ nm_T := nm_tb 1392 (by decide +kernel) (by decide +kernel)
theorem mw_1394 : (Jvm.Cond.code ({ cls := "RulePlateModel", name := "conducts", desc := "(IZ)I" } : Jvm.MethodName) prog_14_method_49_code (4 : Nat) (Option.some Jvm.ClassFile.FieldType.int)) ∈ nm_T := nm_tb 1394 (by decide +kernel) (by decide +kernel)
theorem mw_1395 : (Jvm.Cond.methodLink "RulePlateLaw" (92 : Nat) ({ cls := "RulePlateModel", name := "joint", desc := "(III)I" } : Jvm.MethodName)) ∈ nm_T := nm_tb 1395 (by decide +kernel) (by decide +kernel)
theorem mw_1396 : (Jvm.Cond.instanceMethod ({ cls := "RulePlateModel", name := "joint", desc := "(III)I" } : Jvm.MethodName)) ∈ nm_T := nm_tb 1396 (by decide +kernel) (by decide +kernel)
theorem mw_1398 : (Jvm.Cond.code ({ cls := "RulePlateModel", name := "joint", desc := "(III)I" } : Jvm.MethodName) prog_14_method_50_code (4 : Nat) (Option.some Jvm.ClassFile.FieldType.int)) ∈ nm_T := nm_tb 1398 (by decide +kernel) (by decide +kernel)
theorem mw_1399 : (Jvm.Cond.methodLink "RulePlateLaw" (96 : Nat) ({ cls := "RulePlateModel", name := "gates", desc := "(III)I" } : Jvm.MethodName)) ∈ nm_T := nm_tb 1399 (by decide +kernel) (by decide +kernel)
theorem mw_1400 : (Jvm.Cond.instanceMethod ({ cls := "RulePlateModel", name := "gates", desc := "(III)I" } : Jvm.MethodName)) ∈ nm_T := nm_tb 1400 (by decide +kernel) (by decide +kernel)
theorem mw_1402 : (Jvm.Cond.code ({ cls := "RulePlateModel", name := "gates", desc := "(III)I" } : Jvm.MethodName) prog_14_method_51_code (4 : Nat) (Option.some Jvm.ClassFile.FieldType.int)) ∈ nm_T := nm_tb 1402 (by decide +kernel) (by decide +kernel)
theorem mw_1403 : (Jvm.Cond.methodLink "RulePlateLaw" (100 : Nat) ({ cls := "RulePlateModel", name := "circuit", desc := "()I" } : Jvm.MethodName)) ∈ nm_T := nm_tb 1403 (by decide +kernel) (by decide +kernel)
theorem mw_1404 : (Jvm.Cond.instanceMethod ({ cls := "RulePlateModel", name := "circuit", desc := "()I" } : Jvm.MethodName)) ∈ nm_T := nm_tb 1404 (by decide +kernel) (by decide +kernel)
theorem mw_1406 : (Jvm.Cond.code ({ cls := "RulePlateModel", name := "circuit", desc := "()I" } : Jvm.MethodName) prog_14_method_57_code (2 : Nat) (Option.some Jvm.ClassFile.FieldType.int)) ∈ nm_T := nm_tb 1406 (by decide +kernel) (by decide +kernel)
theorem mw_1427 : (Jvm.Cond.methodLink "RulePlateLaw" (104 : Nat) ({ cls := "RulePlateModel", name := "net", desc := "(II)I" } : Jvm.MethodName)) ∈ nm_T := nm_tb 1427 (by decide +kernel) (by decide +kernel)
theorem mw_1428 : (Jvm.Cond.instanceMethod ({ cls := "RulePlateModel", name := "net", desc := "(II)I" } : Jvm.MethodName)) ∈ nm_T := nm_tb 1428 (by decide +kernel) (by decide +kernel)
theorem mw_1430 : (Jvm.Cond.code ({ cls := "RulePlateModel", name := "net", desc := "(II)I" } : Jvm.MethodName) prog_14_method_58_code (3 : Nat) (Option.some Jvm.ClassFile.FieldType.int)) ∈ nm_T := nm_tb 1430 (by decide +kernel) (by decide +kernel)
theorem mw_1431 : (Jvm.Cond.methodLink "RulePlateLaw" (108 : Nat) ({ cls := "RulePlateModel", name := "name", desc := "(II)I" } : Jvm.MethodName)) ∈ nm_T := nm_tb 1431 (by decide +kernel) (by decide +kernel)
theorem mw_1432 : (Jvm.Cond.instanceMethod ({ cls := "RulePlateModel", name := "name", desc := "(II)I" } : Jvm.MethodName)) ∈ nm_T := nm_tb 1432 (by decide +kernel) (by decide +kernel)
theorem mw_1434 : (Jvm.Cond.code ({ cls := "RulePlateModel", name := "name", desc := "(II)I" } : Jvm.MethodName) prog_14_method_59_code (5 : Nat) (Option.some Jvm.ClassFile.FieldType.int)) ∈ nm_T := nm_tb 1434 (by decide +kernel) (by decide +kernel)
theorem mw_1435 : (Jvm.Cond.methodLink "RulePlateLaw" (112 : Nat) ({ cls := "RulePlateModel", name := "device", desc := "(II)I" } : Jvm.MethodName)) ∈ nm_T := nm_tb 1435 (by decide +kernel) (by decide +kernel)
theorem mw_1436 : (Jvm.Cond.instanceMethod ({ cls := "RulePlateModel", name := "device", desc := "(II)I" } : Jvm.MethodName)) ∈ nm_T := nm_tb 1436 (by decide +kernel) (by decide +kernel)
theorem mw_1438 : (Jvm.Cond.code ({ cls := "RulePlateModel", name := "device", desc := "(II)I" } : Jvm.MethodName) prog_14_method_60_code (3 : Nat) (Option.some Jvm.ClassFile.FieldType.int)) ∈ nm_T := nm_tb 1438 (by decide +kernel) (by decide +kernel)
theorem mw_1439 : (Jvm.Cond.methodLink "RulePlateLaw" (116 : Nat) ({ cls := "RulePlateModel", name := "wish", desc := "(II)I" } : Jvm.MethodName)) ∈ nm_T := nm_tb 1439 (by decide +kernel) (by decide +kernel)
theorem mw_1440 : (Jvm.Cond.instanceMethod ({ cls := "RulePlateModel", name := "wish", desc := "(II)I" } : Jvm.MethodName)) ∈ nm_T := nm_tb 1440 (by decide +kernel) (by decide +kernel)
theorem mw_1442 : (Jvm.Cond.code ({ cls := "RulePlateModel", name := "wish", desc := "(II)I" } : Jvm.MethodName) prog_14_method_61_code (3 : Nat) (Option.some Jvm.ClassFile.FieldType.int)) ∈ nm_T := nm_tb 1442 (by decide +kernel) (by decide +kernel)
theorem mw_1444 : (Jvm.Cond.methodLink "RulePlateLaw" (120 : Nat) ({ cls := "RulePlateModel", name := "unwish", desc := "()I" } : Jvm.MethodName)) ∈ nm_T := nm_tb 1444 (by decide +kernel) (by decide +kernel)
theorem mw_1445 : (Jvm.Cond.instanceMethod ({ cls := "RulePlateModel", name := "unwish", desc := "()I" } : Jvm.MethodName)) ∈ nm_T := nm_tb 1445 (by decide +kernel) (by decide +kernel)
theorem mw_1447 : (Jvm.Cond.code ({ cls := "RulePlateModel", name := "unwish", desc := "()I" } : Jvm.MethodName) prog_14_method_62_code (2 : Nat) (Option.some Jvm.ClassFile.FieldType.int)) ∈ nm_T := nm_tb 1447 (by decide +kernel) (by decide +kernel)
theorem mw_1448 : (Jvm.Cond.methodLink "RulePlateLaw" (124 : Nat) ({ cls := "RulePlateModel", name := "same", desc := "()I" } : Jvm.MethodName)) ∈ nm_T := nm_tb 1448 (by decide +kernel) (by decide +kernel)
theorem mw_1449 : (Jvm.Cond.instanceMethod ({ cls := "RulePlateModel", name := "same", desc := "()I" } : Jvm.MethodName)) ∈ nm_T := nm_tb 1449 (by decide +kernel) (by decide +kernel)
theorem mw_1451 : (Jvm.Cond.code ({ cls := "RulePlateModel", name := "same", desc := "()I" } : Jvm.MethodName) prog_14_method_69_code (4 : Nat) (Option.some Jvm.ClassFile.FieldType.int)) ∈ nm_T := nm_tb 1451 (by decide +kernel) (by decide +kernel)
theorem mw_1476 : (Jvm.Cond.methodLink "RulePlateLaw" (128 : Nat) ({ cls := "RulePlateModel", name := "tries", desc := "()I" } : Jvm.MethodName)) ∈ nm_T := nm_tb 1476 (by decide +kernel) (by decide +kernel)
theorem mw_1477 : (Jvm.Cond.instanceMethod ({ cls := "RulePlateModel", name := "tries", desc := "()I" } : Jvm.MethodName)) ∈ nm_T := nm_tb 1477 (by decide +kernel) (by decide +kernel)
theorem mw_1479 : (Jvm.Cond.code ({ cls := "RulePlateModel", name := "tries", desc := "()I" } : Jvm.MethodName) prog_14_method_70_code (1 : Nat) (Option.some Jvm.ClassFile.FieldType.int)) ∈ nm_T := nm_tb 1479 (by decide +kernel) (by decide +kernel)
theorem mw_1480 : (Jvm.Cond.methodLink "RulePlateLaw" (132 : Nat) ({ cls := "RulePlateModel", name := "pair", desc := "(IZ)I" } : Jvm.MethodName)) ∈ nm_T := nm_tb 1480 (by decide +kernel) (by decide +kernel)
theorem mw_1481 : (Jvm.Cond.instanceMethod ({ cls := "RulePlateModel", name := "pair", desc := "(IZ)I" } : Jvm.MethodName)) ∈ nm_T := nm_tb 1481 (by decide +kernel) (by decide +kernel)
theorem mw_1483 : (Jvm.Cond.code ({ cls := "RulePlateModel", name := "pair", desc := "(IZ)I" } : Jvm.MethodName) prog_14_method_71_code (3 : Nat) (Option.some Jvm.ClassFile.FieldType.int)) ∈ nm_T := nm_tb 1483 (by decide +kernel) (by decide +kernel)
theorem mw_1484 : (Jvm.Cond.methodLink "RulePlateLaw" (136 : Nat) ({ cls := "RulePlateModel", name := "lay", desc := "(II)I" } : Jvm.MethodName)) ∈ nm_T := nm_tb 1484 (by decide +kernel) (by decide +kernel)
theorem mw_1485 : (Jvm.Cond.instanceMethod ({ cls := "RulePlateModel", name := "lay", desc := "(II)I" } : Jvm.MethodName)) ∈ nm_T := nm_tb 1485 (by decide +kernel) (by decide +kernel)
theorem mw_1487 : (Jvm.Cond.code ({ cls := "RulePlateModel", name := "lay", desc := "(II)I" } : Jvm.MethodName) prog_14_method_72_code (5 : Nat) (Option.some Jvm.ClassFile.FieldType.int)) ∈ nm_T := nm_tb 1487 (by decide +kernel) (by decide +kernel)
theorem mw_1488 : (Jvm.Cond.methodLink "RulePlateLaw" (140 : Nat) ({ cls := "RulePlateModel", name := "tear", desc := "()I" } : Jvm.MethodName)) ∈ nm_T := nm_tb 1488 (by decide +kernel) (by decide +kernel)
theorem mw_1489 : (Jvm.Cond.instanceMethod ({ cls := "RulePlateModel", name := "tear", desc := "()I" } : Jvm.MethodName)) ∈ nm_T := nm_tb 1489 (by decide +kernel) (by decide +kernel)
theorem mw_1491 : (Jvm.Cond.code ({ cls := "RulePlateModel", name := "tear", desc := "()I" } : Jvm.MethodName) prog_14_method_73_code (2 : Nat) (Option.some Jvm.ClassFile.FieldType.int)) ∈ nm_T := nm_tb 1491 (by decide +kernel) (by decide +kernel)
theorem mw_1492 : (Jvm.Cond.methodLink "RulePlateLaw" (144 : Nat) ({ cls := "RulePlateModel", name := "row", desc := "(I)I" } : Jvm.MethodName)) ∈ nm_T := nm_tb 1492 (by decide +kernel) (by decide +kernel)
theorem mw_1493 : (Jvm.Cond.instanceMethod ({ cls := "RulePlateModel", name := "row", desc := "(I)I" } : Jvm.MethodName)) ∈ nm_T := nm_tb 1493 (by decide +kernel) (by decide +kernel)
theorem mw_1495 : (Jvm.Cond.code ({ cls := "RulePlateModel", name := "row", desc := "(I)I" } : Jvm.MethodName) prog_14_method_74_code (2 : Nat) (Option.some Jvm.ClassFile.FieldType.int)) ∈ nm_T := nm_tb 1495 (by decide +kernel) (by decide +kernel)
theorem mw_1496 : (Jvm.Cond.methodLink "RulePlateLaw" (148 : Nat) ({ cls := "RulePlateModel", name := "copy", desc := "(III)I" } : Jvm.MethodName)) ∈ nm_T := nm_tb 1496 (by decide +kernel) (by decide +kernel)
theorem mw_1497 : (Jvm.Cond.instanceMethod ({ cls := "RulePlateModel", name := "copy", desc := "(III)I" } : Jvm.MethodName)) ∈ nm_T := nm_tb 1497 (by decide +kernel) (by decide +kernel)
theorem mw_1499 : (Jvm.Cond.code ({ cls := "RulePlateModel", name := "copy", desc := "(III)I" } : Jvm.MethodName) prog_14_method_75_code (5 : Nat) (Option.some Jvm.ClassFile.FieldType.int)) ∈ nm_T := nm_tb 1499 (by decide +kernel) (by decide +kernel)
theorem mw_1500 : (Jvm.Cond.methodLink "RulePlateLaw" (152 : Nat) ({ cls := "RulePlateModel", name := "status", desc := "(I)I" } : Jvm.MethodName)) ∈ nm_T := nm_tb 1500 (by decide +kernel) (by decide +kernel)
theorem mw_1501 : (Jvm.Cond.instanceMethod ({ cls := "RulePlateModel", name := "status", desc := "(I)I" } : Jvm.MethodName)) ∈ nm_T := nm_tb 1501 (by decide +kernel) (by decide +kernel)
theorem mw_1503 : (Jvm.Cond.code ({ cls := "RulePlateModel", name := "status", desc := "(I)I" } : Jvm.MethodName) prog_14_method_76_code (2 : Nat) (Option.some Jvm.ClassFile.FieldType.int)) ∈ nm_T := nm_tb 1503 (by decide +kernel) (by decide +kernel)
set_option maxHeartbeats 1000000 in
theorem lc_0 {D : va_G} {Y : nm_Y} {p : Program} {e : Env} {s : State} {m : MethodId} {below : List Frame} {meth : Method} {c : Code} {l : Launch} {b Lx : Nat} {xs : Nat → Int32} (hC : lw_K D Y p s m c b Lx xs) : lw_G D Y p e s m below meth c l b Lx xs 180 := by
  obtain ⟨hx, hb, hml, hown, hts, hK, hZ, hX, hbl⟩ := hC
  intro n nl ad adM K S I H locs cells slots ls hn hL3 hI kk
  obtain ⟨hH, hL, hR, hc, hs, hl⟩ := hI
  have hN : cl_N S.2 := hR.1.1
  have hp0 := pt_RR hR
  obtain ⟨r, M', K', I', e1, e2, hR'⟩ := s_box hR (xs (6 * n + 1)) (xs (6 * n + 2)) (xs (6 * n + 3)) (xs (6 * n + 4)) (decide (xs (6 * n + 5) ≠ 0))
  refine lv_aload_n hx hb dL_law_180 rfl (lv_at hl 1 rfl) ?_
  refine lw_ld (j := 1) hx hb hX hbl hH.2.2 hl hn hL3 (by decide) dL_law_181 dL_law_182 dL_law_183 dL_law_184 dL_law_185 ?_
  refine lw_ld (j := 2) hx hb hX hbl hH.2.2 hl hn hL3 (by decide) dL_law_186 dL_law_187 dL_law_188 dL_law_189 dL_law_190 ?_
  refine lw_ld (j := 3) hx hb hX hbl hH.2.2 hl hn hL3 (by decide) dL_law_191 dL_law_192 dL_law_193 dL_law_194 dL_law_195 ?_
  refine lw_ld (j := 4) hx hb hX hbl hH.2.2 hl hn hL3 (by decide) dL_law_196 dL_law_197 dL_law_198 dL_law_199 dL_law_200 ?_
  refine lw_ld (j := 5) hx hb hX hbl hH.2.2 hl hn hL3 (by decide) dL_law_201 dL_law_202 dL_law_203 dL_law_204 dL_law_205 ?_
  refine lw_bool hx hb dL_law_206 dL_law_209 dL_law_210 dL_law_213 ?_
  refine mk_calli (nm_runV (nn := 0) (As := [.int ((xs (6 * n + 1))), .int ((xs (6 * n + 2))), .int ((xs (6 * n + 3))), .int ((xs (6 * n + 4))), .int (bq (decide (xs (6 * n + 5) ≠ 0)))]) (k_X11_box (X := nm_w moN adM (nm_E Y adM (I, nJ0, moZ))) (nl := nl) hL hN (hf := e1)) hx hb hml hown hts (Nat.le_refl _) hK hZ hH mw_318 mw_315 mw_316 sw_X11_box tw_1 hd_X11_box (cl_n0 hL) (cl_k0 hL) (by decide) rfl rfl rfl ⟨Nat.le_of_ble_eq_true rfl, Nat.le_of_ble_eq_true rfl⟩ rfl hl.1 rfl (Nat.le_of_ble_eq_true rfl) dL_law_214 ⟨by show cells + 1 ≤ 600000; omega, by show slots + 9 ≤ 7302250; omega⟩) hH (fun nl1 ad1 hL1 ha1 H locs hH => ?_)
  have hl : lv_has ls 4 [(0, .ref b), (1, .ref (ad1 0)), (2, .ref (adM 0)), (3, .int (zI (6 * (n : Int))))] := by rw [ha1 0 lw_n0]; exact hl
  have hH := lw_swap hH
  refine lv_aload_n hx hb dL_law_217 rfl (lv_at hl 2 rfl) ?_
  refine lw_ld (j := 1) hx hb hX hbl hH.2.2 hl hn hL3 (by decide) dL_law_218 dL_law_219 dL_law_220 dL_law_221 dL_law_222 ?_
  refine lw_ld (j := 2) hx hb hX hbl hH.2.2 hl hn hL3 (by decide) dL_law_223 dL_law_224 dL_law_225 dL_law_226 dL_law_227 ?_
  refine lw_ld (j := 3) hx hb hX hbl hH.2.2 hl hn hL3 (by decide) dL_law_228 dL_law_229 dL_law_230 dL_law_231 dL_law_232 ?_
  refine lw_ld (j := 4) hx hb hX hbl hH.2.2 hl hn hL3 (by decide) dL_law_233 dL_law_234 dL_law_235 dL_law_236 dL_law_237 ?_
  refine lw_ld (j := 5) hx hb hX hbl hH.2.2 hl hn hL3 (by decide) dL_law_238 dL_law_239 dL_law_240 dL_law_241 dL_law_242 ?_
  refine lw_bool hx hb dL_law_243 dL_law_246 dL_law_247 dL_law_250 ?_
  refine nm_calli (nm_runV (nn := 0) (As := [.int ((xs (6 * n + 1))), .int ((xs (6 * n + 2))), .int ((xs (6 * n + 3))), .int ((xs (6 * n + 4))), .int (bq (decide (xs (6 * n + 5) ≠ 0)))]) (k_X12_box (ad := adM) (hf := e2)) hx hb hml hown hts (Nat.le_refl _) hK hZ hH mw_1200 mw_1197 mw_1198 sw_X12_box tw_9 hd_X12_box mo_n0 mo_k0 (by decide) rfl rfl rfl ⟨Nat.le_of_ble_eq_true rfl, Nat.le_of_ble_eq_true rfl⟩ rfl hl.1 rfl (Nat.le_of_ble_eq_true rfl) dL_law_251 ⟨by show cells + 1 + 0 ≤ 600000; omega, by show slots + 9 + 0 ≤ 7302250; omega⟩) hH (fun H locs hH => ?_)
  have hH := lw_swap hH
  refine lv_icmp_eq (tgt := 1373) hx hb dL_law_254 (by decide) (fun c9 => ?_) (fun c9 => absurd rfl c9)
  exact kk nl1 ad1 adM K' (M', S.2) I' H locs (cells + 1) (slots + 9) ls ⟨hH, hL1, hR', by show _ ≤ _ + 2 * pt S.2; omega, by show _ ≤ _ + 2 * pt S.2; omega, hl⟩
set_option maxHeartbeats 1000000 in
theorem lc_1 {D : va_G} {Y : nm_Y} {p : Program} {e : Env} {s : State} {m : MethodId} {below : List Frame} {meth : Method} {c : Code} {l : Launch} {b Lx : Nat} {xs : Nat → Int32} (hC : lw_K D Y p s m c b Lx xs) : lw_G D Y p e s m below meth c l b Lx xs 259 := by
  obtain ⟨hx, hb, hml, hown, hts, hK, hZ, hX, hbl⟩ := hC
  intro n nl ad adM K S I H locs cells slots ls hn hL3 hI kk
  obtain ⟨hH, hL, hR, hc, hs, hl⟩ := hI
  have hN : cl_N S.2 := hR.1.1
  have hp0 := pt_RR hR
  obtain ⟨r, M', K', I', e1, e2, hR'⟩ := s_path hR (xs (6 * n + 1)) (xs (6 * n + 2)) (xs (6 * n + 3)) (xs (6 * n + 4)) (xs (6 * n + 5))
  refine lv_aload_n hx hb dL_law_259 rfl (lv_at hl 1 rfl) ?_
  refine lw_ld (j := 1) hx hb hX hbl hH.2.2 hl hn hL3 (by decide) dL_law_260 dL_law_261 dL_law_262 dL_law_263 dL_law_264 ?_
  refine lw_ld (j := 2) hx hb hX hbl hH.2.2 hl hn hL3 (by decide) dL_law_265 dL_law_266 dL_law_267 dL_law_268 dL_law_269 ?_
  refine lw_ld (j := 3) hx hb hX hbl hH.2.2 hl hn hL3 (by decide) dL_law_270 dL_law_271 dL_law_272 dL_law_273 dL_law_274 ?_
  refine lw_ld (j := 4) hx hb hX hbl hH.2.2 hl hn hL3 (by decide) dL_law_275 dL_law_276 dL_law_277 dL_law_278 dL_law_279 ?_
  refine lw_ld (j := 5) hx hb hX hbl hH.2.2 hl hn hL3 (by decide) dL_law_280 dL_law_281 dL_law_282 dL_law_283 dL_law_284 ?_
  refine mk_calli (nm_runV (nn := 0) (As := [.int ((xs (6 * n + 1))), .int ((xs (6 * n + 2))), .int ((xs (6 * n + 3))), .int ((xs (6 * n + 4))), .int ((xs (6 * n + 5)))]) (k_X11_path (X := nm_w moN adM (nm_E Y adM (I, nJ0, moZ))) (nl := nl) hL hN (hf := e1)) hx hb hml hown hts (Nat.le_refl _) hK hZ hH mw_395 mw_392 mw_393 sw_X11_path tw_1 hd_X11_path (cl_n0 hL) (cl_k0 hL) (by decide) rfl rfl rfl ⟨Nat.le_of_ble_eq_true rfl, Nat.le_of_ble_eq_true rfl⟩ rfl hl.1 rfl (Nat.le_of_ble_eq_true rfl) dL_law_285 ⟨by show cells + 1 ≤ 600000; omega, by show slots + 9 ≤ 7302250; omega⟩) hH (fun nl1 ad1 hL1 ha1 H locs hH => ?_)
  have hl : lv_has ls 4 [(0, .ref b), (1, .ref (ad1 0)), (2, .ref (adM 0)), (3, .int (zI (6 * (n : Int))))] := by rw [ha1 0 lw_n0]; exact hl
  have hH := lw_swap hH
  refine lv_aload_n hx hb dL_law_288 rfl (lv_at hl 2 rfl) ?_
  refine lw_ld (j := 1) hx hb hX hbl hH.2.2 hl hn hL3 (by decide) dL_law_289 dL_law_290 dL_law_291 dL_law_292 dL_law_293 ?_
  refine lw_ld (j := 2) hx hb hX hbl hH.2.2 hl hn hL3 (by decide) dL_law_294 dL_law_295 dL_law_296 dL_law_297 dL_law_298 ?_
  refine lw_ld (j := 3) hx hb hX hbl hH.2.2 hl hn hL3 (by decide) dL_law_299 dL_law_300 dL_law_301 dL_law_302 dL_law_303 ?_
  refine lw_ld (j := 4) hx hb hX hbl hH.2.2 hl hn hL3 (by decide) dL_law_304 dL_law_305 dL_law_306 dL_law_307 dL_law_308 ?_
  refine lw_ld (j := 5) hx hb hX hbl hH.2.2 hl hn hL3 (by decide) dL_law_309 dL_law_310 dL_law_311 dL_law_312 dL_law_313 ?_
  refine nm_calli (nm_runV (nn := 0) (As := [.int ((xs (6 * n + 1))), .int ((xs (6 * n + 2))), .int ((xs (6 * n + 3))), .int ((xs (6 * n + 4))), .int ((xs (6 * n + 5)))]) (k_X12_path (ad := adM) (hf := e2)) hx hb hml hown hts (Nat.le_refl _) hK hZ hH mw_1223 mw_1220 mw_1221 sw_X12_path tw_9 hd_X12_path mo_n0 mo_k0 (by decide) rfl rfl rfl ⟨Nat.le_of_ble_eq_true rfl, Nat.le_of_ble_eq_true rfl⟩ rfl hl.1 rfl (Nat.le_of_ble_eq_true rfl) dL_law_314 ⟨by show cells + 1 + 0 ≤ 600000; omega, by show slots + 9 + 0 ≤ 7302250; omega⟩) hH (fun H locs hH => ?_)
  have hH := lw_swap hH
  refine lv_icmp_eq (tgt := 1373) hx hb dL_law_317 (by decide) (fun c9 => ?_) (fun c9 => absurd rfl c9)
  exact kk nl1 ad1 adM K' (M', S.2) I' H locs (cells + 1) (slots + 9) ls ⟨hH, hL1, hR', by show _ ≤ _ + 2 * pt S.2; omega, by show _ ≤ _ + 2 * pt S.2; omega, hl⟩
set_option maxHeartbeats 1000000 in
theorem lc_2 {D : va_G} {Y : nm_Y} {p : Program} {e : Env} {s : State} {m : MethodId} {below : List Frame} {meth : Method} {c : Code} {l : Launch} {b Lx : Nat} {xs : Nat → Int32} (hC : lw_K D Y p s m c b Lx xs) : lw_G D Y p e s m below meth c l b Lx xs 322 := by
  obtain ⟨hx, hb, hml, hown, hts, hK, hZ, hX, hbl⟩ := hC
  intro n nl ad adM K S I H locs cells slots ls hn hL3 hI kk
  obtain ⟨hH, hL, hR, hc, hs, hl⟩ := hI
  have hN : cl_N S.2 := hR.1.1
  have hp0 := pt_RR hR
  obtain ⟨r, M', K', I', e1, e2, hR'⟩ := s_text hR (xs (6 * n + 1)) (xs (6 * n + 2)) (xs (6 * n + 3)) (xs (6 * n + 4))
  refine lv_aload_n hx hb dL_law_322 rfl (lv_at hl 1 rfl) ?_
  refine lw_ld (j := 1) hx hb hX hbl hH.2.2 hl hn hL3 (by decide) dL_law_323 dL_law_324 dL_law_325 dL_law_326 dL_law_327 ?_
  refine lw_ld (j := 2) hx hb hX hbl hH.2.2 hl hn hL3 (by decide) dL_law_328 dL_law_329 dL_law_330 dL_law_331 dL_law_332 ?_
  refine lw_ld (j := 3) hx hb hX hbl hH.2.2 hl hn hL3 (by decide) dL_law_333 dL_law_334 dL_law_335 dL_law_336 dL_law_337 ?_
  refine lw_ld (j := 4) hx hb hX hbl hH.2.2 hl hn hL3 (by decide) dL_law_338 dL_law_339 dL_law_340 dL_law_341 dL_law_342 ?_
  refine mk_calli (nm_runV (nn := 0) (As := [.int ((xs (6 * n + 1))), .int ((xs (6 * n + 2))), .int ((xs (6 * n + 3))), .int ((xs (6 * n + 4)))]) (k_X11_text (X := nm_w moN adM (nm_E Y adM (I, nJ0, moZ))) (nl := nl) hL hN (hf := e1)) hx hb hml hown hts (Nat.le_refl _) hK hZ hH mw_401 mw_398 mw_399 sw_X11_text tw_1 hd_X11_text (cl_n0 hL) (cl_k0 hL) (by decide) rfl rfl rfl ⟨Nat.le_of_ble_eq_true rfl, Nat.le_of_ble_eq_true rfl⟩ rfl hl.1 rfl (Nat.le_of_ble_eq_true rfl) dL_law_343 ⟨by show cells + 1 ≤ 600000; omega, by show slots + 9 ≤ 7302250; omega⟩) hH (fun nl1 ad1 hL1 ha1 H locs hH => ?_)
  have hl : lv_has ls 4 [(0, .ref b), (1, .ref (ad1 0)), (2, .ref (adM 0)), (3, .int (zI (6 * (n : Int))))] := by rw [ha1 0 lw_n0]; exact hl
  have hH := lw_swap hH
  refine lv_aload_n hx hb dL_law_346 rfl (lv_at hl 2 rfl) ?_
  refine lw_ld (j := 1) hx hb hX hbl hH.2.2 hl hn hL3 (by decide) dL_law_347 dL_law_348 dL_law_349 dL_law_350 dL_law_351 ?_
  refine lw_ld (j := 2) hx hb hX hbl hH.2.2 hl hn hL3 (by decide) dL_law_352 dL_law_353 dL_law_354 dL_law_355 dL_law_356 ?_
  refine lw_ld (j := 3) hx hb hX hbl hH.2.2 hl hn hL3 (by decide) dL_law_357 dL_law_358 dL_law_359 dL_law_360 dL_law_361 ?_
  refine lw_ld (j := 4) hx hb hX hbl hH.2.2 hl hn hL3 (by decide) dL_law_362 dL_law_363 dL_law_364 dL_law_365 dL_law_366 ?_
  refine nm_calli (nm_runV (nn := 0) (As := [.int ((xs (6 * n + 1))), .int ((xs (6 * n + 2))), .int ((xs (6 * n + 3))), .int ((xs (6 * n + 4)))]) (k_X12_text (ad := adM) (hf := e2)) hx hb hml hown hts (Nat.le_refl _) hK hZ hH mw_1228 mw_1225 mw_1226 sw_X12_text tw_9 hd_X12_text mo_n0 mo_k0 (by decide) rfl rfl rfl ⟨Nat.le_of_ble_eq_true rfl, Nat.le_of_ble_eq_true rfl⟩ rfl hl.1 rfl (Nat.le_of_ble_eq_true rfl) dL_law_367 ⟨by show cells + 1 + 0 ≤ 600000; omega, by show slots + 9 + 0 ≤ 7302250; omega⟩) hH (fun H locs hH => ?_)
  have hH := lw_swap hH
  refine lv_icmp_eq (tgt := 1373) hx hb dL_law_370 (by decide) (fun c9 => ?_) (fun c9 => absurd rfl c9)
  exact kk nl1 ad1 adM K' (M', S.2) I' H locs (cells + 1) (slots + 9) ls ⟨hH, hL1, hR', by show _ ≤ _ + 2 * pt S.2; omega, by show _ ≤ _ + 2 * pt S.2; omega, hl⟩
set_option maxHeartbeats 1000000 in
theorem lc_3 {D : va_G} {Y : nm_Y} {p : Program} {e : Env} {s : State} {m : MethodId} {below : List Frame} {meth : Method} {c : Code} {l : Launch} {b Lx : Nat} {xs : Nat → Int32} (hC : lw_K D Y p s m c b Lx xs) : lw_G D Y p e s m below meth c l b Lx xs 375 := by
  obtain ⟨hx, hb, hml, hown, hts, hK, hZ, hX, hbl⟩ := hC
  intro n nl ad adM K S I H locs cells slots ls hn hL3 hI kk
  obtain ⟨hH, hL, hR, hc, hs, hl⟩ := hI
  have hN : cl_N S.2 := hR.1.1
  have hp0 := pt_RR hR
  obtain ⟨r, M', K', I', e1, e2, hR'⟩ := s_put hR (xs (6 * n + 1)) (xs (6 * n + 2)) (xs (6 * n + 3)) (xs (6 * n + 4)) (decide (xs (6 * n + 5) ≠ 0))
  refine lv_aload_n hx hb dL_law_375 rfl (lv_at hl 1 rfl) ?_
  refine lw_ld (j := 1) hx hb hX hbl hH.2.2 hl hn hL3 (by decide) dL_law_376 dL_law_377 dL_law_378 dL_law_379 dL_law_380 ?_
  refine lw_ld (j := 2) hx hb hX hbl hH.2.2 hl hn hL3 (by decide) dL_law_381 dL_law_382 dL_law_383 dL_law_384 dL_law_385 ?_
  refine lw_ld (j := 3) hx hb hX hbl hH.2.2 hl hn hL3 (by decide) dL_law_386 dL_law_387 dL_law_388 dL_law_389 dL_law_390 ?_
  refine lw_ld (j := 4) hx hb hX hbl hH.2.2 hl hn hL3 (by decide) dL_law_391 dL_law_392 dL_law_393 dL_law_394 dL_law_395 ?_
  refine lw_ld (j := 5) hx hb hX hbl hH.2.2 hl hn hL3 (by decide) dL_law_396 dL_law_397 dL_law_398 dL_law_399 dL_law_400 ?_
  refine lw_bool hx hb dL_law_401 dL_law_404 dL_law_405 dL_law_408 ?_
  refine mk_calli (nm_runV (nn := 0) (As := [.int ((xs (6 * n + 1))), .int ((xs (6 * n + 2))), .int ((xs (6 * n + 3))), .int ((xs (6 * n + 4))), .int (bq (decide (xs (6 * n + 5) ≠ 0)))]) (k_X11_put (X := nm_w moN adM (nm_E Y adM (I, nJ0, moZ))) (nl := nl) hL hN (hx5 := lw_bz _) (hf := e1)) hx hb hml hown hts (Nat.le_refl _) hK hZ hH mw_422 mw_419 mw_420 sw_X11_put tw_1 hd_X11_put (cl_n0 hL) (cl_k0 hL) (by decide) rfl rfl rfl ⟨Nat.le_of_ble_eq_true rfl, Nat.le_of_ble_eq_true rfl⟩ rfl hl.1 rfl (Nat.le_of_ble_eq_true rfl) dL_law_409 ⟨by show cells + 1 ≤ 600000; omega, by show slots + 9 ≤ 7302250; omega⟩) hH (fun nl1 ad1 hL1 ha1 H locs hH => ?_)
  have hl : lv_has ls 4 [(0, .ref b), (1, .ref (ad1 0)), (2, .ref (adM 0)), (3, .int (zI (6 * (n : Int))))] := by rw [ha1 0 lw_n0]; exact hl
  have hH := lw_swap hH
  refine lv_aload_n hx hb dL_law_412 rfl (lv_at hl 2 rfl) ?_
  refine lw_ld (j := 1) hx hb hX hbl hH.2.2 hl hn hL3 (by decide) dL_law_413 dL_law_414 dL_law_415 dL_law_416 dL_law_417 ?_
  refine lw_ld (j := 2) hx hb hX hbl hH.2.2 hl hn hL3 (by decide) dL_law_418 dL_law_419 dL_law_420 dL_law_421 dL_law_422 ?_
  refine lw_ld (j := 3) hx hb hX hbl hH.2.2 hl hn hL3 (by decide) dL_law_423 dL_law_424 dL_law_425 dL_law_426 dL_law_427 ?_
  refine lw_ld (j := 4) hx hb hX hbl hH.2.2 hl hn hL3 (by decide) dL_law_428 dL_law_429 dL_law_430 dL_law_431 dL_law_432 ?_
  refine lw_ld (j := 5) hx hb hX hbl hH.2.2 hl hn hL3 (by decide) dL_law_433 dL_law_434 dL_law_435 dL_law_436 dL_law_437 ?_
  refine lw_bool hx hb dL_law_438 dL_law_441 dL_law_442 dL_law_445 ?_
  refine nm_calli (nm_runV (nn := 0) (As := [.int ((xs (6 * n + 1))), .int ((xs (6 * n + 2))), .int ((xs (6 * n + 3))), .int ((xs (6 * n + 4))), .int (bq (decide (xs (6 * n + 5) ≠ 0)))]) (k_X12_put (ad := adM) (hf := e2)) hx hb hml hown hts (Nat.le_refl _) hK hZ hH mw_1236 mw_1233 mw_1234 sw_X12_put tw_9 hd_X12_put mo_n0 mo_k0 (by decide) rfl rfl rfl ⟨Nat.le_of_ble_eq_true rfl, Nat.le_of_ble_eq_true rfl⟩ rfl hl.1 rfl (Nat.le_of_ble_eq_true rfl) dL_law_446 ⟨by show cells + 1 + 0 ≤ 600000; omega, by show slots + 9 + 0 ≤ 7302250; omega⟩) hH (fun H locs hH => ?_)
  have hH := lw_swap hH
  refine lv_icmp_eq (tgt := 1373) hx hb dL_law_449 (by decide) (fun c9 => ?_) (fun c9 => absurd rfl c9)
  exact kk nl1 ad1 adM K' (M', S.2) I' H locs (cells + 1) (slots + 9) ls ⟨hH, hL1, hR', by show _ ≤ _ + 2 * pt S.2; omega, by show _ ≤ _ + 2 * pt S.2; omega, hl⟩
set_option maxHeartbeats 1000000 in
theorem lc_4 {D : va_G} {Y : nm_Y} {p : Program} {e : Env} {s : State} {m : MethodId} {below : List Frame} {meth : Method} {c : Code} {l : Launch} {b Lx : Nat} {xs : Nat → Int32} (hC : lw_K D Y p s m c b Lx xs) : lw_G D Y p e s m below meth c l b Lx xs 454 := by
  obtain ⟨hx, hb, hml, hown, hts, hK, hZ, hX, hbl⟩ := hC
  intro n nl ad adM K S I H locs cells slots ls hn hL3 hI kk
  obtain ⟨hH, hL, hR, hc, hs, hl⟩ := hI
  have hN : cl_N S.2 := hR.1.1
  have hp0 := pt_RR hR
  obtain ⟨r, M', I', e1, e2, hR'⟩ := s_times hR (xs (6 * n + 1)) (xs (6 * n + 2)) (xs (6 * n + 3)) (xs (6 * n + 4))
  refine lv_aload_n hx hb dL_law_454 rfl (lv_at hl 1 rfl) ?_
  refine lw_ld (j := 1) hx hb hX hbl hH.2.2 hl hn hL3 (by decide) dL_law_455 dL_law_456 dL_law_457 dL_law_458 dL_law_459 ?_
  refine lw_ld (j := 2) hx hb hX hbl hH.2.2 hl hn hL3 (by decide) dL_law_460 dL_law_461 dL_law_462 dL_law_463 dL_law_464 ?_
  refine lw_ld (j := 3) hx hb hX hbl hH.2.2 hl hn hL3 (by decide) dL_law_465 dL_law_466 dL_law_467 dL_law_468 dL_law_469 ?_
  refine lw_ld (j := 4) hx hb hX hbl hH.2.2 hl hn hL3 (by decide) dL_law_470 dL_law_471 dL_law_472 dL_law_473 dL_law_474 ?_
  refine nm_calli (nm_runV (nn := 0) (As := [.int ((xs (6 * n + 1))), .int ((xs (6 * n + 2))), .int ((xs (6 * n + 3))), .int ((xs (6 * n + 4)))]) (k_X11_times (X := nm_w moN adM (nm_E Y adM (I, nJ0, moZ))) (nl := nl) hL hN (hf := e1)) hx hb hml hown hts (Nat.le_refl _) hK hZ hH mw_456 mw_453 mw_454 sw_X11_times tw_1 hd_X11_times (cl_n0 hL) (cl_k0 hL) (by decide) rfl rfl rfl ⟨Nat.le_of_ble_eq_true rfl, Nat.le_of_ble_eq_true rfl⟩ rfl hl.1 rfl (Nat.le_of_ble_eq_true rfl) dL_law_475 ⟨by show cells + 0 ≤ 600000; omega, by show slots + 0 ≤ 7302250; omega⟩) hH (fun H locs hH => ?_)
  have hH := lw_swap hH
  refine lv_aload_n hx hb dL_law_478 rfl (lv_at hl 2 rfl) ?_
  refine lw_ld (j := 1) hx hb hX hbl hH.2.2 hl hn hL3 (by decide) dL_law_479 dL_law_480 dL_law_481 dL_law_482 dL_law_483 ?_
  refine lw_ld (j := 2) hx hb hX hbl hH.2.2 hl hn hL3 (by decide) dL_law_484 dL_law_485 dL_law_486 dL_law_487 dL_law_488 ?_
  refine lw_ld (j := 3) hx hb hX hbl hH.2.2 hl hn hL3 (by decide) dL_law_489 dL_law_490 dL_law_491 dL_law_492 dL_law_493 ?_
  refine lw_ld (j := 4) hx hb hX hbl hH.2.2 hl hn hL3 (by decide) dL_law_494 dL_law_495 dL_law_496 dL_law_497 dL_law_498 ?_
  refine nm_calli (nm_runV (nn := 0) (As := [.int ((xs (6 * n + 1))), .int ((xs (6 * n + 2))), .int ((xs (6 * n + 3))), .int ((xs (6 * n + 4)))]) (k_X12_times (ad := adM) (hf := e2)) hx hb hml hown hts (Nat.le_refl _) hK hZ hH mw_1241 mw_1238 mw_1239 sw_X12_times tw_9 hd_X12_times mo_n0 mo_k0 (by decide) rfl rfl rfl ⟨Nat.le_of_ble_eq_true rfl, Nat.le_of_ble_eq_true rfl⟩ rfl hl.1 rfl (Nat.le_of_ble_eq_true rfl) dL_law_499 ⟨by show cells + 0 ≤ 600000; omega, by show slots + 0 ≤ 7302250; omega⟩) hH (fun H locs hH => ?_)
  have hH := lw_swap hH
  refine lv_icmp_eq (tgt := 1373) hx hb dL_law_502 (by decide) (fun c9 => ?_) (fun c9 => absurd rfl c9)
  exact kk nl ad adM K (M', S.2) I' H locs cells slots ls ⟨hH, hL, hR', by show _ ≤ _ + 2 * pt S.2; omega, by show _ ≤ _ + 2 * pt S.2; omega, hl⟩
set_option maxHeartbeats 1000000 in
theorem lc_5 {D : va_G} {Y : nm_Y} {p : Program} {e : Env} {s : State} {m : MethodId} {below : List Frame} {meth : Method} {c : Code} {l : Launch} {b Lx : Nat} {xs : Nat → Int32} (hC : lw_K D Y p s m c b Lx xs) : lw_G D Y p e s m below meth c l b Lx xs 507 := by
  obtain ⟨hx, hb, hml, hown, hts, hK, hZ, hX, hbl⟩ := hC
  intro n nl ad adM K S I H locs cells slots ls hn hL3 hI kk
  obtain ⟨hH, hL, hR, hc, hs, hl⟩ := hI
  have hN : cl_N S.2 := hR.1.1
  have hp0 := pt_RR hR
  obtain ⟨r, M', I', e1, e2, hR'⟩ := s_undo hR (xs (6 * n + 1))
  refine lv_aload_n hx hb dL_law_507 rfl (lv_at hl 1 rfl) ?_
  refine lw_ld (j := 1) hx hb hX hbl hH.2.2 hl hn hL3 (by decide) dL_law_508 dL_law_509 dL_law_510 dL_law_511 dL_law_512 ?_
  refine nm_calli (nm_runV (nn := 0) (As := [.int ((xs (6 * n + 1)))]) (k_X11_undo (X := nm_w moN adM (nm_E Y adM (I, nJ0, moZ))) (nl := nl) hL hN (hf := e1)) hx hb hml hown hts (Nat.le_refl _) hK hZ hH mw_467 mw_464 mw_465 sw_X11_undo tw_1 hd_X11_undo (cl_n0 hL) (cl_k0 hL) (by decide) rfl rfl rfl ⟨Nat.le_of_ble_eq_true rfl, Nat.le_of_ble_eq_true rfl⟩ rfl hl.1 rfl (Nat.le_of_ble_eq_true rfl) dL_law_513 ⟨by show cells + 0 ≤ 600000; omega, by show slots + 0 ≤ 7302250; omega⟩) hH (fun H locs hH => ?_)
  have hH := lw_swap hH
  refine lv_aload_n hx hb dL_law_516 rfl (lv_at hl 2 rfl) ?_
  refine lw_ld (j := 1) hx hb hX hbl hH.2.2 hl hn hL3 (by decide) dL_law_517 dL_law_518 dL_law_519 dL_law_520 dL_law_521 ?_
  refine nm_calli (nm_runV (nn := 0) (As := [.int ((xs (6 * n + 1)))]) (k_X12_undo (ad := adM) (hf := e2)) hx hb hml hown hts (Nat.le_refl _) hK hZ hH mw_1255 mw_1252 mw_1253 sw_X12_undo tw_9 hd_X12_undo mo_n0 mo_k0 (by decide) rfl rfl rfl ⟨Nat.le_of_ble_eq_true rfl, Nat.le_of_ble_eq_true rfl⟩ rfl hl.1 rfl (Nat.le_of_ble_eq_true rfl) dL_law_522 ⟨by show cells + 0 ≤ 600000; omega, by show slots + 0 ≤ 7302250; omega⟩) hH (fun H locs hH => ?_)
  have hH := lw_swap hH
  refine lv_icmp_eq (tgt := 1373) hx hb dL_law_525 (by decide) (fun c9 => ?_) (fun c9 => absurd rfl c9)
  exact kk nl ad adM K (M', S.2) I' H locs cells slots ls ⟨hH, hL, hR', by show _ ≤ _ + 2 * pt S.2; omega, by show _ ≤ _ + 2 * pt S.2; omega, hl⟩
set_option maxHeartbeats 1000000 in
theorem lc_6 {D : va_G} {Y : nm_Y} {p : Program} {e : Env} {s : State} {m : MethodId} {below : List Frame} {meth : Method} {c : Code} {l : Launch} {b Lx : Nat} {xs : Nat → Int32} (hC : lw_K D Y p s m c b Lx xs) : lw_G D Y p e s m below meth c l b Lx xs 530 := by
  obtain ⟨hx, hb, hml, hown, hts, hK, hZ, hX, hbl⟩ := hC
  intro n nl ad adM K S I H locs cells slots ls hn hL3 hI kk
  obtain ⟨hH, hL, hR, hc, hs, hl⟩ := hI
  have hN : cl_N S.2 := hR.1.1
  have hp0 := pt_RR hR
  obtain ⟨r, M', I', e1, e2, hR'⟩ := s_shape hR (xs (6 * n + 1)) (xs (6 * n + 2)) (xs (6 * n + 3))
  refine lv_aload_n hx hb dL_law_530 rfl (lv_at hl 1 rfl) ?_
  refine lw_ld (j := 1) hx hb hX hbl hH.2.2 hl hn hL3 (by decide) dL_law_531 dL_law_532 dL_law_533 dL_law_534 dL_law_535 ?_
  refine lw_ld (j := 2) hx hb hX hbl hH.2.2 hl hn hL3 (by decide) dL_law_536 dL_law_537 dL_law_538 dL_law_539 dL_law_540 ?_
  refine lw_ld (j := 3) hx hb hX hbl hH.2.2 hl hn hL3 (by decide) dL_law_541 dL_law_542 dL_law_543 dL_law_544 dL_law_545 ?_
  refine nm_calli (nm_runV (nn := 0) (As := [.int ((xs (6 * n + 1))), .int ((xs (6 * n + 2))), .int ((xs (6 * n + 3)))]) (k_X11_shape (X := nm_w moN adM (nm_E Y adM (I, nJ0, moZ))) (nl := nl) hL hN (hf := e1)) hx hb hml hown hts (Nat.le_refl _) hK hZ hH mw_471 mw_468 mw_469 sw_X11_shape tw_1 hd_X11_shape (cl_n0 hL) (cl_k0 hL) (by decide) rfl rfl rfl ⟨Nat.le_of_ble_eq_true rfl, Nat.le_of_ble_eq_true rfl⟩ rfl hl.1 rfl (Nat.le_of_ble_eq_true rfl) dL_law_546 ⟨by show cells + 0 ≤ 600000; omega, by show slots + 0 ≤ 7302250; omega⟩) hH (fun H locs hH => ?_)
  have hH := lw_swap hH
  refine lv_aload_n hx hb dL_law_549 rfl (lv_at hl 2 rfl) ?_
  refine lw_ld (j := 1) hx hb hX hbl hH.2.2 hl hn hL3 (by decide) dL_law_550 dL_law_551 dL_law_552 dL_law_553 dL_law_554 ?_
  refine lw_ld (j := 2) hx hb hX hbl hH.2.2 hl hn hL3 (by decide) dL_law_555 dL_law_556 dL_law_557 dL_law_558 dL_law_559 ?_
  refine lw_ld (j := 3) hx hb hX hbl hH.2.2 hl hn hL3 (by decide) dL_law_560 dL_law_561 dL_law_562 dL_law_563 dL_law_564 ?_
  refine nm_calli (nm_runV (nn := 0) (As := [.int ((xs (6 * n + 1))), .int ((xs (6 * n + 2))), .int ((xs (6 * n + 3)))]) (k_X12_shape (ad := adM) (hf := e2)) hx hb hml hown hts (Nat.le_refl _) hK hZ hH mw_1259 mw_1256 mw_1257 sw_X12_shape tw_9 hd_X12_shape mo_n0 mo_k0 (by decide) rfl rfl rfl ⟨Nat.le_of_ble_eq_true rfl, Nat.le_of_ble_eq_true rfl⟩ rfl hl.1 rfl (Nat.le_of_ble_eq_true rfl) dL_law_565 ⟨by show cells + 0 ≤ 600000; omega, by show slots + 0 ≤ 7302250; omega⟩) hH (fun H locs hH => ?_)
  have hH := lw_swap hH
  refine lv_icmp_eq (tgt := 1373) hx hb dL_law_568 (by decide) (fun c9 => ?_) (fun c9 => absurd rfl c9)
  exact kk nl ad adM K (M', S.2) I' H locs cells slots ls ⟨hH, hL, hR', by show _ ≤ _ + 2 * pt S.2; omega, by show _ ≤ _ + 2 * pt S.2; omega, hl⟩
set_option maxHeartbeats 1000000 in
theorem lc_7 {D : va_G} {Y : nm_Y} {p : Program} {e : Env} {s : State} {m : MethodId} {below : List Frame} {meth : Method} {c : Code} {l : Launch} {b Lx : Nat} {xs : Nat → Int32} (hC : lw_K D Y p s m c b Lx xs) : lw_G D Y p e s m below meth c l b Lx xs 573 := by
  obtain ⟨hx, hb, hml, hown, hts, hK, hZ, hX, hbl⟩ := hC
  intro n nl ad adM K S I H locs cells slots ls hn hL3 hI kk
  obtain ⟨hH, hL, hR, hc, hs, hl⟩ := hI
  have hN : cl_N S.2 := hR.1.1
  have hp0 := pt_RR hR
  obtain ⟨r, M', I', e1, e2, hR'⟩ := s_made hR (xs (6 * n + 1)) (xs (6 * n + 2)) (xs (6 * n + 3)) (xs (6 * n + 4))
  refine lv_aload_n hx hb dL_law_573 rfl (lv_at hl 1 rfl) ?_
  refine lw_ld (j := 1) hx hb hX hbl hH.2.2 hl hn hL3 (by decide) dL_law_574 dL_law_575 dL_law_576 dL_law_577 dL_law_578 ?_
  refine lw_ld (j := 2) hx hb hX hbl hH.2.2 hl hn hL3 (by decide) dL_law_579 dL_law_580 dL_law_581 dL_law_582 dL_law_583 ?_
  refine lw_ld (j := 3) hx hb hX hbl hH.2.2 hl hn hL3 (by decide) dL_law_584 dL_law_585 dL_law_586 dL_law_587 dL_law_588 ?_
  refine lw_ld (j := 4) hx hb hX hbl hH.2.2 hl hn hL3 (by decide) dL_law_589 dL_law_590 dL_law_591 dL_law_592 dL_law_593 ?_
  refine nm_calli (nm_runV (nn := 0) (As := [.int ((xs (6 * n + 1))), .int ((xs (6 * n + 2))), .int ((xs (6 * n + 3))), .int ((xs (6 * n + 4)))]) (k_X11_made (X := nm_w moN adM (nm_E Y adM (I, nJ0, moZ))) (nl := nl) hL hN (hf := e1)) hx hb hml hown hts (Nat.le_refl _) hK hZ hH mw_475 mw_472 mw_473 sw_X11_made tw_1 hd_X11_made (cl_n0 hL) (cl_k0 hL) (by decide) rfl rfl rfl ⟨Nat.le_of_ble_eq_true rfl, Nat.le_of_ble_eq_true rfl⟩ rfl hl.1 rfl (Nat.le_of_ble_eq_true rfl) dL_law_594 ⟨by show cells + 0 ≤ 600000; omega, by show slots + 0 ≤ 7302250; omega⟩) hH (fun H locs hH => ?_)
  have hH := lw_swap hH
  refine lv_aload_n hx hb dL_law_597 rfl (lv_at hl 2 rfl) ?_
  refine lw_ld (j := 1) hx hb hX hbl hH.2.2 hl hn hL3 (by decide) dL_law_598 dL_law_599 dL_law_600 dL_law_601 dL_law_602 ?_
  refine lw_ld (j := 2) hx hb hX hbl hH.2.2 hl hn hL3 (by decide) dL_law_603 dL_law_604 dL_law_605 dL_law_606 dL_law_607 ?_
  refine lw_ld (j := 3) hx hb hX hbl hH.2.2 hl hn hL3 (by decide) dL_law_608 dL_law_609 dL_law_610 dL_law_611 dL_law_612 ?_
  refine lw_ld (j := 4) hx hb hX hbl hH.2.2 hl hn hL3 (by decide) dL_law_613 dL_law_614 dL_law_615 dL_law_616 dL_law_617 ?_
  refine nm_calli (nm_runV (nn := 0) (As := [.int ((xs (6 * n + 1))), .int ((xs (6 * n + 2))), .int ((xs (6 * n + 3))), .int ((xs (6 * n + 4)))]) (k_X12_made (ad := adM) (hf := e2)) hx hb hml hown hts (Nat.le_refl _) hK hZ hH mw_1263 mw_1260 mw_1261 sw_X12_made tw_9 hd_X12_made mo_n0 mo_k0 (by decide) rfl rfl rfl ⟨Nat.le_of_ble_eq_true rfl, Nat.le_of_ble_eq_true rfl⟩ rfl hl.1 rfl (Nat.le_of_ble_eq_true rfl) dL_law_618 ⟨by show cells + 0 ≤ 600000; omega, by show slots + 0 ≤ 7302250; omega⟩) hH (fun H locs hH => ?_)
  have hH := lw_swap hH
  refine lv_icmp_eq (tgt := 1373) hx hb dL_law_621 (by decide) (fun c9 => ?_) (fun c9 => absurd rfl c9)
  exact kk nl ad adM K (M', S.2) I' H locs cells slots ls ⟨hH, hL, hR', by show _ ≤ _ + 2 * pt S.2; omega, by show _ ≤ _ + 2 * pt S.2; omega, hl⟩
set_option maxHeartbeats 1000000 in
theorem lc_8 {D : va_G} {Y : nm_Y} {p : Program} {e : Env} {s : State} {m : MethodId} {below : List Frame} {meth : Method} {c : Code} {l : Launch} {b Lx : Nat} {xs : Nat → Int32} (hC : lw_K D Y p s m c b Lx xs) : lw_G D Y p e s m below meth c l b Lx xs 626 := by
  obtain ⟨hx, hb, hml, hown, hts, hK, hZ, hX, hbl⟩ := hC
  intro n nl ad adM K S I H locs cells slots ls hn hL3 hI kk
  obtain ⟨hH, hL, hR, hc, hs, hl⟩ := hI
  have hN : cl_N S.2 := hR.1.1
  have hp0 := pt_RR hR
  obtain ⟨r, S', dc, ds, I', e1, d1, d2, e2, hR'⟩ := s_flat hR (xs (6 * n + 1))
  have hp1 := pt_RR hR'
  refine lv_aload_n hx hb dL_law_626 rfl (lv_at hl 1 rfl) ?_
  refine lw_ld (j := 1) hx hb hX hbl hH.2.2 hl hn hL3 (by decide) dL_law_627 dL_law_628 dL_law_629 dL_law_630 dL_law_631 ?_
  refine nm_calliA (nm_runV (nn := 0) (As := [.int ((xs (6 * n + 1)))]) (k_X11_flat (X := nm_w moN adM (nm_E Y adM (I, nJ0, moZ))) (nl := nl) hL (hN := hN) (hf := e1)) hx hb hml hown hts (Nat.le_refl _) hK hZ hH mw_483 mw_480 mw_481 sw_X11_flat tw_1 hd_X11_flat (cl_n0 hL) (cl_k0 hL) (by decide) rfl rfl rfl ⟨Nat.le_of_ble_eq_true rfl, Nat.le_of_ble_eq_true rfl⟩ rfl hl.1 rfl (Nat.le_of_ble_eq_true rfl) dL_law_632 ⟨by show cells + dc ≤ 600000; omega, by show slots + ds ≤ 7302250; omega⟩) hH (fun u hu H locs kc ks ec es hN1 hH => ?_)
  have hl : lv_has ls 4 [(0, .ref b), (1, .ref (u 0)), (2, .ref (adM 0)), (3, .int (zI (6 * (n : Int))))] := by rw [hu 0 (by decide)]; exact hl
  have ew : cells + dc = kc := ec.symm
  have ew2 : slots + ds = ks := es.symm
  have hH := lw_swap hH
  refine lv_aload_n hx hb dL_law_635 rfl (lv_at hl 2 rfl) ?_
  refine lw_ld (j := 1) hx hb hX hbl hH.2.2 hl hn hL3 (by decide) dL_law_636 dL_law_637 dL_law_638 dL_law_639 dL_law_640 ?_
  refine nm_calli (nm_runV (nn := 0) (As := [.int ((xs (6 * n + 1)))]) (k_X12_flat (ad := adM) (hf := e2)) hx hb hml hown hts (Nat.le_refl _) hK hZ hH mw_1270 mw_1267 mw_1268 sw_X12_flat tw_9 hd_X12_flat mo_n0 mo_k0 (by decide) rfl rfl rfl ⟨Nat.le_of_ble_eq_true rfl, Nat.le_of_ble_eq_true rfl⟩ rfl hl.1 rfl (Nat.le_of_ble_eq_true rfl) dL_law_641 ⟨by show kc + 0 ≤ 600000; omega, by show ks + 0 ≤ 7302250; omega⟩) hH (fun H locs hH => ?_)
  have hH := lw_swap hH
  refine lv_icmp_eq (tgt := 1373) hx hb dL_law_644 (by decide) (fun c9 => ?_) (fun c9 => absurd rfl c9)
  exact kk nl u adM K S' I' H locs kc ks ls ⟨hH, hL, hR', by omega, by omega, hl⟩
set_option maxHeartbeats 1000000 in
theorem lc_9 {D : va_G} {Y : nm_Y} {p : Program} {e : Env} {s : State} {m : MethodId} {below : List Frame} {meth : Method} {c : Code} {l : Launch} {b Lx : Nat} {xs : Nat → Int32} (hC : lw_K D Y p s m c b Lx xs) : lw_G D Y p e s m below meth c l b Lx xs 649 := by
  obtain ⟨hx, hb, hml, hown, hts, hK, hZ, hX, hbl⟩ := hC
  intro n nl ad adM K S I H locs cells slots ls hn hL3 hI kk
  obtain ⟨hH, hL, hR, hc, hs, hl⟩ := hI
  have hN : cl_N S.2 := hR.1.1
  have hp0 := pt_RR hR
  obtain ⟨r, M', I', e1, e2, hR'⟩ := s_area hR (xs (6 * n + 1))
  refine lv_aload_n hx hb dL_law_649 rfl (lv_at hl 1 rfl) ?_
  refine lw_ld (j := 1) hx hb hX hbl hH.2.2 hl hn hL3 (by decide) dL_law_650 dL_law_651 dL_law_652 dL_law_653 dL_law_654 ?_
  refine nm_calli (nm_runV (nn := 0) (As := [.int ((xs (6 * n + 1)))]) (k_X11_area (X := nm_w moN adM (nm_E Y adM (I, nJ0, moZ))) (nl := nl) hL hN (hf := e1)) hx hb hml hown hts (Nat.le_refl _) hK hZ hH mw_676 mw_673 mw_674 sw_X11_area tw_1 hd_X11_area (cl_n0 hL) (cl_k0 hL) (by decide) rfl rfl rfl ⟨Nat.le_of_ble_eq_true rfl, Nat.le_of_ble_eq_true rfl⟩ rfl hl.1 rfl (Nat.le_of_ble_eq_true rfl) dL_law_655 ⟨by show cells + 0 ≤ 600000; omega, by show slots + 0 ≤ 7302250; omega⟩) hH (fun H locs hH => ?_)
  have hH := lw_swap hH
  refine lv_aload_n hx hb dL_law_658 rfl (lv_at hl 2 rfl) ?_
  refine lw_ld (j := 1) hx hb hX hbl hH.2.2 hl hn hL3 (by decide) dL_law_659 dL_law_660 dL_law_661 dL_law_662 dL_law_663 ?_
  refine nm_calli (nm_runV (nn := 0) (As := [.int ((xs (6 * n + 1)))]) (k_X12_area (ad := adM) (hf := e2)) hx hb hml hown hts (Nat.le_refl _) hK hZ hH mw_1334 mw_1331 mw_1332 sw_X12_area tw_9 hd_X12_area mo_n0 mo_k0 (by decide) rfl rfl rfl ⟨Nat.le_of_ble_eq_true rfl, Nat.le_of_ble_eq_true rfl⟩ rfl hl.1 rfl (Nat.le_of_ble_eq_true rfl) dL_law_664 ⟨by show cells + 0 ≤ 600000; omega, by show slots + 0 ≤ 7302250; omega⟩) hH (fun H locs hH => ?_)
  have hH := lw_swap hH
  refine lv_icmp_eq (tgt := 1373) hx hb dL_law_667 (by decide) (fun c9 => ?_) (fun c9 => absurd rfl c9)
  exact kk nl ad adM K (M', S.2) I' H locs cells slots ls ⟨hH, hL, hR', by show _ ≤ _ + 2 * pt S.2; omega, by show _ ≤ _ + 2 * pt S.2; omega, hl⟩
set_option maxHeartbeats 1000000 in
theorem lc_10 {D : va_G} {Y : nm_Y} {p : Program} {e : Env} {s : State} {m : MethodId} {below : List Frame} {meth : Method} {c : Code} {l : Launch} {b Lx : Nat} {xs : Nat → Int32} (hC : lw_K D Y p s m c b Lx xs) : lw_G D Y p e s m below meth c l b Lx xs 672 := by
  obtain ⟨hx, hb, hml, hown, hts, hK, hZ, hX, hbl⟩ := hC
  intro n nl ad adM K S I H locs cells slots ls hn hL3 hI kk
  obtain ⟨hH, hL, hR, hc, hs, hl⟩ := hI
  have hN : cl_N S.2 := hR.1.1
  have hp0 := pt_RR hR
  obtain ⟨r, M', I', e1, e2, hR'⟩ := s_covered hR (xs (6 * n + 1)) (xs (6 * n + 2))
  refine lv_aload_n hx hb dL_law_672 rfl (lv_at hl 1 rfl) ?_
  refine lw_ld (j := 1) hx hb hX hbl hH.2.2 hl hn hL3 (by decide) dL_law_673 dL_law_674 dL_law_675 dL_law_676 dL_law_677 ?_
  refine lw_ld (j := 2) hx hb hX hbl hH.2.2 hl hn hL3 (by decide) dL_law_678 dL_law_679 dL_law_680 dL_law_681 dL_law_682 ?_
  refine nm_calli (nm_runV (nn := 0) (As := [.int ((xs (6 * n + 1))), .int ((xs (6 * n + 2)))]) (k_X11_covered (X := nm_w moN adM (nm_E Y adM (I, nJ0, moZ))) (nl := nl) hL hN (hf := e1)) hx hb hml hown hts (Nat.le_refl _) hK hZ hH mw_681 mw_678 mw_679 sw_X11_covered tw_1 hd_X11_covered (cl_n0 hL) (cl_k0 hL) (by decide) rfl rfl rfl ⟨Nat.le_of_ble_eq_true rfl, Nat.le_of_ble_eq_true rfl⟩ rfl hl.1 rfl (Nat.le_of_ble_eq_true rfl) dL_law_683 ⟨by show cells + 0 ≤ 600000; omega, by show slots + 0 ≤ 7302250; omega⟩) hH (fun H locs hH => ?_)
  have hH := lw_swap hH
  refine lv_aload_n hx hb dL_law_686 rfl (lv_at hl 2 rfl) ?_
  refine lw_ld (j := 1) hx hb hX hbl hH.2.2 hl hn hL3 (by decide) dL_law_687 dL_law_688 dL_law_689 dL_law_690 dL_law_691 ?_
  refine lw_ld (j := 2) hx hb hX hbl hH.2.2 hl hn hL3 (by decide) dL_law_692 dL_law_693 dL_law_694 dL_law_695 dL_law_696 ?_
  refine nm_calli (nm_runV (nn := 0) (As := [.int ((xs (6 * n + 1))), .int ((xs (6 * n + 2)))]) (k_X12_covered (ad := adM) (hf := e2)) hx hb hml hown hts (Nat.le_refl _) hK hZ hH mw_1342 mw_1339 mw_1340 sw_X12_covered tw_9 hd_X12_covered mo_n0 mo_k0 (by decide) rfl rfl rfl ⟨Nat.le_of_ble_eq_true rfl, Nat.le_of_ble_eq_true rfl⟩ rfl hl.1 rfl (Nat.le_of_ble_eq_true rfl) dL_law_697 ⟨by show cells + 0 ≤ 600000; omega, by show slots + 0 ≤ 7302250; omega⟩) hH (fun H locs hH => ?_)
  have hH := lw_swap hH
  refine lv_icmp_eq (tgt := 1373) hx hb dL_law_700 (by decide) (fun c9 => ?_) (fun c9 => absurd rfl c9)
  exact kk nl ad adM K (M', S.2) I' H locs cells slots ls ⟨hH, hL, hR', by show _ ≤ _ + 2 * pt S.2; omega, by show _ ≤ _ + 2 * pt S.2; omega, hl⟩
set_option maxHeartbeats 1000000 in
theorem lc_11 {D : va_G} {Y : nm_Y} {p : Program} {e : Env} {s : State} {m : MethodId} {below : List Frame} {meth : Method} {c : Code} {l : Launch} {b Lx : Nat} {xs : Nat → Int32} (hC : lw_K D Y p s m c b Lx xs) : lw_G D Y p e s m below meth c l b Lx xs 705 := by
  obtain ⟨hx, hb, hml, hown, hts, hK, hZ, hX, hbl⟩ := hC
  intro n nl ad adM K S I H locs cells slots ls hn hL3 hI kk
  obtain ⟨hH, hL, hR, hc, hs, hl⟩ := hI
  have hN : cl_N S.2 := hR.1.1
  have hp0 := pt_RR hR
  obtain ⟨r, S', dc, ds, I', e1, d1, d2, e2, hR'⟩ := s_pieces hR (xs (6 * n + 1)) (xs (6 * n + 2))
  have hp1 := pt_RR hR'
  refine lv_aload_n hx hb dL_law_705 rfl (lv_at hl 1 rfl) ?_
  refine lw_ld (j := 1) hx hb hX hbl hH.2.2 hl hn hL3 (by decide) dL_law_706 dL_law_707 dL_law_708 dL_law_709 dL_law_710 ?_
  refine lw_ld (j := 2) hx hb hX hbl hH.2.2 hl hn hL3 (by decide) dL_law_711 dL_law_712 dL_law_713 dL_law_714 dL_law_715 ?_
  refine nm_calliA (nm_runV (nn := 0) (As := [.int ((xs (6 * n + 1))), .int ((xs (6 * n + 2)))]) (k_X11_pieces (X := nm_w moN adM (nm_E Y adM (I, nJ0, moZ))) (nl := nl) hL (hN := hN) (hf := e1)) hx hb hml hown hts (Nat.le_refl _) hK hZ hH mw_685 mw_682 mw_683 sw_X11_pieces tw_1 hd_X11_pieces (cl_n0 hL) (cl_k0 hL) (by decide) rfl rfl rfl ⟨Nat.le_of_ble_eq_true rfl, Nat.le_of_ble_eq_true rfl⟩ rfl hl.1 rfl (Nat.le_of_ble_eq_true rfl) dL_law_716 ⟨by show cells + dc ≤ 600000; omega, by show slots + ds ≤ 7302250; omega⟩) hH (fun u hu H locs kc ks ec es hN1 hH => ?_)
  have hl : lv_has ls 4 [(0, .ref b), (1, .ref (u 0)), (2, .ref (adM 0)), (3, .int (zI (6 * (n : Int))))] := by rw [hu 0 (by decide)]; exact hl
  have ew : cells + dc = kc := ec.symm
  have ew2 : slots + ds = ks := es.symm
  have hH := lw_swap hH
  refine lv_aload_n hx hb dL_law_719 rfl (lv_at hl 2 rfl) ?_
  refine lw_ld (j := 1) hx hb hX hbl hH.2.2 hl hn hL3 (by decide) dL_law_720 dL_law_721 dL_law_722 dL_law_723 dL_law_724 ?_
  refine lw_ld (j := 2) hx hb hX hbl hH.2.2 hl hn hL3 (by decide) dL_law_725 dL_law_726 dL_law_727 dL_law_728 dL_law_729 ?_
  refine nm_calli (nm_runV (nn := 0) (As := [.int ((xs (6 * n + 1))), .int ((xs (6 * n + 2)))]) (k_X12_pieces (ad := adM) (hf := e2)) hx hb hml hown hts (Nat.le_refl _) hK hZ hH mw_1346 mw_1343 mw_1344 sw_X12_pieces tw_9 hd_X12_pieces mo_n0 mo_k0 (by decide) rfl rfl rfl ⟨Nat.le_of_ble_eq_true rfl, Nat.le_of_ble_eq_true rfl⟩ rfl hl.1 rfl (Nat.le_of_ble_eq_true rfl) dL_law_730 ⟨by show kc + 0 ≤ 600000; omega, by show ks + 0 ≤ 7302250; omega⟩) hH (fun H locs hH => ?_)
  have hH := lw_swap hH
  refine lv_icmp_eq (tgt := 1373) hx hb dL_law_733 (by decide) (fun c9 => ?_) (fun c9 => absurd rfl c9)
  exact kk nl u adM K S' I' H locs kc ks ls ⟨hH, hL, hR', by omega, by omega, hl⟩
set_option maxHeartbeats 1000000 in
theorem lc_12 {D : va_G} {Y : nm_Y} {p : Program} {e : Env} {s : State} {m : MethodId} {below : List Frame} {meth : Method} {c : Code} {l : Launch} {b Lx : Nat} {xs : Nat → Int32} (hC : lw_K D Y p s m c b Lx xs) : lw_G D Y p e s m below meth c l b Lx xs 738 := by
  obtain ⟨hx, hb, hml, hown, hts, hK, hZ, hX, hbl⟩ := hC
  intro n nl ad adM K S I H locs cells slots ls hn hL3 hI kk
  obtain ⟨hH, hL, hR, hc, hs, hl⟩ := hI
  have hN : cl_N S.2 := hR.1.1
  have hp0 := pt_RR hR
  obtain ⟨r, M', I', e1, e2, hR'⟩ := s_rule hR (xs (6 * n + 1)) (xs (6 * n + 2)) (xs (6 * n + 3)) (xs (6 * n + 4))
  refine lv_aload_n hx hb dL_law_738 rfl (lv_at hl 1 rfl) ?_
  refine lw_ld (j := 1) hx hb hX hbl hH.2.2 hl hn hL3 (by decide) dL_law_739 dL_law_740 dL_law_741 dL_law_742 dL_law_743 ?_
  refine lw_ld (j := 2) hx hb hX hbl hH.2.2 hl hn hL3 (by decide) dL_law_744 dL_law_745 dL_law_746 dL_law_747 dL_law_748 ?_
  refine lw_ld (j := 3) hx hb hX hbl hH.2.2 hl hn hL3 (by decide) dL_law_749 dL_law_750 dL_law_751 dL_law_752 dL_law_753 ?_
  refine lw_ld (j := 4) hx hb hX hbl hH.2.2 hl hn hL3 (by decide) dL_law_754 dL_law_755 dL_law_756 dL_law_757 dL_law_758 ?_
  refine nm_calli (nm_runV (nn := 0) (As := [.int ((xs (6 * n + 1))), .int ((xs (6 * n + 2))), .int ((xs (6 * n + 3))), .int ((xs (6 * n + 4)))]) (k_X11_rule (X := nm_w moN adM (nm_E Y adM (I, nJ0, moZ))) (nl := nl) hL hN (hf := e1)) hx hb hml hown hts (Nat.le_refl _) hK hZ hH mw_693 mw_690 mw_691 sw_X11_rule tw_1 hd_X11_rule (cl_n0 hL) (cl_k0 hL) (by decide) rfl rfl rfl ⟨Nat.le_of_ble_eq_true rfl, Nat.le_of_ble_eq_true rfl⟩ rfl hl.1 rfl (Nat.le_of_ble_eq_true rfl) dL_law_759 ⟨by show cells + 0 ≤ 600000; omega, by show slots + 0 ≤ 7302250; omega⟩) hH (fun H locs hH => ?_)
  have hH := lw_swap hH
  refine lv_aload_n hx hb dL_law_762 rfl (lv_at hl 2 rfl) ?_
  refine lw_ld (j := 1) hx hb hX hbl hH.2.2 hl hn hL3 (by decide) dL_law_763 dL_law_764 dL_law_765 dL_law_766 dL_law_767 ?_
  refine lw_ld (j := 2) hx hb hX hbl hH.2.2 hl hn hL3 (by decide) dL_law_768 dL_law_769 dL_law_770 dL_law_771 dL_law_772 ?_
  refine lw_ld (j := 3) hx hb hX hbl hH.2.2 hl hn hL3 (by decide) dL_law_773 dL_law_774 dL_law_775 dL_law_776 dL_law_777 ?_
  refine lw_ld (j := 4) hx hb hX hbl hH.2.2 hl hn hL3 (by decide) dL_law_778 dL_law_779 dL_law_780 dL_law_781 dL_law_782 ?_
  refine nm_calli (nm_runV (nn := 0) (As := [.int ((xs (6 * n + 1))), .int ((xs (6 * n + 2))), .int ((xs (6 * n + 3))), .int ((xs (6 * n + 4)))]) (k_X12_rule (ad := adM) (hf := e2)) hx hb hml hown hts (Nat.le_refl _) hK hZ hH mw_1350 mw_1347 mw_1348 sw_X12_rule tw_9 hd_X12_rule mo_n0 mo_k0 (by decide) rfl rfl rfl ⟨Nat.le_of_ble_eq_true rfl, Nat.le_of_ble_eq_true rfl⟩ rfl hl.1 rfl (Nat.le_of_ble_eq_true rfl) dL_law_783 ⟨by show cells + 0 ≤ 600000; omega, by show slots + 0 ≤ 7302250; omega⟩) hH (fun H locs hH => ?_)
  have hH := lw_swap hH
  refine lv_icmp_eq (tgt := 1373) hx hb dL_law_786 (by decide) (fun c9 => ?_) (fun c9 => absurd rfl c9)
  exact kk nl ad adM K (M', S.2) I' H locs cells slots ls ⟨hH, hL, hR', by show _ ≤ _ + 2 * pt S.2; omega, by show _ ≤ _ + 2 * pt S.2; omega, hl⟩
set_option maxHeartbeats 1000000 in
theorem lc_13 {D : va_G} {Y : nm_Y} {p : Program} {e : Env} {s : State} {m : MethodId} {below : List Frame} {meth : Method} {c : Code} {l : Launch} {b Lx : Nat} {xs : Nat → Int32} (hC : lw_K D Y p s m c b Lx xs) : lw_G D Y p e s m below meth c l b Lx xs 791 := by
  obtain ⟨hx, hb, hml, hown, hts, hK, hZ, hX, hbl⟩ := hC
  intro n nl ad adM K S I H locs cells slots ls hn hL3 hI kk
  obtain ⟨hH, hL, hR, hc, hs, hl⟩ := hI
  have hN : cl_N S.2 := hR.1.1
  have hp0 := pt_RR hR
  obtain ⟨r, S', dc, ds, I', e1, d1, d2, e2, hR'⟩ := s_run hR 
  have hp1 := pt_RR hR'
  refine lv_aload_n hx hb dL_law_791 rfl (lv_at hl 1 rfl) ?_
  refine nm_calliA (nm_runV (nn := 0) (As := []) (k_X11_run (X := nm_w moN adM (nm_E Y adM (I, nJ0, moZ))) (nl := nl) hL (hN := hN) (hf := e1)) hx hb hml hown hts (Nat.le_refl _) hK hZ hH mw_704 mw_701 mw_702 sw_X11_run tw_1 hd_X11_run (cl_n0 hL) (cl_k0 hL) (by decide) rfl rfl rfl ⟨Nat.le_of_ble_eq_true rfl, Nat.le_of_ble_eq_true rfl⟩ rfl hl.1 rfl (Nat.le_of_ble_eq_true rfl) dL_law_792 ⟨by show cells + dc ≤ 600000; omega, by show slots + ds ≤ 7302250; omega⟩) hH (fun u hu H locs kc ks ec es hN1 hH => ?_)
  have hl : lv_has ls 4 [(0, .ref b), (1, .ref (u 0)), (2, .ref (adM 0)), (3, .int (zI (6 * (n : Int))))] := by rw [hu 0 (by decide)]; exact hl
  have ew : cells + dc = kc := ec.symm
  have ew2 : slots + ds = ks := es.symm
  have hH := lw_swap hH
  refine lv_aload_n hx hb dL_law_795 rfl (lv_at hl 2 rfl) ?_
  refine nm_calli (nm_runV (nn := 0) (As := []) (k_X12_run (ad := adM) (hf := e2)) hx hb hml hown hts (Nat.le_refl _) hK hZ hH mw_1355 mw_1352 mw_1353 sw_X12_run tw_9 hd_X12_run mo_n0 mo_k0 (by decide) rfl rfl rfl ⟨Nat.le_of_ble_eq_true rfl, Nat.le_of_ble_eq_true rfl⟩ rfl hl.1 rfl (Nat.le_of_ble_eq_true rfl) dL_law_796 ⟨by show kc + 0 ≤ 600000; omega, by show ks + 0 ≤ 7302250; omega⟩) hH (fun H locs hH => ?_)
  have hH := lw_swap hH
  refine lv_icmp_eq (tgt := 1373) hx hb dL_law_799 (by decide) (fun c9 => ?_) (fun c9 => absurd rfl c9)
  exact kk nl u adM K S' I' H locs kc ks ls ⟨hH, hL, hR', by omega, by omega, hl⟩
set_option maxHeartbeats 1000000 in
theorem lc_14 {D : va_G} {Y : nm_Y} {p : Program} {e : Env} {s : State} {m : MethodId} {below : List Frame} {meth : Method} {c : Code} {l : Launch} {b Lx : Nat} {xs : Nat → Int32} (hC : lw_K D Y p s m c b Lx xs) : lw_G D Y p e s m below meth c l b Lx xs 804 := by
  obtain ⟨hx, hb, hml, hown, hts, hK, hZ, hX, hbl⟩ := hC
  intro n nl ad adM K S I H locs cells slots ls hn hL3 hI kk
  obtain ⟨hH, hL, hR, hc, hs, hl⟩ := hI
  have hN : cl_N S.2 := hR.1.1
  have hp0 := pt_RR hR
  obtain ⟨r, M', I', e1, e2, hR'⟩ := s_fault hR (xs (6 * n + 1)) (xs (6 * n + 2))
  refine lv_aload_n hx hb dL_law_804 rfl (lv_at hl 1 rfl) ?_
  refine lw_ld (j := 1) hx hb hX hbl hH.2.2 hl hn hL3 (by decide) dL_law_805 dL_law_806 dL_law_807 dL_law_808 dL_law_809 ?_
  refine lw_ld (j := 2) hx hb hX hbl hH.2.2 hl hn hL3 (by decide) dL_law_810 dL_law_811 dL_law_812 dL_law_813 dL_law_814 ?_
  refine nm_calli (nm_runV (nn := 0) (As := [.int ((xs (6 * n + 1))), .int ((xs (6 * n + 2)))]) (k_X11_fault (X := nm_w moN adM (nm_E Y adM (I, nJ0, moZ))) (nl := nl) hL hN (hf := e1)) hx hb hml hown hts (Nat.le_refl _) hK hZ hH mw_756 mw_753 mw_754 sw_X11_fault tw_1 hd_X11_fault (cl_n0 hL) (cl_k0 hL) (by decide) rfl rfl rfl ⟨Nat.le_of_ble_eq_true rfl, Nat.le_of_ble_eq_true rfl⟩ rfl hl.1 rfl (Nat.le_of_ble_eq_true rfl) dL_law_815 ⟨by show cells + 0 ≤ 600000; omega, by show slots + 0 ≤ 7302250; omega⟩) hH (fun H locs hH => ?_)
  have hH := lw_swap hH
  refine lv_aload_n hx hb dL_law_818 rfl (lv_at hl 2 rfl) ?_
  refine lw_ld (j := 1) hx hb hX hbl hH.2.2 hl hn hL3 (by decide) dL_law_819 dL_law_820 dL_law_821 dL_law_822 dL_law_823 ?_
  refine lw_ld (j := 2) hx hb hX hbl hH.2.2 hl hn hL3 (by decide) dL_law_824 dL_law_825 dL_law_826 dL_law_827 dL_law_828 ?_
  refine nm_calli (nm_runV (nn := 0) (As := [.int ((xs (6 * n + 1))), .int ((xs (6 * n + 2)))]) (k_X12_fault_ (ad := adM) (hf := e2)) hx hb hml hown hts (Nat.le_refl _) hK hZ hH mw_1386 mw_1383 mw_1384 sw_X12_fault_ tw_9 hd_X12_fault_ mo_n0 mo_k0 (by decide) rfl rfl rfl ⟨Nat.le_of_ble_eq_true rfl, Nat.le_of_ble_eq_true rfl⟩ rfl hl.1 rfl (Nat.le_of_ble_eq_true rfl) dL_law_829 ⟨by show cells + 0 ≤ 600000; omega, by show slots + 0 ≤ 7302250; omega⟩) hH (fun H locs hH => ?_)
  have hH := lw_swap hH
  refine lv_icmp_eq (tgt := 1373) hx hb dL_law_832 (by decide) (fun c9 => ?_) (fun c9 => absurd rfl c9)
  exact kk nl ad adM K (M', S.2) I' H locs cells slots ls ⟨hH, hL, hR', by show _ ≤ _ + 2 * pt S.2; omega, by show _ ≤ _ + 2 * pt S.2; omega, hl⟩
set_option maxHeartbeats 1000000 in
theorem lc_15 {D : va_G} {Y : nm_Y} {p : Program} {e : Env} {s : State} {m : MethodId} {below : List Frame} {meth : Method} {c : Code} {l : Launch} {b Lx : Nat} {xs : Nat → Int32} (hC : lw_K D Y p s m c b Lx xs) : lw_G D Y p e s m below meth c l b Lx xs 837 := by
  obtain ⟨hx, hb, hml, hown, hts, hK, hZ, hX, hbl⟩ := hC
  intro n nl ad adM K S I H locs cells slots ls hn hL3 hI kk
  obtain ⟨hH, hL, hR, hc, hs, hl⟩ := hI
  have hN : cl_N S.2 := hR.1.1
  have hp0 := pt_RR hR
  obtain ⟨r, M', I', e1, e2, hR'⟩ := s_faults hR (xs (6 * n + 1)) (xs (6 * n + 2))
  refine lv_aload_n hx hb dL_law_837 rfl (lv_at hl 1 rfl) ?_
  refine lw_ld (j := 1) hx hb hX hbl hH.2.2 hl hn hL3 (by decide) dL_law_838 dL_law_839 dL_law_840 dL_law_841 dL_law_842 ?_
  refine lw_ld (j := 2) hx hb hX hbl hH.2.2 hl hn hL3 (by decide) dL_law_843 dL_law_844 dL_law_845 dL_law_846 dL_law_847 ?_
  refine nm_calli (nm_runV (nn := 0) (As := [.int ((xs (6 * n + 1))), .int ((xs (6 * n + 2)))]) (k_X11_faults (X := nm_w moN adM (nm_E Y adM (I, nJ0, moZ))) (nl := nl) hL hN (hf := e1)) hx hb hml hown hts (Nat.le_refl _) hK hZ hH mw_760 mw_757 mw_758 sw_X11_faults tw_1 hd_X11_faults (cl_n0 hL) (cl_k0 hL) (by decide) rfl rfl rfl ⟨Nat.le_of_ble_eq_true rfl, Nat.le_of_ble_eq_true rfl⟩ rfl hl.1 rfl (Nat.le_of_ble_eq_true rfl) dL_law_848 ⟨by show cells + 0 ≤ 600000; omega, by show slots + 0 ≤ 7302250; omega⟩) hH (fun H locs hH => ?_)
  have hH := lw_swap hH
  refine lv_aload_n hx hb dL_law_851 rfl (lv_at hl 2 rfl) ?_
  refine lw_ld (j := 1) hx hb hX hbl hH.2.2 hl hn hL3 (by decide) dL_law_852 dL_law_853 dL_law_854 dL_law_855 dL_law_856 ?_
  refine lw_ld (j := 2) hx hb hX hbl hH.2.2 hl hn hL3 (by decide) dL_law_857 dL_law_858 dL_law_859 dL_law_860 dL_law_861 ?_
  refine nm_calli (nm_runV (nn := 0) (As := [.int ((xs (6 * n + 1))), .int ((xs (6 * n + 2)))]) (k_X12_faults (ad := adM) (hf := e2)) hx hb hml hown hts (Nat.le_refl _) hK hZ hH mw_1390 mw_1387 mw_1388 sw_X12_faults tw_9 hd_X12_faults mo_n0 mo_k0 (by decide) rfl rfl rfl ⟨Nat.le_of_ble_eq_true rfl, Nat.le_of_ble_eq_true rfl⟩ rfl hl.1 rfl (Nat.le_of_ble_eq_true rfl) dL_law_862 ⟨by show cells + 0 ≤ 600000; omega, by show slots + 0 ≤ 7302250; omega⟩) hH (fun H locs hH => ?_)
  have hH := lw_swap hH
  refine lv_icmp_eq (tgt := 1373) hx hb dL_law_865 (by decide) (fun c9 => ?_) (fun c9 => absurd rfl c9)
  exact kk nl ad adM K (M', S.2) I' H locs cells slots ls ⟨hH, hL, hR', by show _ ≤ _ + 2 * pt S.2; omega, by show _ ≤ _ + 2 * pt S.2; omega, hl⟩
set_option maxHeartbeats 1000000 in
theorem lc_16 {D : va_G} {Y : nm_Y} {p : Program} {e : Env} {s : State} {m : MethodId} {below : List Frame} {meth : Method} {c : Code} {l : Launch} {b Lx : Nat} {xs : Nat → Int32} (hC : lw_K D Y p s m c b Lx xs) : lw_G D Y p e s m below meth c l b Lx xs 870 := by
  obtain ⟨hx, hb, hml, hown, hts, hK, hZ, hX, hbl⟩ := hC
  intro n nl ad adM K S I H locs cells slots ls hn hL3 hI kk
  obtain ⟨hH, hL, hR, hc, hs, hl⟩ := hI
  have hN : cl_N S.2 := hR.1.1
  have hp0 := pt_RR hR
  obtain ⟨r, M', I', e1, e2, hR'⟩ := s_conducts hR (xs (6 * n + 1)) (decide (xs (6 * n + 2) ≠ 0))
  refine lv_aload_n hx hb dL_law_870 rfl (lv_at hl 1 rfl) ?_
  refine lw_ld (j := 1) hx hb hX hbl hH.2.2 hl hn hL3 (by decide) dL_law_871 dL_law_872 dL_law_873 dL_law_874 dL_law_875 ?_
  refine lw_ld (j := 2) hx hb hX hbl hH.2.2 hl hn hL3 (by decide) dL_law_876 dL_law_877 dL_law_878 dL_law_879 dL_law_880 ?_
  refine lw_bool hx hb dL_law_881 dL_law_884 dL_law_885 dL_law_888 ?_
  refine nm_calli (nm_runV (nn := 0) (As := [.int ((xs (6 * n + 1))), .int (bq (decide (xs (6 * n + 2) ≠ 0)))]) (k_X11_conducts (X := nm_w moN adM (nm_E Y adM (I, nJ0, moZ))) (nl := nl) hL hN (hf := e1)) hx hb hml hown hts (Nat.le_refl _) hK hZ hH mw_764 mw_761 mw_762 sw_X11_conducts tw_1 hd_X11_conducts (cl_n0 hL) (cl_k0 hL) (by decide) rfl rfl rfl ⟨Nat.le_of_ble_eq_true rfl, Nat.le_of_ble_eq_true rfl⟩ rfl hl.1 rfl (Nat.le_of_ble_eq_true rfl) dL_law_889 ⟨by show cells + 0 ≤ 600000; omega, by show slots + 0 ≤ 7302250; omega⟩) hH (fun H locs hH => ?_)
  have hH := lw_swap hH
  refine lv_aload_n hx hb dL_law_892 rfl (lv_at hl 2 rfl) ?_
  refine lw_ld (j := 1) hx hb hX hbl hH.2.2 hl hn hL3 (by decide) dL_law_893 dL_law_894 dL_law_895 dL_law_896 dL_law_897 ?_
  refine lw_ld (j := 2) hx hb hX hbl hH.2.2 hl hn hL3 (by decide) dL_law_898 dL_law_899 dL_law_900 dL_law_901 dL_law_902 ?_
  refine lw_bool hx hb dL_law_903 dL_law_906 dL_law_907 dL_law_910 ?_
  refine nm_calli (nm_runV (nn := 0) (As := [.int ((xs (6 * n + 1))), .int (bq (decide (xs (6 * n + 2) ≠ 0)))]) (k_X12_conducts (ad := adM) (hf := e2)) hx hb hml hown hts (Nat.le_refl _) hK hZ hH mw_1394 mw_1391 mw_1392 sw_X12_conducts tw_9 hd_X12_conducts mo_n0 mo_k0 (by decide) rfl rfl rfl ⟨Nat.le_of_ble_eq_true rfl, Nat.le_of_ble_eq_true rfl⟩ rfl hl.1 rfl (Nat.le_of_ble_eq_true rfl) dL_law_911 ⟨by show cells + 0 ≤ 600000; omega, by show slots + 0 ≤ 7302250; omega⟩) hH (fun H locs hH => ?_)
  have hH := lw_swap hH
  refine lv_icmp_eq (tgt := 1373) hx hb dL_law_914 (by decide) (fun c9 => ?_) (fun c9 => absurd rfl c9)
  exact kk nl ad adM K (M', S.2) I' H locs cells slots ls ⟨hH, hL, hR', by show _ ≤ _ + 2 * pt S.2; omega, by show _ ≤ _ + 2 * pt S.2; omega, hl⟩
set_option maxHeartbeats 1000000 in
theorem lc_17 {D : va_G} {Y : nm_Y} {p : Program} {e : Env} {s : State} {m : MethodId} {below : List Frame} {meth : Method} {c : Code} {l : Launch} {b Lx : Nat} {xs : Nat → Int32} (hC : lw_K D Y p s m c b Lx xs) : lw_G D Y p e s m below meth c l b Lx xs 919 := by
  obtain ⟨hx, hb, hml, hown, hts, hK, hZ, hX, hbl⟩ := hC
  intro n nl ad adM K S I H locs cells slots ls hn hL3 hI kk
  obtain ⟨hH, hL, hR, hc, hs, hl⟩ := hI
  have hN : cl_N S.2 := hR.1.1
  have hp0 := pt_RR hR
  obtain ⟨r, M', I', e1, e2, hR'⟩ := s_joint hR (xs (6 * n + 1)) (xs (6 * n + 2)) (xs (6 * n + 3))
  refine lv_aload_n hx hb dL_law_919 rfl (lv_at hl 1 rfl) ?_
  refine lw_ld (j := 1) hx hb hX hbl hH.2.2 hl hn hL3 (by decide) dL_law_920 dL_law_921 dL_law_922 dL_law_923 dL_law_924 ?_
  refine lw_ld (j := 2) hx hb hX hbl hH.2.2 hl hn hL3 (by decide) dL_law_925 dL_law_926 dL_law_927 dL_law_928 dL_law_929 ?_
  refine lw_ld (j := 3) hx hb hX hbl hH.2.2 hl hn hL3 (by decide) dL_law_930 dL_law_931 dL_law_932 dL_law_933 dL_law_934 ?_
  refine nm_calli (nm_runV (nn := 0) (As := [.int ((xs (6 * n + 1))), .int ((xs (6 * n + 2))), .int ((xs (6 * n + 3)))]) (k_X11_joint (X := nm_w moN adM (nm_E Y adM (I, nJ0, moZ))) (nl := nl) hL hN (hf := e1)) hx hb hml hown hts (Nat.le_refl _) hK hZ hH mw_768 mw_765 mw_766 sw_X11_joint tw_1 hd_X11_joint (cl_n0 hL) (cl_k0 hL) (by decide) rfl rfl rfl ⟨Nat.le_of_ble_eq_true rfl, Nat.le_of_ble_eq_true rfl⟩ rfl hl.1 rfl (Nat.le_of_ble_eq_true rfl) dL_law_935 ⟨by show cells + 0 ≤ 600000; omega, by show slots + 0 ≤ 7302250; omega⟩) hH (fun H locs hH => ?_)
  have hH := lw_swap hH
  refine lv_aload_n hx hb dL_law_938 rfl (lv_at hl 2 rfl) ?_
  refine lw_ld (j := 1) hx hb hX hbl hH.2.2 hl hn hL3 (by decide) dL_law_939 dL_law_940 dL_law_941 dL_law_942 dL_law_943 ?_
  refine lw_ld (j := 2) hx hb hX hbl hH.2.2 hl hn hL3 (by decide) dL_law_944 dL_law_945 dL_law_946 dL_law_947 dL_law_948 ?_
  refine lw_ld (j := 3) hx hb hX hbl hH.2.2 hl hn hL3 (by decide) dL_law_949 dL_law_950 dL_law_951 dL_law_952 dL_law_953 ?_
  refine nm_calli (nm_runV (nn := 0) (As := [.int ((xs (6 * n + 1))), .int ((xs (6 * n + 2))), .int ((xs (6 * n + 3)))]) (k_X12_joint (ad := adM) (hf := e2)) hx hb hml hown hts (Nat.le_refl _) hK hZ hH mw_1398 mw_1395 mw_1396 sw_X12_joint tw_9 hd_X12_joint mo_n0 mo_k0 (by decide) rfl rfl rfl ⟨Nat.le_of_ble_eq_true rfl, Nat.le_of_ble_eq_true rfl⟩ rfl hl.1 rfl (Nat.le_of_ble_eq_true rfl) dL_law_954 ⟨by show cells + 0 ≤ 600000; omega, by show slots + 0 ≤ 7302250; omega⟩) hH (fun H locs hH => ?_)
  have hH := lw_swap hH
  refine lv_icmp_eq (tgt := 1373) hx hb dL_law_957 (by decide) (fun c9 => ?_) (fun c9 => absurd rfl c9)
  exact kk nl ad adM K (M', S.2) I' H locs cells slots ls ⟨hH, hL, hR', by show _ ≤ _ + 2 * pt S.2; omega, by show _ ≤ _ + 2 * pt S.2; omega, hl⟩
set_option maxHeartbeats 1000000 in
theorem lc_18 {D : va_G} {Y : nm_Y} {p : Program} {e : Env} {s : State} {m : MethodId} {below : List Frame} {meth : Method} {c : Code} {l : Launch} {b Lx : Nat} {xs : Nat → Int32} (hC : lw_K D Y p s m c b Lx xs) : lw_G D Y p e s m below meth c l b Lx xs 962 := by
  obtain ⟨hx, hb, hml, hown, hts, hK, hZ, hX, hbl⟩ := hC
  intro n nl ad adM K S I H locs cells slots ls hn hL3 hI kk
  obtain ⟨hH, hL, hR, hc, hs, hl⟩ := hI
  have hN : cl_N S.2 := hR.1.1
  have hp0 := pt_RR hR
  obtain ⟨r, M', I', e1, e2, hR'⟩ := s_gates hR (xs (6 * n + 1)) (xs (6 * n + 2)) (xs (6 * n + 3))
  refine lv_aload_n hx hb dL_law_962 rfl (lv_at hl 1 rfl) ?_
  refine lw_ld (j := 1) hx hb hX hbl hH.2.2 hl hn hL3 (by decide) dL_law_963 dL_law_964 dL_law_965 dL_law_966 dL_law_967 ?_
  refine lw_ld (j := 2) hx hb hX hbl hH.2.2 hl hn hL3 (by decide) dL_law_968 dL_law_969 dL_law_970 dL_law_971 dL_law_972 ?_
  refine lw_ld (j := 3) hx hb hX hbl hH.2.2 hl hn hL3 (by decide) dL_law_973 dL_law_974 dL_law_975 dL_law_976 dL_law_977 ?_
  refine nm_calli (nm_runV (nn := 0) (As := [.int ((xs (6 * n + 1))), .int ((xs (6 * n + 2))), .int ((xs (6 * n + 3)))]) (k_X11_gates (X := nm_w moN adM (nm_E Y adM (I, nJ0, moZ))) (nl := nl) hL hN (hf := e1)) hx hb hml hown hts (Nat.le_refl _) hK hZ hH mw_776 mw_773 mw_774 sw_X11_gates tw_1 hd_X11_gates (cl_n0 hL) (cl_k0 hL) (by decide) rfl rfl rfl ⟨Nat.le_of_ble_eq_true rfl, Nat.le_of_ble_eq_true rfl⟩ rfl hl.1 rfl (Nat.le_of_ble_eq_true rfl) dL_law_978 ⟨by show cells + 0 ≤ 600000; omega, by show slots + 0 ≤ 7302250; omega⟩) hH (fun H locs hH => ?_)
  have hH := lw_swap hH
  refine lv_aload_n hx hb dL_law_981 rfl (lv_at hl 2 rfl) ?_
  refine lw_ld (j := 1) hx hb hX hbl hH.2.2 hl hn hL3 (by decide) dL_law_982 dL_law_983 dL_law_984 dL_law_985 dL_law_986 ?_
  refine lw_ld (j := 2) hx hb hX hbl hH.2.2 hl hn hL3 (by decide) dL_law_987 dL_law_988 dL_law_989 dL_law_990 dL_law_991 ?_
  refine lw_ld (j := 3) hx hb hX hbl hH.2.2 hl hn hL3 (by decide) dL_law_992 dL_law_993 dL_law_994 dL_law_995 dL_law_996 ?_
  refine nm_calli (nm_runV (nn := 0) (As := [.int ((xs (6 * n + 1))), .int ((xs (6 * n + 2))), .int ((xs (6 * n + 3)))]) (k_X12_gates (ad := adM) (hf := e2)) hx hb hml hown hts (Nat.le_refl _) hK hZ hH mw_1402 mw_1399 mw_1400 sw_X12_gates tw_9 hd_X12_gates mo_n0 mo_k0 (by decide) rfl rfl rfl ⟨Nat.le_of_ble_eq_true rfl, Nat.le_of_ble_eq_true rfl⟩ rfl hl.1 rfl (Nat.le_of_ble_eq_true rfl) dL_law_997 ⟨by show cells + 0 ≤ 600000; omega, by show slots + 0 ≤ 7302250; omega⟩) hH (fun H locs hH => ?_)
  have hH := lw_swap hH
  refine lv_icmp_eq (tgt := 1373) hx hb dL_law_1000 (by decide) (fun c9 => ?_) (fun c9 => absurd rfl c9)
  exact kk nl ad adM K (M', S.2) I' H locs cells slots ls ⟨hH, hL, hR', by show _ ≤ _ + 2 * pt S.2; omega, by show _ ≤ _ + 2 * pt S.2; omega, hl⟩
set_option maxHeartbeats 1000000 in
theorem lc_19 {D : va_G} {Y : nm_Y} {p : Program} {e : Env} {s : State} {m : MethodId} {below : List Frame} {meth : Method} {c : Code} {l : Launch} {b Lx : Nat} {xs : Nat → Int32} (hC : lw_K D Y p s m c b Lx xs) : lw_G D Y p e s m below meth c l b Lx xs 1005 := by
  obtain ⟨hx, hb, hml, hown, hts, hK, hZ, hX, hbl⟩ := hC
  intro n nl ad adM K S I H locs cells slots ls hn hL3 hI kk
  obtain ⟨hH, hL, hR, hc, hs, hl⟩ := hI
  have hN : cl_N S.2 := hR.1.1
  have hp0 := pt_RR hR
  obtain ⟨r, S', dc, ds, I', e1, d1, d2, e2, hR'⟩ := s_circuit hR 
  have hp1 := pt_RR hR'
  refine lv_aload_n hx hb dL_law_1005 rfl (lv_at hl 1 rfl) ?_
  refine nm_calliA (nm_runV (nn := 0) (As := []) (k_X11_circuit (X := nm_w moN adM (nm_E Y adM (I, nJ0, moZ))) (nl := nl) hL (hN := hN) (hf := e1)) hx hb hml hown hts (Nat.le_refl _) hK hZ hH mw_784 mw_781 mw_782 sw_X11_circuit tw_1 hd_X11_circuit (cl_n0 hL) (cl_k0 hL) (by decide) rfl rfl rfl ⟨Nat.le_of_ble_eq_true rfl, Nat.le_of_ble_eq_true rfl⟩ rfl hl.1 rfl (Nat.le_of_ble_eq_true rfl) dL_law_1006 ⟨by show cells + dc ≤ 600000; omega, by show slots + ds ≤ 7302250; omega⟩) hH (fun u hu H locs kc ks ec es hN1 hH => ?_)
  have hl : lv_has ls 4 [(0, .ref b), (1, .ref (u 0)), (2, .ref (adM 0)), (3, .int (zI (6 * (n : Int))))] := by rw [hu 0 (by decide)]; exact hl
  have ew : cells + dc = kc := ec.symm
  have ew2 : slots + ds = ks := es.symm
  have hH := lw_swap hH
  refine lv_aload_n hx hb dL_law_1009 rfl (lv_at hl 2 rfl) ?_
  refine nm_calli (nm_runV (nn := 0) (As := []) (k_X12_circuit (ad := adM) (hf := e2)) hx hb hml hown hts (Nat.le_refl _) hK hZ hH mw_1406 mw_1403 mw_1404 sw_X12_circuit tw_9 hd_X12_circuit mo_n0 mo_k0 (by decide) rfl rfl rfl ⟨Nat.le_of_ble_eq_true rfl, Nat.le_of_ble_eq_true rfl⟩ rfl hl.1 rfl (Nat.le_of_ble_eq_true rfl) dL_law_1010 ⟨by show kc + 0 ≤ 600000; omega, by show ks + 0 ≤ 7302250; omega⟩) hH (fun H locs hH => ?_)
  have hH := lw_swap hH
  refine lv_icmp_eq (tgt := 1373) hx hb dL_law_1013 (by decide) (fun c9 => ?_) (fun c9 => absurd rfl c9)
  exact kk nl u adM K S' I' H locs kc ks ls ⟨hH, hL, hR', by omega, by omega, hl⟩
set_option maxHeartbeats 1000000 in
theorem lc_20 {D : va_G} {Y : nm_Y} {p : Program} {e : Env} {s : State} {m : MethodId} {below : List Frame} {meth : Method} {c : Code} {l : Launch} {b Lx : Nat} {xs : Nat → Int32} (hC : lw_K D Y p s m c b Lx xs) : lw_G D Y p e s m below meth c l b Lx xs 1018 := by
  obtain ⟨hx, hb, hml, hown, hts, hK, hZ, hX, hbl⟩ := hC
  intro n nl ad adM K S I H locs cells slots ls hn hL3 hI kk
  obtain ⟨hH, hL, hR, hc, hs, hl⟩ := hI
  have hN : cl_N S.2 := hR.1.1
  have hp0 := pt_RR hR
  obtain ⟨r, M', I', e1, e2, hR'⟩ := s_net hR (xs (6 * n + 1)) (xs (6 * n + 2))
  refine lv_aload_n hx hb dL_law_1018 rfl (lv_at hl 1 rfl) ?_
  refine lw_ld (j := 1) hx hb hX hbl hH.2.2 hl hn hL3 (by decide) dL_law_1019 dL_law_1020 dL_law_1021 dL_law_1022 dL_law_1023 ?_
  refine lw_ld (j := 2) hx hb hX hbl hH.2.2 hl hn hL3 (by decide) dL_law_1024 dL_law_1025 dL_law_1026 dL_law_1027 dL_law_1028 ?_
  refine nm_calli (nm_runV (nn := 0) (As := [.int ((xs (6 * n + 1))), .int ((xs (6 * n + 2)))]) (k_X11_net (X := nm_w moN adM (nm_E Y adM (I, nJ0, moZ))) (nl := nl) hL hN (hf := e1)) hx hb hml hown hts (Nat.le_refl _) hK hZ hH mw_840 mw_837 mw_838 sw_X11_net tw_1 hd_X11_net (cl_n0 hL) (cl_k0 hL) (by decide) rfl rfl rfl ⟨Nat.le_of_ble_eq_true rfl, Nat.le_of_ble_eq_true rfl⟩ rfl hl.1 rfl (Nat.le_of_ble_eq_true rfl) dL_law_1029 ⟨by show cells + 0 ≤ 600000; omega, by show slots + 0 ≤ 7302250; omega⟩) hH (fun H locs hH => ?_)
  have hH := lw_swap hH
  refine lv_aload_n hx hb dL_law_1032 rfl (lv_at hl 2 rfl) ?_
  refine lw_ld (j := 1) hx hb hX hbl hH.2.2 hl hn hL3 (by decide) dL_law_1033 dL_law_1034 dL_law_1035 dL_law_1036 dL_law_1037 ?_
  refine lw_ld (j := 2) hx hb hX hbl hH.2.2 hl hn hL3 (by decide) dL_law_1038 dL_law_1039 dL_law_1040 dL_law_1041 dL_law_1042 ?_
  refine nm_calli (nm_runV (nn := 0) (As := [.int ((xs (6 * n + 1))), .int ((xs (6 * n + 2)))]) (k_X12_net (ad := adM) (hf := e2)) hx hb hml hown hts (Nat.le_refl _) hK hZ hH mw_1430 mw_1427 mw_1428 sw_X12_net tw_9 hd_X12_net mo_n0 mo_k0 (by decide) rfl rfl rfl ⟨Nat.le_of_ble_eq_true rfl, Nat.le_of_ble_eq_true rfl⟩ rfl hl.1 rfl (Nat.le_of_ble_eq_true rfl) dL_law_1043 ⟨by show cells + 0 ≤ 600000; omega, by show slots + 0 ≤ 7302250; omega⟩) hH (fun H locs hH => ?_)
  have hH := lw_swap hH
  refine lv_icmp_eq (tgt := 1373) hx hb dL_law_1046 (by decide) (fun c9 => ?_) (fun c9 => absurd rfl c9)
  exact kk nl ad adM K (M', S.2) I' H locs cells slots ls ⟨hH, hL, hR', by show _ ≤ _ + 2 * pt S.2; omega, by show _ ≤ _ + 2 * pt S.2; omega, hl⟩
set_option maxHeartbeats 1000000 in
theorem lc_21 {D : va_G} {Y : nm_Y} {p : Program} {e : Env} {s : State} {m : MethodId} {below : List Frame} {meth : Method} {c : Code} {l : Launch} {b Lx : Nat} {xs : Nat → Int32} (hC : lw_K D Y p s m c b Lx xs) : lw_G D Y p e s m below meth c l b Lx xs 1051 := by
  obtain ⟨hx, hb, hml, hown, hts, hK, hZ, hX, hbl⟩ := hC
  intro n nl ad adM K S I H locs cells slots ls hn hL3 hI kk
  obtain ⟨hH, hL, hR, hc, hs, hl⟩ := hI
  have hN : cl_N S.2 := hR.1.1
  have hp0 := pt_RR hR
  obtain ⟨r, M', I', e1, e2, hR'⟩ := s_name hR (xs (6 * n + 1)) (xs (6 * n + 2))
  refine lv_aload_n hx hb dL_law_1051 rfl (lv_at hl 1 rfl) ?_
  refine lw_ld (j := 1) hx hb hX hbl hH.2.2 hl hn hL3 (by decide) dL_law_1052 dL_law_1053 dL_law_1054 dL_law_1055 dL_law_1056 ?_
  refine lw_ld (j := 2) hx hb hX hbl hH.2.2 hl hn hL3 (by decide) dL_law_1057 dL_law_1058 dL_law_1059 dL_law_1060 dL_law_1061 ?_
  refine nm_calli (nm_runV (nn := 0) (As := [.int ((xs (6 * n + 1))), .int ((xs (6 * n + 2)))]) (k_X11_name (X := nm_w moN adM (nm_E Y adM (I, nJ0, moZ))) (nl := nl) hL hN (hf := e1)) hx hb hml hown hts (Nat.le_refl _) hK hZ hH mw_849 mw_846 mw_847 sw_X11_name tw_1 hd_X11_name (cl_n0 hL) (cl_k0 hL) (by decide) rfl rfl rfl ⟨Nat.le_of_ble_eq_true rfl, Nat.le_of_ble_eq_true rfl⟩ rfl hl.1 rfl (Nat.le_of_ble_eq_true rfl) dL_law_1062 ⟨by show cells + 0 ≤ 600000; omega, by show slots + 0 ≤ 7302250; omega⟩) hH (fun H locs hH => ?_)
  have hH := lw_swap hH
  refine lv_aload_n hx hb dL_law_1065 rfl (lv_at hl 2 rfl) ?_
  refine lw_ld (j := 1) hx hb hX hbl hH.2.2 hl hn hL3 (by decide) dL_law_1066 dL_law_1067 dL_law_1068 dL_law_1069 dL_law_1070 ?_
  refine lw_ld (j := 2) hx hb hX hbl hH.2.2 hl hn hL3 (by decide) dL_law_1071 dL_law_1072 dL_law_1073 dL_law_1074 dL_law_1075 ?_
  refine nm_calli (nm_runV (nn := 0) (As := [.int ((xs (6 * n + 1))), .int ((xs (6 * n + 2)))]) (k_X12_name (ad := adM) (hf := e2)) hx hb hml hown hts (Nat.le_refl _) hK hZ hH mw_1434 mw_1431 mw_1432 sw_X12_name tw_9 hd_X12_name mo_n0 mo_k0 (by decide) rfl rfl rfl ⟨Nat.le_of_ble_eq_true rfl, Nat.le_of_ble_eq_true rfl⟩ rfl hl.1 rfl (Nat.le_of_ble_eq_true rfl) dL_law_1076 ⟨by show cells + 0 ≤ 600000; omega, by show slots + 0 ≤ 7302250; omega⟩) hH (fun H locs hH => ?_)
  have hH := lw_swap hH
  refine lv_icmp_eq (tgt := 1373) hx hb dL_law_1079 (by decide) (fun c9 => ?_) (fun c9 => absurd rfl c9)
  exact kk nl ad adM K (M', S.2) I' H locs cells slots ls ⟨hH, hL, hR', by show _ ≤ _ + 2 * pt S.2; omega, by show _ ≤ _ + 2 * pt S.2; omega, hl⟩
set_option maxHeartbeats 1000000 in
theorem lc_22 {D : va_G} {Y : nm_Y} {p : Program} {e : Env} {s : State} {m : MethodId} {below : List Frame} {meth : Method} {c : Code} {l : Launch} {b Lx : Nat} {xs : Nat → Int32} (hC : lw_K D Y p s m c b Lx xs) : lw_G D Y p e s m below meth c l b Lx xs 1084 := by
  obtain ⟨hx, hb, hml, hown, hts, hK, hZ, hX, hbl⟩ := hC
  intro n nl ad adM K S I H locs cells slots ls hn hL3 hI kk
  obtain ⟨hH, hL, hR, hc, hs, hl⟩ := hI
  have hN : cl_N S.2 := hR.1.1
  have hp0 := pt_RR hR
  obtain ⟨r, M', I', e1, e2, hR'⟩ := s_device hR (xs (6 * n + 1)) (xs (6 * n + 2))
  refine lv_aload_n hx hb dL_law_1084 rfl (lv_at hl 1 rfl) ?_
  refine lw_ld (j := 1) hx hb hX hbl hH.2.2 hl hn hL3 (by decide) dL_law_1085 dL_law_1086 dL_law_1087 dL_law_1088 dL_law_1089 ?_
  refine lw_ld (j := 2) hx hb hX hbl hH.2.2 hl hn hL3 (by decide) dL_law_1090 dL_law_1091 dL_law_1092 dL_law_1093 dL_law_1094 ?_
  refine nm_calli (nm_runV (nn := 0) (As := [.int ((xs (6 * n + 1))), .int ((xs (6 * n + 2)))]) (k_X11_device (X := nm_w moN adM (nm_E Y adM (I, nJ0, moZ))) (nl := nl) hL hN (hf := e1)) hx hb hml hown hts (Nat.le_refl _) hK hZ hH mw_860 mw_857 mw_858 sw_X11_device tw_1 hd_X11_device (cl_n0 hL) (cl_k0 hL) (by decide) rfl rfl rfl ⟨Nat.le_of_ble_eq_true rfl, Nat.le_of_ble_eq_true rfl⟩ rfl hl.1 rfl (Nat.le_of_ble_eq_true rfl) dL_law_1095 ⟨by show cells + 0 ≤ 600000; omega, by show slots + 0 ≤ 7302250; omega⟩) hH (fun H locs hH => ?_)
  have hH := lw_swap hH
  refine lv_aload_n hx hb dL_law_1098 rfl (lv_at hl 2 rfl) ?_
  refine lw_ld (j := 1) hx hb hX hbl hH.2.2 hl hn hL3 (by decide) dL_law_1099 dL_law_1100 dL_law_1101 dL_law_1102 dL_law_1103 ?_
  refine lw_ld (j := 2) hx hb hX hbl hH.2.2 hl hn hL3 (by decide) dL_law_1104 dL_law_1105 dL_law_1106 dL_law_1107 dL_law_1108 ?_
  refine nm_calli (nm_runV (nn := 0) (As := [.int ((xs (6 * n + 1))), .int ((xs (6 * n + 2)))]) (k_X12_device (ad := adM) (hf := e2)) hx hb hml hown hts (Nat.le_refl _) hK hZ hH mw_1438 mw_1435 mw_1436 sw_X12_device tw_9 hd_X12_device mo_n0 mo_k0 (by decide) rfl rfl rfl ⟨Nat.le_of_ble_eq_true rfl, Nat.le_of_ble_eq_true rfl⟩ rfl hl.1 rfl (Nat.le_of_ble_eq_true rfl) dL_law_1109 ⟨by show cells + 0 ≤ 600000; omega, by show slots + 0 ≤ 7302250; omega⟩) hH (fun H locs hH => ?_)
  have hH := lw_swap hH
  refine lv_icmp_eq (tgt := 1373) hx hb dL_law_1112 (by decide) (fun c9 => ?_) (fun c9 => absurd rfl c9)
  exact kk nl ad adM K (M', S.2) I' H locs cells slots ls ⟨hH, hL, hR', by show _ ≤ _ + 2 * pt S.2; omega, by show _ ≤ _ + 2 * pt S.2; omega, hl⟩
set_option maxHeartbeats 1000000 in
theorem lc_23 {D : va_G} {Y : nm_Y} {p : Program} {e : Env} {s : State} {m : MethodId} {below : List Frame} {meth : Method} {c : Code} {l : Launch} {b Lx : Nat} {xs : Nat → Int32} (hC : lw_K D Y p s m c b Lx xs) : lw_G D Y p e s m below meth c l b Lx xs 1117 := by
  obtain ⟨hx, hb, hml, hown, hts, hK, hZ, hX, hbl⟩ := hC
  intro n nl ad adM K S I H locs cells slots ls hn hL3 hI kk
  obtain ⟨hH, hL, hR, hc, hs, hl⟩ := hI
  have hN : cl_N S.2 := hR.1.1
  have hp0 := pt_RR hR
  obtain ⟨r, M', I', e1, e2, hR'⟩ := s_wish hR (xs (6 * n + 1)) (xs (6 * n + 2))
  refine lv_aload_n hx hb dL_law_1117 rfl (lv_at hl 1 rfl) ?_
  refine lw_ld (j := 1) hx hb hX hbl hH.2.2 hl hn hL3 (by decide) dL_law_1118 dL_law_1119 dL_law_1120 dL_law_1121 dL_law_1122 ?_
  refine lw_ld (j := 2) hx hb hX hbl hH.2.2 hl hn hL3 (by decide) dL_law_1123 dL_law_1124 dL_law_1125 dL_law_1126 dL_law_1127 ?_
  refine nm_calli (nm_runV (nn := 0) (As := [.int ((xs (6 * n + 1))), .int ((xs (6 * n + 2)))]) (k_X11_wish (X := nm_w moN adM (nm_E Y adM (I, nJ0, moZ))) (nl := nl) hL hN (hf := e1)) hx hb hml hown hts (Nat.le_refl _) hK hZ hH mw_868 mw_865 mw_866 sw_X11_wish tw_1 hd_X11_wish (cl_n0 hL) (cl_k0 hL) (by decide) rfl rfl rfl ⟨Nat.le_of_ble_eq_true rfl, Nat.le_of_ble_eq_true rfl⟩ rfl hl.1 rfl (Nat.le_of_ble_eq_true rfl) dL_law_1128 ⟨by show cells + 0 ≤ 600000; omega, by show slots + 0 ≤ 7302250; omega⟩) hH (fun H locs hH => ?_)
  have hH := lw_swap hH
  refine lv_aload_n hx hb dL_law_1131 rfl (lv_at hl 2 rfl) ?_
  refine lw_ld (j := 1) hx hb hX hbl hH.2.2 hl hn hL3 (by decide) dL_law_1132 dL_law_1133 dL_law_1134 dL_law_1135 dL_law_1136 ?_
  refine lw_ld (j := 2) hx hb hX hbl hH.2.2 hl hn hL3 (by decide) dL_law_1137 dL_law_1138 dL_law_1139 dL_law_1140 dL_law_1141 ?_
  refine nm_calli (nm_runV (nn := 0) (As := [.int ((xs (6 * n + 1))), .int ((xs (6 * n + 2)))]) (k_X12_wish (ad := adM) (hf := e2)) hx hb hml hown hts (Nat.le_refl _) hK hZ hH mw_1442 mw_1439 mw_1440 sw_X12_wish tw_9 hd_X12_wish mo_n0 mo_k0 (by decide) rfl rfl rfl ⟨Nat.le_of_ble_eq_true rfl, Nat.le_of_ble_eq_true rfl⟩ rfl hl.1 rfl (Nat.le_of_ble_eq_true rfl) dL_law_1142 ⟨by show cells + 0 ≤ 600000; omega, by show slots + 0 ≤ 7302250; omega⟩) hH (fun H locs hH => ?_)
  have hH := lw_swap hH
  refine lv_icmp_eq (tgt := 1373) hx hb dL_law_1145 (by decide) (fun c9 => ?_) (fun c9 => absurd rfl c9)
  exact kk nl ad adM K (M', S.2) I' H locs cells slots ls ⟨hH, hL, hR', by show _ ≤ _ + 2 * pt S.2; omega, by show _ ≤ _ + 2 * pt S.2; omega, hl⟩
set_option maxHeartbeats 1000000 in
theorem lc_24 {D : va_G} {Y : nm_Y} {p : Program} {e : Env} {s : State} {m : MethodId} {below : List Frame} {meth : Method} {c : Code} {l : Launch} {b Lx : Nat} {xs : Nat → Int32} (hC : lw_K D Y p s m c b Lx xs) : lw_G D Y p e s m below meth c l b Lx xs 1150 := by
  obtain ⟨hx, hb, hml, hown, hts, hK, hZ, hX, hbl⟩ := hC
  intro n nl ad adM K S I H locs cells slots ls hn hL3 hI kk
  obtain ⟨hH, hL, hR, hc, hs, hl⟩ := hI
  have hN : cl_N S.2 := hR.1.1
  have hp0 := pt_RR hR
  obtain ⟨r, M', I', e1, e2, hR'⟩ := s_unwish hR 
  refine lv_aload_n hx hb dL_law_1150 rfl (lv_at hl 1 rfl) ?_
  refine nm_calli (nm_runV (nn := 0) (As := []) (k_X11_unwish (X := nm_w moN adM (nm_E Y adM (I, nJ0, moZ))) (nl := nl) hL hN (hf := e1)) hx hb hml hown hts (Nat.le_refl _) hK hZ hH mw_876 mw_873 mw_874 sw_X11_unwish tw_1 hd_X11_unwish (cl_n0 hL) (cl_k0 hL) (by decide) rfl rfl rfl ⟨Nat.le_of_ble_eq_true rfl, Nat.le_of_ble_eq_true rfl⟩ rfl hl.1 rfl (Nat.le_of_ble_eq_true rfl) dL_law_1151 ⟨by show cells + 0 ≤ 600000; omega, by show slots + 0 ≤ 7302250; omega⟩) hH (fun H locs hH => ?_)
  have hH := lw_swap hH
  refine lv_aload_n hx hb dL_law_1154 rfl (lv_at hl 2 rfl) ?_
  refine nm_calli (nm_runV (nn := 0) (As := []) (k_X12_unwish (ad := adM) (hf := e2)) hx hb hml hown hts (Nat.le_refl _) hK hZ hH mw_1447 mw_1444 mw_1445 sw_X12_unwish tw_9 hd_X12_unwish mo_n0 mo_k0 (by decide) rfl rfl rfl ⟨Nat.le_of_ble_eq_true rfl, Nat.le_of_ble_eq_true rfl⟩ rfl hl.1 rfl (Nat.le_of_ble_eq_true rfl) dL_law_1155 ⟨by show cells + 0 ≤ 600000; omega, by show slots + 0 ≤ 7302250; omega⟩) hH (fun H locs hH => ?_)
  have hH := lw_swap hH
  refine lv_icmp_eq (tgt := 1373) hx hb dL_law_1158 (by decide) (fun c9 => ?_) (fun c9 => absurd rfl c9)
  exact kk nl ad adM K (M', S.2) I' H locs cells slots ls ⟨hH, hL, hR', by show _ ≤ _ + 2 * pt S.2; omega, by show _ ≤ _ + 2 * pt S.2; omega, hl⟩
set_option maxHeartbeats 1000000 in
theorem lc_25 {D : va_G} {Y : nm_Y} {p : Program} {e : Env} {s : State} {m : MethodId} {below : List Frame} {meth : Method} {c : Code} {l : Launch} {b Lx : Nat} {xs : Nat → Int32} (hC : lw_K D Y p s m c b Lx xs) : lw_G D Y p e s m below meth c l b Lx xs 1163 := by
  obtain ⟨hx, hb, hml, hown, hts, hK, hZ, hX, hbl⟩ := hC
  intro n nl ad adM K S I H locs cells slots ls hn hL3 hI kk
  obtain ⟨hH, hL, hR, hc, hs, hl⟩ := hI
  have hN : cl_N S.2 := hR.1.1
  have hp0 := pt_RR hR
  obtain ⟨r, M', I', e1, e2, hR'⟩ := s_same hR 
  refine lv_aload_n hx hb dL_law_1163 rfl (lv_at hl 1 rfl) ?_
  refine nm_calli (nm_runV (nn := 0) (As := []) (k_X11_same (X := nm_w moN adM (nm_E Y adM (I, nJ0, moZ))) (nl := nl) hL hN (hf := e1)) hx hb hml hown hts (Nat.le_refl _) hK hZ hH mw_880 mw_877 mw_878 sw_X11_same tw_1 hd_X11_same (cl_n0 hL) (cl_k0 hL) (by decide) rfl rfl rfl ⟨Nat.le_of_ble_eq_true rfl, Nat.le_of_ble_eq_true rfl⟩ rfl hl.1 rfl (Nat.le_of_ble_eq_true rfl) dL_law_1164 ⟨by show cells + 0 ≤ 600000; omega, by show slots + 0 ≤ 7302250; omega⟩) hH (fun H locs hH => ?_)
  have hH := lw_swap hH
  refine lv_aload_n hx hb dL_law_1167 rfl (lv_at hl 2 rfl) ?_
  refine nm_calli (nm_runV (nn := 0) (As := []) (k_X12_same (ad := adM) (hf := e2)) hx hb hml hown hts (Nat.le_refl _) hK hZ hH mw_1451 mw_1448 mw_1449 sw_X12_same tw_9 hd_X12_same mo_n0 mo_k0 (by decide) rfl rfl rfl ⟨Nat.le_of_ble_eq_true rfl, Nat.le_of_ble_eq_true rfl⟩ rfl hl.1 rfl (Nat.le_of_ble_eq_true rfl) dL_law_1168 ⟨by show cells + 0 ≤ 600000; omega, by show slots + 0 ≤ 7302250; omega⟩) hH (fun H locs hH => ?_)
  have hH := lw_swap hH
  refine lv_icmp_eq (tgt := 1373) hx hb dL_law_1171 (by decide) (fun c9 => ?_) (fun c9 => absurd rfl c9)
  exact kk nl ad adM K (M', S.2) I' H locs cells slots ls ⟨hH, hL, hR', by show _ ≤ _ + 2 * pt S.2; omega, by show _ ≤ _ + 2 * pt S.2; omega, hl⟩
set_option maxHeartbeats 1000000 in
theorem lc_26 {D : va_G} {Y : nm_Y} {p : Program} {e : Env} {s : State} {m : MethodId} {below : List Frame} {meth : Method} {c : Code} {l : Launch} {b Lx : Nat} {xs : Nat → Int32} (hC : lw_K D Y p s m c b Lx xs) : lw_G D Y p e s m below meth c l b Lx xs 1176 := by
  obtain ⟨hx, hb, hml, hown, hts, hK, hZ, hX, hbl⟩ := hC
  intro n nl ad adM K S I H locs cells slots ls hn hL3 hI kk
  obtain ⟨hH, hL, hR, hc, hs, hl⟩ := hI
  have hN : cl_N S.2 := hR.1.1
  have hp0 := pt_RR hR
  have e1 := s_tries hR
  refine lv_aload_n hx hb dL_law_1176 rfl (lv_at hl 1 rfl) ?_
  refine nm_calli (nm_runV (nn := 0) (As := []) (k_X11_tries (X := nm_w moN adM (nm_E Y adM (I, nJ0, moZ))) (nl := nl) hL hN (hf := rfl)) hx hb hml hown hts (Nat.le_refl _) hK hZ hH mw_914 mw_911 mw_912 sw_X11_tries tw_1 hd_X11_tries (cl_n0 hL) (cl_k0 hL) (by decide) rfl rfl rfl ⟨Nat.le_of_ble_eq_true rfl, Nat.le_of_ble_eq_true rfl⟩ rfl hl.1 rfl (Nat.le_of_ble_eq_true rfl) dL_law_1177 ⟨by show cells + 0 ≤ 600000; omega, by show slots + 0 ≤ 7302250; omega⟩) hH (fun H locs hH => ?_)
  have hH := lw_swap hH
  refine lv_aload_n hx hb dL_law_1180 rfl (lv_at hl 2 rfl) ?_
  refine nm_calli (nm_runV (nn := 0) (As := []) (k_X12_tries (ad := adM) (hf := rfl)) hx hb hml hown hts (Nat.le_refl _) hK hZ hH mw_1479 mw_1476 mw_1477 sw_X12_tries tw_9 hd_X12_tries mo_n0 mo_k0 (by decide) rfl rfl rfl ⟨Nat.le_of_ble_eq_true rfl, Nat.le_of_ble_eq_true rfl⟩ rfl hl.1 rfl (Nat.le_of_ble_eq_true rfl) dL_law_1181 ⟨by show cells + 0 ≤ 600000; omega, by show slots + 0 ≤ 7302250; omega⟩) hH (fun H locs hH => ?_)
  have hH := lw_swap hH
  refine lv_icmp_eq (tgt := 1373) hx hb dL_law_1184 (by decide) (fun c9 => ?_) (fun c9 => absurd e1 c9)
  exact kk nl ad adM K S I H locs cells slots ls ⟨hH, hL, hR, by omega, by omega, hl⟩
set_option maxHeartbeats 1000000 in
theorem lc_27 {D : va_G} {Y : nm_Y} {p : Program} {e : Env} {s : State} {m : MethodId} {below : List Frame} {meth : Method} {c : Code} {l : Launch} {b Lx : Nat} {xs : Nat → Int32} (hC : lw_K D Y p s m c b Lx xs) : lw_G D Y p e s m below meth c l b Lx xs 1189 := by
  obtain ⟨hx, hb, hml, hown, hts, hK, hZ, hX, hbl⟩ := hC
  intro n nl ad adM K S I H locs cells slots ls hn hL3 hI kk
  obtain ⟨hH, hL, hR, hc, hs, hl⟩ := hI
  have hN : cl_N S.2 := hR.1.1
  have hp0 := pt_RR hR
  obtain ⟨r, M', I', e1, e2, hR'⟩ := s_pair hR (xs (6 * n + 1)) (bq (decide (xs (6 * n + 2) ≠ 0)))
  refine lv_aload_n hx hb dL_law_1189 rfl (lv_at hl 1 rfl) ?_
  refine lw_ld (j := 1) hx hb hX hbl hH.2.2 hl hn hL3 (by decide) dL_law_1190 dL_law_1191 dL_law_1192 dL_law_1193 dL_law_1194 ?_
  refine lw_ld (j := 2) hx hb hX hbl hH.2.2 hl hn hL3 (by decide) dL_law_1195 dL_law_1196 dL_law_1197 dL_law_1198 dL_law_1199 ?_
  refine lw_bool hx hb dL_law_1200 dL_law_1203 dL_law_1204 dL_law_1207 ?_
  refine nm_calli (nm_runV (nn := 0) (As := [.int ((xs (6 * n + 1))), .int (bq (decide (xs (6 * n + 2) ≠ 0)))]) (k_X11_pair (X := nm_w moN adM (nm_E Y adM (I, nJ0, moZ))) (nl := nl) hL hN (hf := e1)) hx hb hml hown hts (Nat.le_refl _) hK hZ hH mw_918 mw_915 mw_916 sw_X11_pair tw_1 hd_X11_pair (cl_n0 hL) (cl_k0 hL) (by decide) rfl rfl rfl ⟨Nat.le_of_ble_eq_true rfl, Nat.le_of_ble_eq_true rfl⟩ rfl hl.1 rfl (Nat.le_of_ble_eq_true rfl) dL_law_1208 ⟨by show cells + 0 ≤ 600000; omega, by show slots + 0 ≤ 7302250; omega⟩) hH (fun H locs hH => ?_)
  have hH := lw_swap hH
  refine lv_aload_n hx hb dL_law_1211 rfl (lv_at hl 2 rfl) ?_
  refine lw_ld (j := 1) hx hb hX hbl hH.2.2 hl hn hL3 (by decide) dL_law_1212 dL_law_1213 dL_law_1214 dL_law_1215 dL_law_1216 ?_
  refine lw_ld (j := 2) hx hb hX hbl hH.2.2 hl hn hL3 (by decide) dL_law_1217 dL_law_1218 dL_law_1219 dL_law_1220 dL_law_1221 ?_
  refine lw_bool hx hb dL_law_1222 dL_law_1225 dL_law_1226 dL_law_1229 ?_
  refine nm_calli (nm_runV (nn := 0) (As := [.int ((xs (6 * n + 1))), .int (bq (decide (xs (6 * n + 2) ≠ 0)))]) (k_X12_pair_ (ad := adM) (hf := e2)) hx hb hml hown hts (Nat.le_refl _) hK hZ hH mw_1483 mw_1480 mw_1481 sw_X12_pair_ tw_9 hd_X12_pair_ mo_n0 mo_k0 (by decide) rfl rfl rfl ⟨Nat.le_of_ble_eq_true rfl, Nat.le_of_ble_eq_true rfl⟩ rfl hl.1 rfl (Nat.le_of_ble_eq_true rfl) dL_law_1230 ⟨by show cells + 0 ≤ 600000; omega, by show slots + 0 ≤ 7302250; omega⟩) hH (fun H locs hH => ?_)
  have hH := lw_swap hH
  refine lv_icmp_eq (tgt := 1373) hx hb dL_law_1233 (by decide) (fun c9 => ?_) (fun c9 => absurd rfl c9)
  exact kk nl ad adM K (M', S.2) I' H locs cells slots ls ⟨hH, hL, hR', by show _ ≤ _ + 2 * pt S.2; omega, by show _ ≤ _ + 2 * pt S.2; omega, hl⟩
set_option maxHeartbeats 1000000 in
theorem lc_28 {D : va_G} {Y : nm_Y} {p : Program} {e : Env} {s : State} {m : MethodId} {below : List Frame} {meth : Method} {c : Code} {l : Launch} {b Lx : Nat} {xs : Nat → Int32} (hC : lw_K D Y p s m c b Lx xs) : lw_G D Y p e s m below meth c l b Lx xs 1238 := by
  obtain ⟨hx, hb, hml, hown, hts, hK, hZ, hX, hbl⟩ := hC
  intro n nl ad adM K S I H locs cells slots ls hn hL3 hI kk
  obtain ⟨hH, hL, hR, hc, hs, hl⟩ := hI
  have hN : cl_N S.2 := hR.1.1
  have hp0 := pt_RR hR
  obtain ⟨r, M', I', e1, e2, hR'⟩ := s_lay hR (xs (6 * n + 1)) (xs (6 * n + 2))
  refine lv_aload_n hx hb dL_law_1238 rfl (lv_at hl 1 rfl) ?_
  refine lw_ld (j := 1) hx hb hX hbl hH.2.2 hl hn hL3 (by decide) dL_law_1239 dL_law_1240 dL_law_1241 dL_law_1242 dL_law_1243 ?_
  refine lw_ld (j := 2) hx hb hX hbl hH.2.2 hl hn hL3 (by decide) dL_law_1244 dL_law_1245 dL_law_1246 dL_law_1247 dL_law_1248 ?_
  refine nm_calli (nm_runV (nn := 0) (As := [.int ((xs (6 * n + 1))), .int ((xs (6 * n + 2)))]) (k_X11_lay (X := nm_w moN adM (nm_E Y adM (I, nJ0, moZ))) (nl := nl) hL hN (hf := e1)) hx hb hml hown hts (Nat.le_refl _) hK hZ hH mw_928 mw_925 mw_926 sw_X11_lay tw_1 hd_X11_lay (cl_n0 hL) (cl_k0 hL) (by decide) rfl rfl rfl ⟨Nat.le_of_ble_eq_true rfl, Nat.le_of_ble_eq_true rfl⟩ rfl hl.1 rfl (Nat.le_of_ble_eq_true rfl) dL_law_1249 ⟨by show cells + 0 ≤ 600000; omega, by show slots + 0 ≤ 7302250; omega⟩) hH (fun H locs hH => ?_)
  have hH := lw_swap hH
  refine lv_aload_n hx hb dL_law_1252 rfl (lv_at hl 2 rfl) ?_
  refine lw_ld (j := 1) hx hb hX hbl hH.2.2 hl hn hL3 (by decide) dL_law_1253 dL_law_1254 dL_law_1255 dL_law_1256 dL_law_1257 ?_
  refine lw_ld (j := 2) hx hb hX hbl hH.2.2 hl hn hL3 (by decide) dL_law_1258 dL_law_1259 dL_law_1260 dL_law_1261 dL_law_1262 ?_
  refine nm_calli (nm_runV (nn := 0) (As := [.int ((xs (6 * n + 1))), .int ((xs (6 * n + 2)))]) (k_X12_lay (ad := adM) (hf := e2)) hx hb hml hown hts (Nat.le_refl _) hK hZ hH mw_1487 mw_1484 mw_1485 sw_X12_lay tw_9 hd_X12_lay mo_n0 mo_k0 (by decide) rfl rfl rfl ⟨Nat.le_of_ble_eq_true rfl, Nat.le_of_ble_eq_true rfl⟩ rfl hl.1 rfl (Nat.le_of_ble_eq_true rfl) dL_law_1263 ⟨by show cells + 0 ≤ 600000; omega, by show slots + 0 ≤ 7302250; omega⟩) hH (fun H locs hH => ?_)
  have hH := lw_swap hH
  refine lv_icmp_eq (tgt := 1373) hx hb dL_law_1266 (by decide) (fun c9 => ?_) (fun c9 => absurd rfl c9)
  exact kk nl ad adM K (M', S.2) I' H locs cells slots ls ⟨hH, hL, hR', by show _ ≤ _ + 2 * pt S.2; omega, by show _ ≤ _ + 2 * pt S.2; omega, hl⟩
set_option maxHeartbeats 1000000 in
theorem lc_29 {D : va_G} {Y : nm_Y} {p : Program} {e : Env} {s : State} {m : MethodId} {below : List Frame} {meth : Method} {c : Code} {l : Launch} {b Lx : Nat} {xs : Nat → Int32} (hC : lw_K D Y p s m c b Lx xs) : lw_G D Y p e s m below meth c l b Lx xs 1271 := by
  obtain ⟨hx, hb, hml, hown, hts, hK, hZ, hX, hbl⟩ := hC
  intro n nl ad adM K S I H locs cells slots ls hn hL3 hI kk
  obtain ⟨hH, hL, hR, hc, hs, hl⟩ := hI
  have hN : cl_N S.2 := hR.1.1
  have hp0 := pt_RR hR
  obtain ⟨r, M', I', e1, e2, hR'⟩ := s_tear hR 
  refine lv_aload_n hx hb dL_law_1271 rfl (lv_at hl 1 rfl) ?_
  refine nm_calli (nm_runV (nn := 0) (As := []) (k_X11_tear (X := nm_w moN adM (nm_E Y adM (I, nJ0, moZ))) (nl := nl) hL hN (hf := e1)) hx hb hml hown hts (Nat.le_refl _) hK hZ hH mw_933 mw_930 mw_931 sw_X11_tear tw_1 hd_X11_tear (cl_n0 hL) (cl_k0 hL) (by decide) rfl rfl rfl ⟨Nat.le_of_ble_eq_true rfl, Nat.le_of_ble_eq_true rfl⟩ rfl hl.1 rfl (Nat.le_of_ble_eq_true rfl) dL_law_1272 ⟨by show cells + 0 ≤ 600000; omega, by show slots + 0 ≤ 7302250; omega⟩) hH (fun H locs hH => ?_)
  have hH := lw_swap hH
  refine lv_aload_n hx hb dL_law_1275 rfl (lv_at hl 2 rfl) ?_
  refine nm_calli (nm_runV (nn := 0) (As := []) (k_X12_tear (ad := adM) (hf := e2)) hx hb hml hown hts (Nat.le_refl _) hK hZ hH mw_1491 mw_1488 mw_1489 sw_X12_tear tw_9 hd_X12_tear mo_n0 mo_k0 (by decide) rfl rfl rfl ⟨Nat.le_of_ble_eq_true rfl, Nat.le_of_ble_eq_true rfl⟩ rfl hl.1 rfl (Nat.le_of_ble_eq_true rfl) dL_law_1276 ⟨by show cells + 0 ≤ 600000; omega, by show slots + 0 ≤ 7302250; omega⟩) hH (fun H locs hH => ?_)
  have hH := lw_swap hH
  refine lv_icmp_eq (tgt := 1373) hx hb dL_law_1279 (by decide) (fun c9 => ?_) (fun c9 => absurd rfl c9)
  exact kk nl ad adM K (M', S.2) I' H locs cells slots ls ⟨hH, hL, hR', by show _ ≤ _ + 2 * pt S.2; omega, by show _ ≤ _ + 2 * pt S.2; omega, hl⟩
set_option maxHeartbeats 1000000 in
theorem lc_30 {D : va_G} {Y : nm_Y} {p : Program} {e : Env} {s : State} {m : MethodId} {below : List Frame} {meth : Method} {c : Code} {l : Launch} {b Lx : Nat} {xs : Nat → Int32} (hC : lw_K D Y p s m c b Lx xs) : lw_G D Y p e s m below meth c l b Lx xs 1284 := by
  obtain ⟨hx, hb, hml, hown, hts, hK, hZ, hX, hbl⟩ := hC
  intro n nl ad adM K S I H locs cells slots ls hn hL3 hI kk
  obtain ⟨hH, hL, hR, hc, hs, hl⟩ := hI
  have hN : cl_N S.2 := hR.1.1
  have hp0 := pt_RR hR
  obtain ⟨r, M', I', e1, e2, hR'⟩ := s_row hR (xs (6 * n + 1))
  refine lv_aload_n hx hb dL_law_1284 rfl (lv_at hl 1 rfl) ?_
  refine lw_ld (j := 1) hx hb hX hbl hH.2.2 hl hn hL3 (by decide) dL_law_1285 dL_law_1286 dL_law_1287 dL_law_1288 dL_law_1289 ?_
  refine nm_calli (nm_runV (nn := 0) (As := [.int ((xs (6 * n + 1)))]) (k_X11_row (X := nm_w moN adM (nm_E Y adM (I, nJ0, moZ))) (nl := nl) hL hN (hf := e1)) hx hb hml hown hts (Nat.le_refl _) hK hZ hH mw_937 mw_934 mw_935 sw_X11_row tw_1 hd_X11_row (cl_n0 hL) (cl_k0 hL) (by decide) rfl rfl rfl ⟨Nat.le_of_ble_eq_true rfl, Nat.le_of_ble_eq_true rfl⟩ rfl hl.1 rfl (Nat.le_of_ble_eq_true rfl) dL_law_1290 ⟨by show cells + 0 ≤ 600000; omega, by show slots + 0 ≤ 7302250; omega⟩) hH (fun H locs hH => ?_)
  have hH := lw_swap hH
  refine lv_aload_n hx hb dL_law_1293 rfl (lv_at hl 2 rfl) ?_
  refine lw_ld (j := 1) hx hb hX hbl hH.2.2 hl hn hL3 (by decide) dL_law_1294 dL_law_1295 dL_law_1296 dL_law_1297 dL_law_1298 ?_
  refine nm_calli (nm_runV (nn := 0) (As := [.int ((xs (6 * n + 1)))]) (k_X12_row (ad := adM) (hf := e2)) hx hb hml hown hts (Nat.le_refl _) hK hZ hH mw_1495 mw_1492 mw_1493 sw_X12_row tw_9 hd_X12_row mo_n0 mo_k0 (by decide) rfl rfl rfl ⟨Nat.le_of_ble_eq_true rfl, Nat.le_of_ble_eq_true rfl⟩ rfl hl.1 rfl (Nat.le_of_ble_eq_true rfl) dL_law_1299 ⟨by show cells + 0 ≤ 600000; omega, by show slots + 0 ≤ 7302250; omega⟩) hH (fun H locs hH => ?_)
  have hH := lw_swap hH
  refine lv_icmp_eq (tgt := 1373) hx hb dL_law_1302 (by decide) (fun c9 => ?_) (fun c9 => absurd rfl c9)
  exact kk nl ad adM K (M', S.2) I' H locs cells slots ls ⟨hH, hL, hR', by show _ ≤ _ + 2 * pt S.2; omega, by show _ ≤ _ + 2 * pt S.2; omega, hl⟩
set_option maxHeartbeats 1000000 in
theorem lc_31 {D : va_G} {Y : nm_Y} {p : Program} {e : Env} {s : State} {m : MethodId} {below : List Frame} {meth : Method} {c : Code} {l : Launch} {b Lx : Nat} {xs : Nat → Int32} (hC : lw_K D Y p s m c b Lx xs) : lw_G D Y p e s m below meth c l b Lx xs 1307 := by
  obtain ⟨hx, hb, hml, hown, hts, hK, hZ, hX, hbl⟩ := hC
  intro n nl ad adM K S I H locs cells slots ls hn hL3 hI kk
  obtain ⟨hH, hL, hR, hc, hs, hl⟩ := hI
  have hN : cl_N S.2 := hR.1.1
  have hp0 := pt_RR hR
  obtain ⟨r, M', I', e1, e2, hR'⟩ := s_copy hR (xs (6 * n + 1)) (xs (6 * n + 2)) (xs (6 * n + 3))
  refine lv_aload_n hx hb dL_law_1307 rfl (lv_at hl 1 rfl) ?_
  refine lw_ld (j := 1) hx hb hX hbl hH.2.2 hl hn hL3 (by decide) dL_law_1308 dL_law_1309 dL_law_1310 dL_law_1311 dL_law_1312 ?_
  refine lw_ld (j := 2) hx hb hX hbl hH.2.2 hl hn hL3 (by decide) dL_law_1313 dL_law_1314 dL_law_1315 dL_law_1316 dL_law_1317 ?_
  refine lw_ld (j := 3) hx hb hX hbl hH.2.2 hl hn hL3 (by decide) dL_law_1318 dL_law_1319 dL_law_1320 dL_law_1321 dL_law_1322 ?_
  refine nm_calli (nm_runV (nn := 0) (As := [.int ((xs (6 * n + 1))), .int ((xs (6 * n + 2))), .int ((xs (6 * n + 3)))]) (k_X11_copy (X := nm_w moN adM (nm_E Y adM (I, nJ0, moZ))) (nl := nl) hL hN (hf := e1)) hx hb hml hown hts (Nat.le_refl _) hK hZ hH mw_941 mw_938 mw_939 sw_X11_copy tw_1 hd_X11_copy (cl_n0 hL) (cl_k0 hL) (by decide) rfl rfl rfl ⟨Nat.le_of_ble_eq_true rfl, Nat.le_of_ble_eq_true rfl⟩ rfl hl.1 rfl (Nat.le_of_ble_eq_true rfl) dL_law_1323 ⟨by show cells + 0 ≤ 600000; omega, by show slots + 0 ≤ 7302250; omega⟩) hH (fun H locs hH => ?_)
  have hH := lw_swap hH
  refine lv_aload_n hx hb dL_law_1326 rfl (lv_at hl 2 rfl) ?_
  refine lw_ld (j := 1) hx hb hX hbl hH.2.2 hl hn hL3 (by decide) dL_law_1327 dL_law_1328 dL_law_1329 dL_law_1330 dL_law_1331 ?_
  refine lw_ld (j := 2) hx hb hX hbl hH.2.2 hl hn hL3 (by decide) dL_law_1332 dL_law_1333 dL_law_1334 dL_law_1335 dL_law_1336 ?_
  refine lw_ld (j := 3) hx hb hX hbl hH.2.2 hl hn hL3 (by decide) dL_law_1337 dL_law_1338 dL_law_1339 dL_law_1340 dL_law_1341 ?_
  refine nm_calli (nm_runV (nn := 0) (As := [.int ((xs (6 * n + 1))), .int ((xs (6 * n + 2))), .int ((xs (6 * n + 3)))]) (k_X12_copy (ad := adM) (hf := e2)) hx hb hml hown hts (Nat.le_refl _) hK hZ hH mw_1499 mw_1496 mw_1497 sw_X12_copy tw_9 hd_X12_copy mo_n0 mo_k0 (by decide) rfl rfl rfl ⟨Nat.le_of_ble_eq_true rfl, Nat.le_of_ble_eq_true rfl⟩ rfl hl.1 rfl (Nat.le_of_ble_eq_true rfl) dL_law_1342 ⟨by show cells + 0 ≤ 600000; omega, by show slots + 0 ≤ 7302250; omega⟩) hH (fun H locs hH => ?_)
  have hH := lw_swap hH
  refine lv_icmp_eq (tgt := 1373) hx hb dL_law_1345 (by decide) (fun c9 => ?_) (fun c9 => absurd rfl c9)
  exact kk nl ad adM K (M', S.2) I' H locs cells slots ls ⟨hH, hL, hR', by show _ ≤ _ + 2 * pt S.2; omega, by show _ ≤ _ + 2 * pt S.2; omega, hl⟩
set_option maxHeartbeats 1000000 in
theorem lc_32 {D : va_G} {Y : nm_Y} {p : Program} {e : Env} {s : State} {m : MethodId} {below : List Frame} {meth : Method} {c : Code} {l : Launch} {b Lx : Nat} {xs : Nat → Int32} (hC : lw_K D Y p s m c b Lx xs) : lw_G D Y p e s m below meth c l b Lx xs 1350 := by
  obtain ⟨hx, hb, hml, hown, hts, hK, hZ, hX, hbl⟩ := hC
  intro n nl ad adM K S I H locs cells slots ls hn hL3 hI kk
  obtain ⟨hH, hL, hR, hc, hs, hl⟩ := hI
  have hN : cl_N S.2 := hR.1.1
  have hp0 := pt_RR hR
  obtain ⟨r, M', I', e1, e2, hR'⟩ := s_status hR (xs (6 * n + 1))
  refine lv_aload_n hx hb dL_law_1350 rfl (lv_at hl 1 rfl) ?_
  refine lw_ld (j := 1) hx hb hX hbl hH.2.2 hl hn hL3 (by decide) dL_law_1351 dL_law_1352 dL_law_1353 dL_law_1354 dL_law_1355 ?_
  refine nm_calli (nm_runV (nn := 0) (As := [.int ((xs (6 * n + 1)))]) (k_X11_status (X := nm_w moN adM (nm_E Y adM (I, nJ0, moZ))) (nl := nl) hL hN (hf := e1)) hx hb hml hown hts (Nat.le_refl _) hK hZ hH mw_947 mw_944 mw_945 sw_X11_status tw_1 hd_X11_status (cl_n0 hL) (cl_k0 hL) (by decide) rfl rfl rfl ⟨Nat.le_of_ble_eq_true rfl, Nat.le_of_ble_eq_true rfl⟩ rfl hl.1 rfl (Nat.le_of_ble_eq_true rfl) dL_law_1356 ⟨by show cells + 0 ≤ 600000; omega, by show slots + 0 ≤ 7302250; omega⟩) hH (fun H locs hH => ?_)
  have hH := lw_swap hH
  refine lv_aload_n hx hb dL_law_1359 rfl (lv_at hl 2 rfl) ?_
  refine lw_ld (j := 1) hx hb hX hbl hH.2.2 hl hn hL3 (by decide) dL_law_1360 dL_law_1361 dL_law_1362 dL_law_1363 dL_law_1364 ?_
  refine nm_calli (nm_runV (nn := 0) (As := [.int ((xs (6 * n + 1)))]) (k_X12_status (ad := adM) (hf := e2)) hx hb hml hown hts (Nat.le_refl _) hK hZ hH mw_1503 mw_1500 mw_1501 sw_X12_status tw_9 hd_X12_status mo_n0 mo_k0 (by decide) rfl rfl rfl ⟨Nat.le_of_ble_eq_true rfl, Nat.le_of_ble_eq_true rfl⟩ rfl hl.1 rfl (Nat.le_of_ble_eq_true rfl) dL_law_1365 ⟨by show cells + 0 ≤ 600000; omega, by show slots + 0 ≤ 7302250; omega⟩) hH (fun H locs hH => ?_)
  have hH := lw_swap hH
  refine lv_icmp_eq (tgt := 1373) hx hb dL_law_1368 (by decide) (fun c9 => ?_) (fun c9 => absurd rfl c9)
  exact kk nl ad adM K (M', S.2) I' H locs cells slots ls ⟨hH, hL, hR', by show _ ≤ _ + 2 * pt S.2; omega, by show _ ≤ _ + 2 * pt S.2; omega, hl⟩
