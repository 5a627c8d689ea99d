theorem tww_345 : (Jvm.Cond.methodLink "TwoWayLinesLaw" (13 : Nat) ({ cls := "TwoWayLines", name := "add", desc := "(IIII)Z" } : Jvm.MethodName)) ∈ tw_Wg := tw_Wg_of (i := 345) (by decide +kernel) rfl
theorem tww_346 : (Jvm.Cond.instanceMethod ({ cls := "TwoWayLines", name := "add", desc := "(IIII)Z" } : Jvm.MethodName)) ∈ tw_Wg := tw_Wg_of (i := 346) (by decide +kernel) rfl
theorem tww_347 : (Jvm.Cond.selects "TwoWayLines" ({ cls := "TwoWayLines", name := "add", desc := "(IIII)Z" } : Jvm.MethodName) ({ cls := "TwoWayLines", name := "add", desc := "(IIII)Z" } : Jvm.MethodName)) ∈ tw_Wg := tw_Wg_of (i := 347) (by decide +kernel) rfl
theorem tww_348 : (Jvm.Cond.code ({ cls := "TwoWayLines", name := "add", desc := "(IIII)Z" } : Jvm.MethodName) prog_1_method_2_code (5 : Nat) (Option.some Jvm.ClassFile.FieldType.boolean)) ∈ tw_Wg := tw_Wg_of (i := 348) (by decide +kernel) rfl
theorem tww_356 : (Jvm.Cond.methodLink "TwoWayLinesLaw" (18 : Nat) ({ cls := "TwoWayLines", name := "drop", desc := "()Z" } : Jvm.MethodName)) ∈ tw_Wg := tw_Wg_of (i := 356) (by decide +kernel) rfl
theorem tww_357 : (Jvm.Cond.instanceMethod ({ cls := "TwoWayLines", name := "drop", desc := "()Z" } : Jvm.MethodName)) ∈ tw_Wg := tw_Wg_of (i := 357) (by decide +kernel) rfl
theorem tww_358 : (Jvm.Cond.selects "TwoWayLines" ({ cls := "TwoWayLines", name := "drop", desc := "()Z" } : Jvm.MethodName) ({ cls := "TwoWayLines", name := "drop", desc := "()Z" } : Jvm.MethodName)) ∈ tw_Wg := tw_Wg_of (i := 358) (by decide +kernel) rfl
theorem tww_359 : (Jvm.Cond.code ({ cls := "TwoWayLines", name := "drop", desc := "()Z" } : Jvm.MethodName) prog_1_method_3_code (1 : Nat) (Option.some Jvm.ClassFile.FieldType.boolean)) ∈ tw_Wg := tw_Wg_of (i := 359) (by decide +kernel) rfl
theorem tww_360 : (Jvm.Cond.methodLink "TwoWayLinesLaw" (23 : Nat) ({ cls := "TwoWayLines", name := "clear", desc := "()V" } : Jvm.MethodName)) ∈ tw_Wg := tw_Wg_of (i := 360) (by decide +kernel) rfl
theorem tww_361 : (Jvm.Cond.instanceMethod ({ cls := "TwoWayLines", name := "clear", desc := "()V" } : Jvm.MethodName)) ∈ tw_Wg := tw_Wg_of (i := 361) (by decide +kernel) rfl
theorem tww_362 : (Jvm.Cond.selects "TwoWayLines" ({ cls := "TwoWayLines", name := "clear", desc := "()V" } : Jvm.MethodName) ({ cls := "TwoWayLines", name := "clear", desc := "()V" } : Jvm.MethodName)) ∈ tw_Wg := tw_Wg_of (i := 362) (by decide +kernel) rfl
theorem tww_363 : (Jvm.Cond.code ({ cls := "TwoWayLines", name := "clear", desc := "()V" } : Jvm.MethodName) prog_1_method_4_code (1 : Nat) (Option.none : Option Jvm.ClassFile.FieldType)) ∈ tw_Wg := tw_Wg_of (i := 363) (by decide +kernel) rfl
theorem tww_364 : (Jvm.Cond.methodLink "TwoWayLinesLaw" (27 : Nat) ({ cls := "TwoWayLines", name := "base", desc := "(I)Z" } : Jvm.MethodName)) ∈ tw_Wg := tw_Wg_of (i := 364) (by decide +kernel) rfl
theorem tww_365 : (Jvm.Cond.instanceMethod ({ cls := "TwoWayLines", name := "base", desc := "(I)Z" } : Jvm.MethodName)) ∈ tw_Wg := tw_Wg_of (i := 365) (by decide +kernel) rfl
theorem tww_366 : (Jvm.Cond.selects "TwoWayLines" ({ cls := "TwoWayLines", name := "base", desc := "(I)Z" } : Jvm.MethodName) ({ cls := "TwoWayLines", name := "base", desc := "(I)Z" } : Jvm.MethodName)) ∈ tw_Wg := tw_Wg_of (i := 366) (by decide +kernel) rfl
theorem tww_367 : (Jvm.Cond.code ({ cls := "TwoWayLines", name := "base", desc := "(I)Z" } : Jvm.MethodName) prog_1_method_5_code (2 : Nat) (Option.some Jvm.ClassFile.FieldType.boolean)) ∈ tw_Wg := tw_Wg_of (i := 367) (by decide +kernel) rfl
theorem tww_368 : (Jvm.Cond.methodLink "TwoWayLinesLaw" (32 : Nat) ({ cls := "TwoWayLines", name := "measure", desc := "(I)Z" } : Jvm.MethodName)) ∈ tw_Wg := tw_Wg_of (i := 368) (by decide +kernel) rfl
theorem tww_369 : (Jvm.Cond.instanceMethod ({ cls := "TwoWayLines", name := "measure", desc := "(I)Z" } : Jvm.MethodName)) ∈ tw_Wg := tw_Wg_of (i := 369) (by decide +kernel) rfl
theorem tww_370 : (Jvm.Cond.selects "TwoWayLines" ({ cls := "TwoWayLines", name := "measure", desc := "(I)Z" } : Jvm.MethodName) ({ cls := "TwoWayLines", name := "measure", desc := "(I)Z" } : Jvm.MethodName)) ∈ tw_Wg := tw_Wg_of (i := 370) (by decide +kernel) rfl
theorem tww_371 : (Jvm.Cond.code ({ cls := "TwoWayLines", name := "measure", desc := "(I)Z" } : Jvm.MethodName) prog_1_method_6_code (2 : Nat) (Option.some Jvm.ClassFile.FieldType.boolean)) ∈ tw_Wg := tw_Wg_of (i := 371) (by decide +kernel) rfl
theorem tww_372 : (Jvm.Cond.methodLink "TwoWayLinesLaw" (36 : Nat) ({ cls := "TwoWayLines", name := "length", desc := "()I" } : Jvm.MethodName)) ∈ tw_Wg := tw_Wg_of (i := 372) (by decide +kernel) rfl
theorem tww_373 : (Jvm.Cond.instanceMethod ({ cls := "TwoWayLines", name := "length", desc := "()I" } : Jvm.MethodName)) ∈ tw_Wg := tw_Wg_of (i := 373) (by decide +kernel) rfl
theorem tww_374 : (Jvm.Cond.selects "TwoWayLines" ({ cls := "TwoWayLines", name := "length", desc := "()I" } : Jvm.MethodName) ({ cls := "TwoWayLines", name := "length", desc := "()I" } : Jvm.MethodName)) ∈ tw_Wg := tw_Wg_of (i := 374) (by decide +kernel) rfl
theorem tww_375 : (Jvm.Cond.code ({ cls := "TwoWayLines", name := "length", desc := "()I" } : Jvm.MethodName) prog_1_method_7_code (1 : Nat) (Option.some Jvm.ClassFile.FieldType.int)) ∈ tw_Wg := tw_Wg_of (i := 375) (by decide +kernel) rfl
theorem tww_376 : (Jvm.Cond.methodLink "TwoWayLinesLaw" (41 : Nat) ({ cls := "TwoWayLines", name := "paragraphLevel", desc := "()I" } : Jvm.MethodName)) ∈ tw_Wg := tw_Wg_of (i := 376) (by decide +kernel) rfl
theorem tww_377 : (Jvm.Cond.instanceMethod ({ cls := "TwoWayLines", name := "paragraphLevel", desc := "()I" } : Jvm.MethodName)) ∈ tw_Wg := tw_Wg_of (i := 377) (by decide +kernel) rfl
theorem tww_378 : (Jvm.Cond.selects "TwoWayLines" ({ cls := "TwoWayLines", name := "paragraphLevel", desc := "()I" } : Jvm.MethodName) ({ cls := "TwoWayLines", name := "paragraphLevel", desc := "()I" } : Jvm.MethodName)) ∈ tw_Wg := tw_Wg_of (i := 378) (by decide +kernel) rfl
theorem tww_379 : (Jvm.Cond.code ({ cls := "TwoWayLines", name := "paragraphLevel", desc := "()I" } : Jvm.MethodName) prog_1_method_8_code (1 : Nat) (Option.some Jvm.ClassFile.FieldType.int)) ∈ tw_Wg := tw_Wg_of (i := 379) (by decide +kernel) rfl
theorem tww_629 : (Jvm.Cond.methodLink "TwoWayLinesLaw" (45 : Nat) ({ cls := "TwoWayLines", name := "match", desc := "(I)I" } : Jvm.MethodName)) ∈ tw_Wg := tw_Wg_of (i := 629) (by decide +kernel) rfl
theorem tww_630 : (Jvm.Cond.instanceMethod ({ cls := "TwoWayLines", name := "match", desc := "(I)I" } : Jvm.MethodName)) ∈ tw_Wg := tw_Wg_of (i := 630) (by decide +kernel) rfl
theorem tww_631 : (Jvm.Cond.selects "TwoWayLines" ({ cls := "TwoWayLines", name := "match", desc := "(I)I" } : Jvm.MethodName) ({ cls := "TwoWayLines", name := "match", desc := "(I)I" } : Jvm.MethodName)) ∈ tw_Wg := tw_Wg_of (i := 631) (by decide +kernel) rfl
theorem tww_632 : (Jvm.Cond.code ({ cls := "TwoWayLines", name := "match", desc := "(I)I" } : Jvm.MethodName) prog_1_method_9_code (2 : Nat) (Option.some Jvm.ClassFile.FieldType.int)) ∈ tw_Wg := tw_Wg_of (i := 632) (by decide +kernel) rfl
theorem tww_637 : (Jvm.Cond.methodLink "TwoWayLinesLaw" (50 : Nat) ({ cls := "TwoWayLines", name := "partner", desc := "(I)I" } : Jvm.MethodName)) ∈ tw_Wg := tw_Wg_of (i := 637) (by decide +kernel) rfl
theorem tww_638 : (Jvm.Cond.instanceMethod ({ cls := "TwoWayLines", name := "partner", desc := "(I)I" } : Jvm.MethodName)) ∈ tw_Wg := tw_Wg_of (i := 638) (by decide +kernel) rfl
theorem tww_639 : (Jvm.Cond.selects "TwoWayLines" ({ cls := "TwoWayLines", name := "partner", desc := "(I)I" } : Jvm.MethodName) ({ cls := "TwoWayLines", name := "partner", desc := "(I)I" } : Jvm.MethodName)) ∈ tw_Wg := tw_Wg_of (i := 639) (by decide +kernel) rfl
theorem tww_640 : (Jvm.Cond.code ({ cls := "TwoWayLines", name := "partner", desc := "(I)I" } : Jvm.MethodName) prog_1_method_10_code (2 : Nat) (Option.some Jvm.ClassFile.FieldType.int)) ∈ tw_Wg := tw_Wg_of (i := 640) (by decide +kernel) rfl
theorem tww_641 : (Jvm.Cond.methodLink "TwoWayLinesLaw" (54 : Nat) ({ cls := "TwoWayLines", name := "type", desc := "(I)I" } : Jvm.MethodName)) ∈ tw_Wg := tw_Wg_of (i := 641) (by decide +kernel) rfl
theorem tww_642 : (Jvm.Cond.instanceMethod ({ cls := "TwoWayLines", name := "type", desc := "(I)I" } : Jvm.MethodName)) ∈ tw_Wg := tw_Wg_of (i := 642) (by decide +kernel) rfl
theorem tww_643 : (Jvm.Cond.selects "TwoWayLines" ({ cls := "TwoWayLines", name := "type", desc := "(I)I" } : Jvm.MethodName) ({ cls := "TwoWayLines", name := "type", desc := "(I)I" } : Jvm.MethodName)) ∈ tw_Wg := tw_Wg_of (i := 643) (by decide +kernel) rfl
theorem tww_644 : (Jvm.Cond.code ({ cls := "TwoWayLines", name := "type", desc := "(I)I" } : Jvm.MethodName) prog_1_method_11_code (2 : Nat) (Option.some Jvm.ClassFile.FieldType.int)) ∈ tw_Wg := tw_Wg_of (i := 644) (by decide +kernel) rfl
theorem tww_645 : (Jvm.Cond.methodLink "TwoWayLinesLaw" (58 : Nat) ({ cls := "TwoWayLines", name := "level", desc := "(I)I" } : Jvm.MethodName)) ∈ tw_Wg := tw_Wg_of (i := 645) (by decide +kernel) rfl
theorem tww_646 : (Jvm.Cond.instanceMethod ({ cls := "TwoWayLines", name := "level", desc := "(I)I" } : Jvm.MethodName)) ∈ tw_Wg := tw_Wg_of (i := 646) (by decide +kernel) rfl
theorem tww_647 : (Jvm.Cond.selects "TwoWayLines" ({ cls := "TwoWayLines", name := "level", desc := "(I)I" } : Jvm.MethodName) ({ cls := "TwoWayLines", name := "level", desc := "(I)I" } : Jvm.MethodName)) ∈ tw_Wg := tw_Wg_of (i := 647) (by decide +kernel) rfl
theorem tww_648 : (Jvm.Cond.code ({ cls := "TwoWayLines", name := "level", desc := "(I)I" } : Jvm.MethodName) prog_1_method_12_code (2 : Nat) (Option.some Jvm.ClassFile.FieldType.int)) ∈ tw_Wg := tw_Wg_of (i := 648) (by decide +kernel) rfl
theorem tww_649 : (Jvm.Cond.methodLink "TwoWayLinesLaw" (62 : Nat) ({ cls := "TwoWayLines", name := "mayBreak", desc := "(I)Z" } : Jvm.MethodName)) ∈ tw_Wg := tw_Wg_of (i := 649) (by decide +kernel) rfl
theorem tww_650 : (Jvm.Cond.instanceMethod ({ cls := "TwoWayLines", name := "mayBreak", desc := "(I)Z" } : Jvm.MethodName)) ∈ tw_Wg := tw_Wg_of (i := 650) (by decide +kernel) rfl
theorem tww_651 : (Jvm.Cond.selects "TwoWayLines" ({ cls := "TwoWayLines", name := "mayBreak", desc := "(I)Z" } : Jvm.MethodName) ({ cls := "TwoWayLines", name := "mayBreak", desc := "(I)Z" } : Jvm.MethodName)) ∈ tw_Wg := tw_Wg_of (i := 651) (by decide +kernel) rfl
theorem tww_652 : (Jvm.Cond.code ({ cls := "TwoWayLines", name := "mayBreak", desc := "(I)Z" } : Jvm.MethodName) prog_1_method_13_code (2 : Nat) (Option.some Jvm.ClassFile.FieldType.boolean)) ∈ tw_Wg := tw_Wg_of (i := 652) (by decide +kernel) rfl
theorem tww_653 : (Jvm.Cond.methodLink "TwoWayLinesLaw" (66 : Nat) ({ cls := "TwoWayLines", name := "lines", desc := "()I" } : Jvm.MethodName)) ∈ tw_Wg := tw_Wg_of (i := 653) (by decide +kernel) rfl
theorem tww_654 : (Jvm.Cond.instanceMethod ({ cls := "TwoWayLines", name := "lines", desc := "()I" } : Jvm.MethodName)) ∈ tw_Wg := tw_Wg_of (i := 654) (by decide +kernel) rfl
theorem tww_655 : (Jvm.Cond.selects "TwoWayLines" ({ cls := "TwoWayLines", name := "lines", desc := "()I" } : Jvm.MethodName) ({ cls := "TwoWayLines", name := "lines", desc := "()I" } : Jvm.MethodName)) ∈ tw_Wg := tw_Wg_of (i := 655) (by decide +kernel) rfl
theorem tww_656 : (Jvm.Cond.code ({ cls := "TwoWayLines", name := "lines", desc := "()I" } : Jvm.MethodName) prog_1_method_14_code (1 : Nat) (Option.some Jvm.ClassFile.FieldType.int)) ∈ tw_Wg := tw_Wg_of (i := 656) (by decide +kernel) rfl
theorem tww_657 : (Jvm.Cond.methodLink "TwoWayLinesLaw" (70 : Nat) ({ cls := "TwoWayLines", name := "start", desc := "(I)I" } : Jvm.MethodName)) ∈ tw_Wg := tw_Wg_of (i := 657) (by decide +kernel) rfl
theorem tww_658 : (Jvm.Cond.instanceMethod ({ cls := "TwoWayLines", name := "start", desc := "(I)I" } : Jvm.MethodName)) ∈ tw_Wg := tw_Wg_of (i := 658) (by decide +kernel) rfl
theorem tww_659 : (Jvm.Cond.selects "TwoWayLines" ({ cls := "TwoWayLines", name := "start", desc := "(I)I" } : Jvm.MethodName) ({ cls := "TwoWayLines", name := "start", desc := "(I)I" } : Jvm.MethodName)) ∈ tw_Wg := tw_Wg_of (i := 659) (by decide +kernel) rfl
theorem tww_660 : (Jvm.Cond.code ({ cls := "TwoWayLines", name := "start", desc := "(I)I" } : Jvm.MethodName) prog_1_method_15_code (2 : Nat) (Option.some Jvm.ClassFile.FieldType.int)) ∈ tw_Wg := tw_Wg_of (i := 660) (by decide +kernel) rfl
theorem tww_661 : (Jvm.Cond.methodLink "TwoWayLinesLaw" (74 : Nat) ({ cls := "TwoWayLines", name := "extent", desc := "(I)I" } : Jvm.MethodName)) ∈ tw_Wg := tw_Wg_of (i := 661) (by decide +kernel) rfl
theorem tww_662 : (Jvm.Cond.instanceMethod ({ cls := "TwoWayLines", name := "extent", desc := "(I)I" } : Jvm.MethodName)) ∈ tw_Wg := tw_Wg_of (i := 662) (by decide +kernel) rfl
theorem tww_663 : (Jvm.Cond.selects "TwoWayLines" ({ cls := "TwoWayLines", name := "extent", desc := "(I)I" } : Jvm.MethodName) ({ cls := "TwoWayLines", name := "extent", desc := "(I)I" } : Jvm.MethodName)) ∈ tw_Wg := tw_Wg_of (i := 663) (by decide +kernel) rfl
theorem tww_664 : (Jvm.Cond.code ({ cls := "TwoWayLines", name := "extent", desc := "(I)I" } : Jvm.MethodName) prog_1_method_16_code (2 : Nat) (Option.some Jvm.ClassFile.FieldType.int)) ∈ tw_Wg := tw_Wg_of (i := 664) (by decide +kernel) rfl
theorem tww_669 : (Jvm.Cond.methodLink "TwoWayLinesLaw" (78 : Nat) ({ cls := "TwoWayLines", name := "shownLevel", desc := "(I)I" } : Jvm.MethodName)) ∈ tw_Wg := tw_Wg_of (i := 669) (by decide +kernel) rfl
theorem tww_670 : (Jvm.Cond.instanceMethod ({ cls := "TwoWayLines", name := "shownLevel", desc := "(I)I" } : Jvm.MethodName)) ∈ tw_Wg := tw_Wg_of (i := 670) (by decide +kernel) rfl
theorem tww_671 : (Jvm.Cond.selects "TwoWayLines" ({ cls := "TwoWayLines", name := "shownLevel", desc := "(I)I" } : Jvm.MethodName) ({ cls := "TwoWayLines", name := "shownLevel", desc := "(I)I" } : Jvm.MethodName)) ∈ tw_Wg := tw_Wg_of (i := 671) (by decide +kernel) rfl
theorem tww_672 : (Jvm.Cond.code ({ cls := "TwoWayLines", name := "shownLevel", desc := "(I)I" } : Jvm.MethodName) prog_1_method_17_code (2 : Nat) (Option.some Jvm.ClassFile.FieldType.int)) ∈ tw_Wg := tw_Wg_of (i := 672) (by decide +kernel) rfl
theorem tww_673 : (Jvm.Cond.methodLink "TwoWayLinesLaw" (82 : Nat) ({ cls := "TwoWayLines", name := "shown", desc := "(II)I" } : Jvm.MethodName)) ∈ tw_Wg := tw_Wg_of (i := 673) (by decide +kernel) rfl
theorem tww_674 : (Jvm.Cond.instanceMethod ({ cls := "TwoWayLines", name := "shown", desc := "(II)I" } : Jvm.MethodName)) ∈ tw_Wg := tw_Wg_of (i := 674) (by decide +kernel) rfl
theorem tww_675 : (Jvm.Cond.selects "TwoWayLines" ({ cls := "TwoWayLines", name := "shown", desc := "(II)I" } : Jvm.MethodName) ({ cls := "TwoWayLines", name := "shown", desc := "(II)I" } : Jvm.MethodName)) ∈ tw_Wg := tw_Wg_of (i := 675) (by decide +kernel) rfl
theorem tww_676 : (Jvm.Cond.code ({ cls := "TwoWayLines", name := "shown", desc := "(II)I" } : Jvm.MethodName) prog_1_method_18_code (5 : Nat) (Option.some Jvm.ClassFile.FieldType.int)) ∈ tw_Wg := tw_Wg_of (i := 676) (by decide +kernel) rfl
theorem tww_677 : (Jvm.Cond.methodLink "TwoWayLinesLaw" (87 : Nat) ({ cls := "TwoWayLines", name := "mirrored", desc := "(I)Z" } : Jvm.MethodName)) ∈ tw_Wg := tw_Wg_of (i := 677) (by decide +kernel) rfl
theorem tww_678 : (Jvm.Cond.instanceMethod ({ cls := "TwoWayLines", name := "mirrored", desc := "(I)Z" } : Jvm.MethodName)) ∈ tw_Wg := tw_Wg_of (i := 678) (by decide +kernel) rfl
theorem tww_679 : (Jvm.Cond.selects "TwoWayLines" ({ cls := "TwoWayLines", name := "mirrored", desc := "(I)Z" } : Jvm.MethodName) ({ cls := "TwoWayLines", name := "mirrored", desc := "(I)Z" } : Jvm.MethodName)) ∈ tw_Wg := tw_Wg_of (i := 679) (by decide +kernel) rfl
theorem tww_680 : (Jvm.Cond.code ({ cls := "TwoWayLines", name := "mirrored", desc := "(I)Z" } : Jvm.MethodName) prog_1_method_19_code (2 : Nat) (Option.some Jvm.ClassFile.FieldType.boolean)) ∈ tw_Wg := tw_Wg_of (i := 680) (by decide +kernel) rfl
theorem tww_781 : (Jvm.Cond.methodLink "TwoWayLinesLaw" (17 : Nat) ({ cls := "TwoWayLinesModel", name := "add", desc := "(IIII)Z" } : Jvm.MethodName)) ∈ tw_Wg := tw_Wg_of (i := 781) (by decide +kernel) rfl
theorem tww_782 : (Jvm.Cond.instanceMethod ({ cls := "TwoWayLinesModel", name := "add", desc := "(IIII)Z" } : Jvm.MethodName)) ∈ tw_Wg := tw_Wg_of (i := 782) (by decide +kernel) rfl
theorem tww_783 : (Jvm.Cond.selects "TwoWayLinesModel" ({ cls := "TwoWayLinesModel", name := "add", desc := "(IIII)Z" } : Jvm.MethodName) ({ cls := "TwoWayLinesModel", name := "add", desc := "(IIII)Z" } : Jvm.MethodName)) ∈ tw_Wg := tw_Wg_of (i := 783) (by decide +kernel) rfl
theorem tww_784 : (Jvm.Cond.code ({ cls := "TwoWayLinesModel", name := "add", desc := "(IIII)Z" } : Jvm.MethodName) prog_11_method_2_code (5 : Nat) (Option.some Jvm.ClassFile.FieldType.boolean)) ∈ tw_Wg := tw_Wg_of (i := 784) (by decide +kernel) rfl
theorem tww_785 : (Jvm.Cond.methodLink "TwoWayLinesLaw" (22 : Nat) ({ cls := "TwoWayLinesModel", name := "drop", desc := "()Z" } : Jvm.MethodName)) ∈ tw_Wg := tw_Wg_of (i := 785) (by decide +kernel) rfl
theorem tww_786 : (Jvm.Cond.instanceMethod ({ cls := "TwoWayLinesModel", name := "drop", desc := "()Z" } : Jvm.MethodName)) ∈ tw_Wg := tw_Wg_of (i := 786) (by decide +kernel) rfl
theorem tww_787 : (Jvm.Cond.selects "TwoWayLinesModel" ({ cls := "TwoWayLinesModel", name := "drop", desc := "()Z" } : Jvm.MethodName) ({ cls := "TwoWayLinesModel", name := "drop", desc := "()Z" } : Jvm.MethodName)) ∈ tw_Wg := tw_Wg_of (i := 787) (by decide +kernel) rfl
theorem tww_788 : (Jvm.Cond.code ({ cls := "TwoWayLinesModel", name := "drop", desc := "()Z" } : Jvm.MethodName) prog_11_method_3_code (2 : Nat) (Option.some Jvm.ClassFile.FieldType.boolean)) ∈ tw_Wg := tw_Wg_of (i := 788) (by decide +kernel) rfl
theorem tww_789 : (Jvm.Cond.methodLink "TwoWayLinesLaw" (26 : Nat) ({ cls := "TwoWayLinesModel", name := "clear", desc := "()V" } : Jvm.MethodName)) ∈ tw_Wg := tw_Wg_of (i := 789) (by decide +kernel) rfl
theorem tww_790 : (Jvm.Cond.instanceMethod ({ cls := "TwoWayLinesModel", name := "clear", desc := "()V" } : Jvm.MethodName)) ∈ tw_Wg := tw_Wg_of (i := 790) (by decide +kernel) rfl
theorem tww_791 : (Jvm.Cond.selects "TwoWayLinesModel" ({ cls := "TwoWayLinesModel", name := "clear", desc := "()V" } : Jvm.MethodName) ({ cls := "TwoWayLinesModel", name := "clear", desc := "()V" } : Jvm.MethodName)) ∈ tw_Wg := tw_Wg_of (i := 791) (by decide +kernel) rfl
theorem tww_792 : (Jvm.Cond.code ({ cls := "TwoWayLinesModel", name := "clear", desc := "()V" } : Jvm.MethodName) prog_11_method_4_code (1 : Nat) (Option.none : Option Jvm.ClassFile.FieldType)) ∈ tw_Wg := tw_Wg_of (i := 792) (by decide +kernel) rfl
theorem tww_793 : (Jvm.Cond.methodLink "TwoWayLinesLaw" (31 : Nat) ({ cls := "TwoWayLinesModel", name := "base", desc := "(I)Z" } : Jvm.MethodName)) ∈ tw_Wg := tw_Wg_of (i := 793) (by decide +kernel) rfl
theorem tww_794 : (Jvm.Cond.instanceMethod ({ cls := "TwoWayLinesModel", name := "base", desc := "(I)Z" } : Jvm.MethodName)) ∈ tw_Wg := tw_Wg_of (i := 794) (by decide +kernel) rfl
theorem tww_795 : (Jvm.Cond.selects "TwoWayLinesModel" ({ cls := "TwoWayLinesModel", name := "base", desc := "(I)Z" } : Jvm.MethodName) ({ cls := "TwoWayLinesModel", name := "base", desc := "(I)Z" } : Jvm.MethodName)) ∈ tw_Wg := tw_Wg_of (i := 795) (by decide +kernel) rfl
theorem tww_796 : (Jvm.Cond.code ({ cls := "TwoWayLinesModel", name := "base", desc := "(I)Z" } : Jvm.MethodName) prog_11_method_5_code (2 : Nat) (Option.some Jvm.ClassFile.FieldType.boolean)) ∈ tw_Wg := tw_Wg_of (i := 796) (by decide +kernel) rfl
theorem tww_797 : (Jvm.Cond.methodLink "TwoWayLinesLaw" (35 : Nat) ({ cls := "TwoWayLinesModel", name := "measure", desc := "(I)Z" } : Jvm.MethodName)) ∈ tw_Wg := tw_Wg_of (i := 797) (by decide +kernel) rfl
theorem tww_798 : (Jvm.Cond.instanceMethod ({ cls := "TwoWayLinesModel", name := "measure", desc := "(I)Z" } : Jvm.MethodName)) ∈ tw_Wg := tw_Wg_of (i := 798) (by decide +kernel) rfl
theorem tww_799 : (Jvm.Cond.selects "TwoWayLinesModel" ({ cls := "TwoWayLinesModel", name := "measure", desc := "(I)Z" } : Jvm.MethodName) ({ cls := "TwoWayLinesModel", name := "measure", desc := "(I)Z" } : Jvm.MethodName)) ∈ tw_Wg := tw_Wg_of (i := 799) (by decide +kernel) rfl
theorem tww_800 : (Jvm.Cond.code ({ cls := "TwoWayLinesModel", name := "measure", desc := "(I)Z" } : Jvm.MethodName) prog_11_method_6_code (2 : Nat) (Option.some Jvm.ClassFile.FieldType.boolean)) ∈ tw_Wg := tw_Wg_of (i := 800) (by decide +kernel) rfl
theorem tww_801 : (Jvm.Cond.methodLink "TwoWayLinesLaw" (40 : Nat) ({ cls := "TwoWayLinesModel", name := "length", desc := "()I" } : Jvm.MethodName)) ∈ tw_Wg := tw_Wg_of (i := 801) (by decide +kernel) rfl
theorem tww_802 : (Jvm.Cond.instanceMethod ({ cls := "TwoWayLinesModel", name := "length", desc := "()I" } : Jvm.MethodName)) ∈ tw_Wg := tw_Wg_of (i := 802) (by decide +kernel) rfl
theorem tww_803 : (Jvm.Cond.selects "TwoWayLinesModel" ({ cls := "TwoWayLinesModel", name := "length", desc := "()I" } : Jvm.MethodName) ({ cls := "TwoWayLinesModel", name := "length", desc := "()I" } : Jvm.MethodName)) ∈ tw_Wg := tw_Wg_of (i := 803) (by decide +kernel) rfl
theorem tww_804 : (Jvm.Cond.code ({ cls := "TwoWayLinesModel", name := "length", desc := "()I" } : Jvm.MethodName) prog_11_method_7_code (1 : Nat) (Option.some Jvm.ClassFile.FieldType.int)) ∈ tw_Wg := tw_Wg_of (i := 804) (by decide +kernel) rfl
theorem tww_805 : (Jvm.Cond.methodLink "TwoWayLinesLaw" (49 : Nat) ({ cls := "TwoWayLinesModel", name := "match", desc := "(I)I" } : Jvm.MethodName)) ∈ tw_Wg := tw_Wg_of (i := 805) (by decide +kernel) rfl
theorem tww_817 : (Jvm.Cond.methodLink "TwoWayLinesLaw" (65 : Nat) ({ cls := "TwoWayLinesModel", name := "mayBreak", desc := "(I)Z" } : Jvm.MethodName)) ∈ tw_Wg := tw_Wg_of (i := 817) (by decide +kernel) rfl
theorem tww_825 : (Jvm.Cond.methodLink "TwoWayLinesLaw" (44 : Nat) ({ cls := "TwoWayLinesModel", name := "paragraphLevel", desc := "()I" } : Jvm.MethodName)) ∈ tw_Wg := tw_Wg_of (i := 825) (by decide +kernel) rfl
theorem tww_826 : (Jvm.Cond.instanceMethod ({ cls := "TwoWayLinesModel", name := "paragraphLevel", desc := "()I" } : Jvm.MethodName)) ∈ tw_Wg := tw_Wg_of (i := 826) (by decide +kernel) rfl
theorem tww_827 : (Jvm.Cond.selects "TwoWayLinesModel" ({ cls := "TwoWayLinesModel", name := "paragraphLevel", desc := "()I" } : Jvm.MethodName) ({ cls := "TwoWayLinesModel", name := "paragraphLevel", desc := "()I" } : Jvm.MethodName)) ∈ tw_Wg := tw_Wg_of (i := 827) (by decide +kernel) rfl
theorem tww_828 : (Jvm.Cond.code ({ cls := "TwoWayLinesModel", name := "paragraphLevel", desc := "()I" } : Jvm.MethodName) prog_11_method_46_code (1 : Nat) (Option.some Jvm.ClassFile.FieldType.int)) ∈ tw_Wg := tw_Wg_of (i := 828) (by decide +kernel) rfl
theorem tww_959 : (Jvm.Cond.methodLink "TwoWayLinesLaw" (53 : Nat) ({ cls := "TwoWayLinesModel", name := "partner", desc := "(I)I" } : Jvm.MethodName)) ∈ tw_Wg := tw_Wg_of (i := 959) (by decide +kernel) rfl
theorem tww_960 : (Jvm.Cond.instanceMethod ({ cls := "TwoWayLinesModel", name := "partner", desc := "(I)I" } : Jvm.MethodName)) ∈ tw_Wg := tw_Wg_of (i := 960) (by decide +kernel) rfl
theorem tww_961 : (Jvm.Cond.selects "TwoWayLinesModel" ({ cls := "TwoWayLinesModel", name := "partner", desc := "(I)I" } : Jvm.MethodName) ({ cls := "TwoWayLinesModel", name := "partner", desc := "(I)I" } : Jvm.MethodName)) ∈ tw_Wg := tw_Wg_of (i := 961) (by decide +kernel) rfl
theorem tww_962 : (Jvm.Cond.code ({ cls := "TwoWayLinesModel", name := "partner", desc := "(I)I" } : Jvm.MethodName) prog_11_method_47_code (2 : Nat) (Option.some Jvm.ClassFile.FieldType.int)) ∈ tw_Wg := tw_Wg_of (i := 962) (by decide +kernel) rfl
theorem tww_967 : (Jvm.Cond.methodLink "TwoWayLinesLaw" (57 : Nat) ({ cls := "TwoWayLinesModel", name := "type", desc := "(I)I" } : Jvm.MethodName)) ∈ tw_Wg := tw_Wg_of (i := 967) (by decide +kernel) rfl
theorem tww_968 : (Jvm.Cond.instanceMethod ({ cls := "TwoWayLinesModel", name := "type", desc := "(I)I" } : Jvm.MethodName)) ∈ tw_Wg := tw_Wg_of (i := 968) (by decide +kernel) rfl
theorem tww_969 : (Jvm.Cond.selects "TwoWayLinesModel" ({ cls := "TwoWayLinesModel", name := "type", desc := "(I)I" } : Jvm.MethodName) ({ cls := "TwoWayLinesModel", name := "type", desc := "(I)I" } : Jvm.MethodName)) ∈ tw_Wg := tw_Wg_of (i := 969) (by decide +kernel) rfl
theorem tww_970 : (Jvm.Cond.code ({ cls := "TwoWayLinesModel", name := "type", desc := "(I)I" } : Jvm.MethodName) prog_11_method_48_code (2 : Nat) (Option.some Jvm.ClassFile.FieldType.int)) ∈ tw_Wg := tw_Wg_of (i := 970) (by decide +kernel) rfl
theorem tww_971 : (Jvm.Cond.methodLink "TwoWayLinesLaw" (61 : Nat) ({ cls := "TwoWayLinesModel", name := "level", desc := "(I)I" } : Jvm.MethodName)) ∈ tw_Wg := tw_Wg_of (i := 971) (by decide +kernel) rfl
theorem tww_972 : (Jvm.Cond.instanceMethod ({ cls := "TwoWayLinesModel", name := "level", desc := "(I)I" } : Jvm.MethodName)) ∈ tw_Wg := tw_Wg_of (i := 972) (by decide +kernel) rfl
theorem tww_973 : (Jvm.Cond.selects "TwoWayLinesModel" ({ cls := "TwoWayLinesModel", name := "level", desc := "(I)I" } : Jvm.MethodName) ({ cls := "TwoWayLinesModel", name := "level", desc := "(I)I" } : Jvm.MethodName)) ∈ tw_Wg := tw_Wg_of (i := 973) (by decide +kernel) rfl
theorem tww_974 : (Jvm.Cond.code ({ cls := "TwoWayLinesModel", name := "level", desc := "(I)I" } : Jvm.MethodName) prog_11_method_49_code (2 : Nat) (Option.some Jvm.ClassFile.FieldType.int)) ∈ tw_Wg := tw_Wg_of (i := 974) (by decide +kernel) rfl
theorem tww_975 : (Jvm.Cond.methodLink "TwoWayLinesLaw" (69 : Nat) ({ cls := "TwoWayLinesModel", name := "lines", desc := "()I" } : Jvm.MethodName)) ∈ tw_Wg := tw_Wg_of (i := 975) (by decide +kernel) rfl
theorem tww_976 : (Jvm.Cond.instanceMethod ({ cls := "TwoWayLinesModel", name := "lines", desc := "()I" } : Jvm.MethodName)) ∈ tw_Wg := tw_Wg_of (i := 976) (by decide +kernel) rfl
theorem tww_977 : (Jvm.Cond.selects "TwoWayLinesModel" ({ cls := "TwoWayLinesModel", name := "lines", desc := "()I" } : Jvm.MethodName) ({ cls := "TwoWayLinesModel", name := "lines", desc := "()I" } : Jvm.MethodName)) ∈ tw_Wg := tw_Wg_of (i := 977) (by decide +kernel) rfl
theorem tww_978 : (Jvm.Cond.code ({ cls := "TwoWayLinesModel", name := "lines", desc := "()I" } : Jvm.MethodName) prog_11_method_50_code (1 : Nat) (Option.some Jvm.ClassFile.FieldType.int)) ∈ tw_Wg := tw_Wg_of (i := 978) (by decide +kernel) rfl
theorem tww_979 : (Jvm.Cond.methodLink "TwoWayLinesLaw" (73 : Nat) ({ cls := "TwoWayLinesModel", name := "start", desc := "(I)I" } : Jvm.MethodName)) ∈ tw_Wg := tw_Wg_of (i := 979) (by decide +kernel) rfl
theorem tww_980 : (Jvm.Cond.instanceMethod ({ cls := "TwoWayLinesModel", name := "start", desc := "(I)I" } : Jvm.MethodName)) ∈ tw_Wg := tw_Wg_of (i := 980) (by decide +kernel) rfl
theorem tww_981 : (Jvm.Cond.selects "TwoWayLinesModel" ({ cls := "TwoWayLinesModel", name := "start", desc := "(I)I" } : Jvm.MethodName) ({ cls := "TwoWayLinesModel", name := "start", desc := "(I)I" } : Jvm.MethodName)) ∈ tw_Wg := tw_Wg_of (i := 981) (by decide +kernel) rfl
theorem tww_982 : (Jvm.Cond.code ({ cls := "TwoWayLinesModel", name := "start", desc := "(I)I" } : Jvm.MethodName) prog_11_method_51_code (2 : Nat) (Option.some Jvm.ClassFile.FieldType.int)) ∈ tw_Wg := tw_Wg_of (i := 982) (by decide +kernel) rfl
theorem tww_983 : (Jvm.Cond.methodLink "TwoWayLinesLaw" (77 : Nat) ({ cls := "TwoWayLinesModel", name := "extent", desc := "(I)I" } : Jvm.MethodName)) ∈ tw_Wg := tw_Wg_of (i := 983) (by decide +kernel) rfl
theorem tww_984 : (Jvm.Cond.instanceMethod ({ cls := "TwoWayLinesModel", name := "extent", desc := "(I)I" } : Jvm.MethodName)) ∈ tw_Wg := tw_Wg_of (i := 984) (by decide +kernel) rfl
theorem tww_985 : (Jvm.Cond.selects "TwoWayLinesModel" ({ cls := "TwoWayLinesModel", name := "extent", desc := "(I)I" } : Jvm.MethodName) ({ cls := "TwoWayLinesModel", name := "extent", desc := "(I)I" } : Jvm.MethodName)) ∈ tw_Wg := tw_Wg_of (i := 985) (by decide +kernel) rfl
theorem tww_986 : (Jvm.Cond.code ({ cls := "TwoWayLinesModel", name := "extent", desc := "(I)I" } : Jvm.MethodName) prog_11_method_52_code (2 : Nat) (Option.some Jvm.ClassFile.FieldType.int)) ∈ tw_Wg := tw_Wg_of (i := 986) (by decide +kernel) rfl
theorem tww_987 : (Jvm.Cond.methodLink "TwoWayLinesLaw" (81 : Nat) ({ cls := "TwoWayLinesModel", name := "shownLevel", desc := "(I)I" } : Jvm.MethodName)) ∈ tw_Wg := tw_Wg_of (i := 987) (by decide +kernel) rfl
theorem tww_988 : (Jvm.Cond.instanceMethod ({ cls := "TwoWayLinesModel", name := "shownLevel", desc := "(I)I" } : Jvm.MethodName)) ∈ tw_Wg := tw_Wg_of (i := 988) (by decide +kernel) rfl
theorem tww_989 : (Jvm.Cond.selects "TwoWayLinesModel" ({ cls := "TwoWayLinesModel", name := "shownLevel", desc := "(I)I" } : Jvm.MethodName) ({ cls := "TwoWayLinesModel", name := "shownLevel", desc := "(I)I" } : Jvm.MethodName)) ∈ tw_Wg := tw_Wg_of (i := 989) (by decide +kernel) rfl
theorem tww_990 : (Jvm.Cond.code ({ cls := "TwoWayLinesModel", name := "shownLevel", desc := "(I)I" } : Jvm.MethodName) prog_11_method_53_code (2 : Nat) (Option.some Jvm.ClassFile.FieldType.int)) ∈ tw_Wg := tw_Wg_of (i := 990) (by decide +kernel) rfl
theorem tww_991 : (Jvm.Cond.methodLink "TwoWayLinesLaw" (86 : Nat) ({ cls := "TwoWayLinesModel", name := "shown", desc := "(II)I" } : Jvm.MethodName)) ∈ tw_Wg := tw_Wg_of (i := 991) (by decide +kernel) rfl
theorem tww_992 : (Jvm.Cond.instanceMethod ({ cls := "TwoWayLinesModel", name := "shown", desc := "(II)I" } : Jvm.MethodName)) ∈ tw_Wg := tw_Wg_of (i := 992) (by decide +kernel) rfl
theorem tww_993 : (Jvm.Cond.selects "TwoWayLinesModel" ({ cls := "TwoWayLinesModel", name := "shown", desc := "(II)I" } : Jvm.MethodName) ({ cls := "TwoWayLinesModel", name := "shown", desc := "(II)I" } : Jvm.MethodName)) ∈ tw_Wg := tw_Wg_of (i := 993) (by decide +kernel) rfl
theorem tww_994 : (Jvm.Cond.code ({ cls := "TwoWayLinesModel", name := "shown", desc := "(II)I" } : Jvm.MethodName) prog_11_method_54_code (3 : Nat) (Option.some Jvm.ClassFile.FieldType.int)) ∈ tw_Wg := tw_Wg_of (i := 994) (by decide +kernel) rfl
theorem tww_995 : (Jvm.Cond.methodLink "TwoWayLinesLaw" (90 : Nat) ({ cls := "TwoWayLinesModel", name := "mirrored", desc := "(I)Z" } : Jvm.MethodName)) ∈ tw_Wg := tw_Wg_of (i := 995) (by decide +kernel) rfl
theorem tww_996 : (Jvm.Cond.instanceMethod ({ cls := "TwoWayLinesModel", name := "mirrored", desc := "(I)Z" } : Jvm.MethodName)) ∈ tw_Wg := tw_Wg_of (i := 996) (by decide +kernel) rfl
theorem tww_997 : (Jvm.Cond.selects "TwoWayLinesModel" ({ cls := "TwoWayLinesModel", name := "mirrored", desc := "(I)Z" } : Jvm.MethodName) ({ cls := "TwoWayLinesModel", name := "mirrored", desc := "(I)Z" } : Jvm.MethodName)) ∈ tw_Wg := tw_Wg_of (i := 997) (by decide +kernel) rfl
theorem tww_998 : (Jvm.Cond.code ({ cls := "TwoWayLinesModel", name := "mirrored", desc := "(I)Z" } : Jvm.MethodName) prog_11_method_55_code (2 : Nat) (Option.some Jvm.ClassFile.FieldType.boolean)) ∈ tw_Wg := tw_Wg_of (i := 998) (by decide +kernel) rfl
theorem tl_len {Z : tl_Z} (hX : tl_cx Z) : tl_L Z ≤ 2560 := by
  obtain ⟨p, l, e, s, m, below, meth, c, b, Ls, ys, D, ad1, ad2, cI, cZ⟩ := Z
  obtain ⟨hx, hb, ho, hts, hK, hret, hlk, hnL, hNs, hXs, hbl, hys, hLs, hap⟩ := hX
  exact hLs
theorem tl_rg {Z : tl_Z} (hX : tl_cx Z) : ∀ k, tw_rg (tl_ys Z k) := by
  obtain ⟨p, l, e, s, m, below, meth, c, b, Ls, ys, D, ad1, ad2, cI, cZ⟩ := Z
  obtain ⟨hx, hb, ho, hts, hK, hret, hlk, hnL, hNs, hXs, hbl, hys, hLs, hap⟩ := hX
  exact hys
theorem twd_law_0 : decode code 0 = .ok (.new 7, 3) := by decide +kernel
theorem twd_law_3 : decode code 3 = .ok (.dup, 1) := by decide +kernel
theorem twd_law_4 : decode code 4 = .ok (.invokespecial 9, 3) := by decide +kernel
theorem twd_law_7 : decode code 7 = .ok (.astore_n 1, 1) := by decide +kernel
theorem twd_law_8 : decode code 8 = .ok (.new 10, 3) := by decide +kernel
theorem twd_law_11 : decode code 11 = .ok (.dup, 1) := by decide +kernel
theorem twd_law_12 : decode code 12 = .ok (.invokespecial 12, 3) := by decide +kernel
theorem twd_law_15 : decode code 15 = .ok (.astore_n 2, 1) := by decide +kernel
theorem twd_law_16 : decode code 16 = .ok (.iconst 0, 1) := by decide +kernel
theorem twd_law_17 : decode code 17 = .ok (.istore_n 3, 1) := by decide +kernel
theorem twd_law_18 : decode code 18 = .ok (.iload_n 3, 1) := by decide +kernel
theorem twd_law_19 : decode code 19 = .ok (.aload_n 0, 1) := by decide +kernel
theorem twd_law_20 : decode code 20 = .ok (.arraylength, 1) := by decide +kernel
theorem twd_law_21 : decode code 21 = .ok (.iconst 5, 1) := by decide +kernel
theorem twd_law_22 : decode code 22 = .ok (.isub, 1) := by decide +kernel
theorem twd_law_23 : decode code 23 = .ok (.if_icmp .gt 505, 3) := by decide +kernel
theorem twd_law_26 : decode code 26 = .ok (.aload_n 0, 1) := by decide +kernel
theorem twd_law_27 : decode code 27 = .ok (.iload_n 3, 1) := by decide +kernel
theorem twd_law_28 : decode code 28 = .ok (.iaload, 1) := by decide +kernel
theorem twd_law_29 : decode code 29 = .ok (.bipush 31, 2) := by decide +kernel
theorem twd_law_31 : decode code 31 = .ok (.iand, 1) := by decide +kernel
theorem twd_law_32 : decode code 32 = .ok (.tableswitch 490 0 17 #[88, 141, 154, 165, 188, 211, 224, 237, 260, 283, 306, 329, 352, 365, 388, 411, 434, 467], 88) := by decide +kernel
theorem twd_law_120 : decode code 120 = .ok (.aload_n 1, 1) := by decide +kernel
theorem twd_law_121 : decode code 121 = .ok (.aload_n 0, 1) := by decide +kernel
theorem twd_law_122 : decode code 122 = .ok (.iload_n 3, 1) := by decide +kernel
theorem twd_law_123 : decode code 123 = .ok (.iconst 1, 1) := by decide +kernel
theorem twd_law_124 : decode code 124 = .ok (.iadd, 1) := by decide +kernel
theorem twd_law_125 : decode code 125 = .ok (.iaload, 1) := by decide +kernel
theorem twd_law_126 : decode code 126 = .ok (.aload_n 0, 1) := by decide +kernel
theorem twd_law_127 : decode code 127 = .ok (.iload_n 3, 1) := by decide +kernel
theorem twd_law_128 : decode code 128 = .ok (.iconst 2, 1) := by decide +kernel
theorem twd_law_129 : decode code 129 = .ok (.iadd, 1) := by decide +kernel
theorem twd_law_130 : decode code 130 = .ok (.iaload, 1) := by decide +kernel
theorem twd_law_131 : decode code 131 = .ok (.aload_n 0, 1) := by decide +kernel
theorem twd_law_132 : decode code 132 = .ok (.iload_n 3, 1) := by decide +kernel
theorem twd_law_133 : decode code 133 = .ok (.iconst 3, 1) := by decide +kernel
theorem twd_law_134 : decode code 134 = .ok (.iadd, 1) := by decide +kernel
theorem twd_law_135 : decode code 135 = .ok (.iaload, 1) := by decide +kernel
theorem twd_law_136 : decode code 136 = .ok (.aload_n 0, 1) := by decide +kernel
theorem twd_law_137 : decode code 137 = .ok (.iload_n 3, 1) := by decide +kernel
theorem twd_law_138 : decode code 138 = .ok (.iconst 4, 1) := by decide +kernel
theorem twd_law_139 : decode code 139 = .ok (.iadd, 1) := by decide +kernel
theorem twd_law_140 : decode code 140 = .ok (.iaload, 1) := by decide +kernel
theorem twd_law_141 : decode code 141 = .ok (.invokevirtual 13, 3) := by decide +kernel
theorem twd_law_144 : decode code 144 = .ok (.aload_n 2, 1) := by decide +kernel
theorem twd_law_145 : decode code 145 = .ok (.aload_n 0, 1) := by decide +kernel
theorem twd_law_146 : decode code 146 = .ok (.iload_n 3, 1) := by decide +kernel
theorem twd_law_147 : decode code 147 = .ok (.iconst 1, 1) := by decide +kernel
theorem twd_law_148 : decode code 148 = .ok (.iadd, 1) := by decide +kernel
theorem twd_law_149 : decode code 149 = .ok (.iaload, 1) := by decide +kernel
theorem twd_law_150 : decode code 150 = .ok (.aload_n 0, 1) := by decide +kernel
theorem twd_law_151 : decode code 151 = .ok (.iload_n 3, 1) := by decide +kernel
theorem twd_law_152 : decode code 152 = .ok (.iconst 2, 1) := by decide +kernel
theorem twd_law_153 : decode code 153 = .ok (.iadd, 1) := by decide +kernel
theorem twd_law_154 : decode code 154 = .ok (.iaload, 1) := by decide +kernel
theorem twd_law_155 : decode code 155 = .ok (.aload_n 0, 1) := by decide +kernel
theorem twd_law_156 : decode code 156 = .ok (.iload_n 3, 1) := by decide +kernel
theorem twd_law_157 : decode code 157 = .ok (.iconst 3, 1) := by decide +kernel
theorem twd_law_158 : decode code 158 = .ok (.iadd, 1) := by decide +kernel
theorem twd_law_159 : decode code 159 = .ok (.iaload, 1) := by decide +kernel
theorem twd_law_160 : decode code 160 = .ok (.aload_n 0, 1) := by decide +kernel
theorem twd_law_161 : decode code 161 = .ok (.iload_n 3, 1) := by decide +kernel
theorem twd_law_162 : decode code 162 = .ok (.iconst 4, 1) := by decide +kernel
theorem twd_law_163 : decode code 163 = .ok (.iadd, 1) := by decide +kernel
theorem twd_law_164 : decode code 164 = .ok (.iaload, 1) := by decide +kernel
theorem twd_law_165 : decode code 165 = .ok (.invokevirtual 17, 3) := by decide +kernel
theorem twd_law_168 : decode code 168 = .ok (.if_icmp .eq 354, 3) := by decide +kernel
theorem twd_law_171 : decode code 171 = .ok (.iconst 0, 1) := by decide +kernel
theorem twd_law_172 : decode code 172 = .ok (.ireturn, 1) := by decide +kernel
theorem twd_law_173 : decode code 173 = .ok (.aload_n 1, 1) := by decide +kernel
theorem twd_law_174 : decode code 174 = .ok (.invokevirtual 18, 3) := by decide +kernel
theorem twd_law_177 : decode code 177 = .ok (.aload_n 2, 1) := by decide +kernel
theorem twd_law_178 : decode code 178 = .ok (.invokevirtual 22, 3) := by decide +kernel
theorem twd_law_181 : decode code 181 = .ok (.if_icmp .eq 341, 3) := by decide +kernel
theorem twd_law_184 : decode code 184 = .ok (.iconst 0, 1) := by decide +kernel
theorem twd_law_185 : decode code 185 = .ok (.ireturn, 1) := by decide +kernel
theorem twd_law_186 : decode code 186 = .ok (.aload_n 1, 1) := by decide +kernel
theorem twd_law_187 : decode code 187 = .ok (.invokevirtual 23, 3) := by decide +kernel
theorem twd_law_190 : decode code 190 = .ok (.aload_n 2, 1) := by decide +kernel
theorem twd_law_191 : decode code 191 = .ok (.invokevirtual 26, 3) := by decide +kernel
theorem twd_law_194 : decode code 194 = .ok (.goto 328, 3) := by decide +kernel
theorem twd_law_197 : decode code 197 = .ok (.aload_n 1, 1) := by decide +kernel
theorem twd_law_198 : decode code 198 = .ok (.aload_n 0, 1) := by decide +kernel
theorem twd_law_199 : decode code 199 = .ok (.iload_n 3, 1) := by decide +kernel
theorem twd_law_200 : decode code 200 = .ok (.iconst 1, 1) := by decide +kernel
theorem twd_law_201 : decode code 201 = .ok (.iadd, 1) := by decide +kernel
theorem twd_law_202 : decode code 202 = .ok (.iaload, 1) := by decide +kernel
theorem twd_law_203 : decode code 203 = .ok (.invokevirtual 27, 3) := by decide +kernel
theorem twd_law_206 : decode code 206 = .ok (.aload_n 2, 1) := by decide +kernel
theorem twd_law_207 : decode code 207 = .ok (.aload_n 0, 1) := by decide +kernel
theorem twd_law_208 : decode code 208 = .ok (.iload_n 3, 1) := by decide +kernel
theorem twd_law_209 : decode code 209 = .ok (.iconst 1, 1) := by decide +kernel
theorem twd_law_210 : decode code 210 = .ok (.iadd, 1) := by decide +kernel
theorem twd_law_211 : decode code 211 = .ok (.iaload, 1) := by decide +kernel
theorem twd_law_212 : decode code 212 = .ok (.invokevirtual 31, 3) := by decide +kernel
theorem twd_law_215 : decode code 215 = .ok (.if_icmp .eq 307, 3) := by decide +kernel
theorem twd_law_218 : decode code 218 = .ok (.iconst 0, 1) := by decide +kernel
theorem twd_law_219 : decode code 219 = .ok (.ireturn, 1) := by decide +kernel
theorem twd_law_220 : decode code 220 = .ok (.aload_n 1, 1) := by decide +kernel
theorem twd_law_221 : decode code 221 = .ok (.aload_n 0, 1) := by decide +kernel
theorem twd_law_222 : decode code 222 = .ok (.iload_n 3, 1) := by decide +kernel
theorem twd_law_223 : decode code 223 = .ok (.iconst 1, 1) := by decide +kernel
theorem twd_law_224 : decode code 224 = .ok (.iadd, 1) := by decide +kernel
theorem twd_law_225 : decode code 225 = .ok (.iaload, 1) := by decide +kernel
theorem twd_law_226 : decode code 226 = .ok (.invokevirtual 32, 3) := by decide +kernel
theorem twd_law_229 : decode code 229 = .ok (.aload_n 2, 1) := by decide +kernel
theorem twd_law_230 : decode code 230 = .ok (.aload_n 0, 1) := by decide +kernel
theorem twd_law_231 : decode code 231 = .ok (.iload_n 3, 1) := by decide +kernel
theorem twd_law_232 : decode code 232 = .ok (.iconst 1, 1) := by decide +kernel
theorem twd_law_233 : decode code 233 = .ok (.iadd, 1) := by decide +kernel
theorem twd_law_234 : decode code 234 = .ok (.iaload, 1) := by decide +kernel
theorem twd_law_235 : decode code 235 = .ok (.invokevirtual 35, 3) := by decide +kernel
theorem twd_law_238 : decode code 238 = .ok (.if_icmp .eq 284, 3) := by decide +kernel
theorem twd_law_241 : decode code 241 = .ok (.iconst 0, 1) := by decide +kernel
theorem twd_law_242 : decode code 242 = .ok (.ireturn, 1) := by decide +kernel
theorem twd_law_243 : decode code 243 = .ok (.aload_n 1, 1) := by decide +kernel
theorem twd_law_244 : decode code 244 = .ok (.invokevirtual 36, 3) := by decide +kernel
theorem twd_law_247 : decode code 247 = .ok (.aload_n 2, 1) := by decide +kernel
theorem twd_law_248 : decode code 248 = .ok (.invokevirtual 40, 3) := by decide +kernel
theorem twd_law_251 : decode code 251 = .ok (.if_icmp .eq 271, 3) := by decide +kernel
theorem twd_law_254 : decode code 254 = .ok (.iconst 0, 1) := by decide +kernel
theorem twd_law_255 : decode code 255 = .ok (.ireturn, 1) := by decide +kernel
theorem twd_law_256 : decode code 256 = .ok (.aload_n 1, 1) := by decide +kernel
theorem twd_law_257 : decode code 257 = .ok (.invokevirtual 41, 3) := by decide +kernel
theorem twd_law_260 : decode code 260 = .ok (.aload_n 2, 1) := by decide +kernel
theorem twd_law_261 : decode code 261 = .ok (.invokevirtual 44, 3) := by decide +kernel
theorem twd_law_264 : decode code 264 = .ok (.if_icmp .eq 258, 3) := by decide +kernel
theorem twd_law_267 : decode code 267 = .ok (.iconst 0, 1) := by decide +kernel
theorem twd_law_268 : decode code 268 = .ok (.ireturn, 1) := by decide +kernel
theorem twd_law_269 : decode code 269 = .ok (.aload_n 1, 1) := by decide +kernel
theorem twd_law_270 : decode code 270 = .ok (.aload_n 0, 1) := by decide +kernel
theorem twd_law_271 : decode code 271 = .ok (.iload_n 3, 1) := by decide +kernel
theorem twd_law_272 : decode code 272 = .ok (.iconst 1, 1) := by decide +kernel
theorem twd_law_273 : decode code 273 = .ok (.iadd, 1) := by decide +kernel
theorem twd_law_274 : decode code 274 = .ok (.iaload, 1) := by decide +kernel
theorem twd_law_275 : decode code 275 = .ok (.invokevirtual 45, 3) := by decide +kernel
theorem twd_law_278 : decode code 278 = .ok (.aload_n 2, 1) := by decide +kernel
theorem twd_law_279 : decode code 279 = .ok (.aload_n 0, 1) := by decide +kernel
theorem twd_law_280 : decode code 280 = .ok (.iload_n 3, 1) := by decide +kernel
theorem twd_law_281 : decode code 281 = .ok (.iconst 1, 1) := by decide +kernel
theorem twd_law_282 : decode code 282 = .ok (.iadd, 1) := by decide +kernel
theorem twd_law_283 : decode code 283 = .ok (.iaload, 1) := by decide +kernel
theorem twd_law_284 : decode code 284 = .ok (.invokevirtual 49, 3) := by decide +kernel
theorem twd_law_287 : decode code 287 = .ok (.if_icmp .eq 235, 3) := by decide +kernel
theorem twd_law_290 : decode code 290 = .ok (.iconst 0, 1) := by decide +kernel
theorem twd_law_291 : decode code 291 = .ok (.ireturn, 1) := by decide +kernel
theorem twd_law_292 : decode code 292 = .ok (.aload_n 1, 1) := by decide +kernel
theorem twd_law_293 : decode code 293 = .ok (.aload_n 0, 1) := by decide +kernel
theorem twd_law_294 : decode code 294 = .ok (.iload_n 3, 1) := by decide +kernel
theorem twd_law_295 : decode code 295 = .ok (.iconst 1, 1) := by decide +kernel
theorem twd_law_296 : decode code 296 = .ok (.iadd, 1) := by decide +kernel
theorem twd_law_297 : decode code 297 = .ok (.iaload, 1) := by decide +kernel
theorem twd_law_298 : decode code 298 = .ok (.invokevirtual 50, 3) := by decide +kernel
theorem twd_law_301 : decode code 301 = .ok (.aload_n 2, 1) := by decide +kernel
theorem twd_law_302 : decode code 302 = .ok (.aload_n 0, 1) := by decide +kernel
theorem twd_law_303 : decode code 303 = .ok (.iload_n 3, 1) := by decide +kernel
theorem twd_law_304 : decode code 304 = .ok (.iconst 1, 1) := by decide +kernel
theorem twd_law_305 : decode code 305 = .ok (.iadd, 1) := by decide +kernel
theorem twd_law_306 : decode code 306 = .ok (.iaload, 1) := by decide +kernel
theorem twd_law_307 : decode code 307 = .ok (.invokevirtual 53, 3) := by decide +kernel
theorem twd_law_310 : decode code 310 = .ok (.if_icmp .eq 212, 3) := by decide +kernel
theorem twd_law_313 : decode code 313 = .ok (.iconst 0, 1) := by decide +kernel
theorem twd_law_314 : decode code 314 = .ok (.ireturn, 1) := by decide +kernel
theorem twd_law_315 : decode code 315 = .ok (.aload_n 1, 1) := by decide +kernel
theorem twd_law_316 : decode code 316 = .ok (.aload_n 0, 1) := by decide +kernel
theorem twd_law_317 : decode code 317 = .ok (.iload_n 3, 1) := by decide +kernel
theorem twd_law_318 : decode code 318 = .ok (.iconst 1, 1) := by decide +kernel
theorem twd_law_319 : decode code 319 = .ok (.iadd, 1) := by decide +kernel
theorem twd_law_320 : decode code 320 = .ok (.iaload, 1) := by decide +kernel
theorem twd_law_321 : decode code 321 = .ok (.invokevirtual 54, 3) := by decide +kernel
theorem twd_law_324 : decode code 324 = .ok (.aload_n 2, 1) := by decide +kernel
theorem twd_law_325 : decode code 325 = .ok (.aload_n 0, 1) := by decide +kernel
theorem twd_law_326 : decode code 326 = .ok (.iload_n 3, 1) := by decide +kernel
theorem twd_law_327 : decode code 327 = .ok (.iconst 1, 1) := by decide +kernel
theorem twd_law_328 : decode code 328 = .ok (.iadd, 1) := by decide +kernel
theorem twd_law_329 : decode code 329 = .ok (.iaload, 1) := by decide +kernel
theorem twd_law_330 : decode code 330 = .ok (.invokevirtual 57, 3) := by decide +kernel
theorem twd_law_333 : decode code 333 = .ok (.if_icmp .eq 189, 3) := by decide +kernel
theorem twd_law_336 : decode code 336 = .ok (.iconst 0, 1) := by decide +kernel
theorem twd_law_337 : decode code 337 = .ok (.ireturn, 1) := by decide +kernel
theorem twd_law_338 : decode code 338 = .ok (.aload_n 1, 1) := by decide +kernel
theorem twd_law_339 : decode code 339 = .ok (.aload_n 0, 1) := by decide +kernel
theorem twd_law_340 : decode code 340 = .ok (.iload_n 3, 1) := by decide +kernel
theorem twd_law_341 : decode code 341 = .ok (.iconst 1, 1) := by decide +kernel
theorem twd_law_342 : decode code 342 = .ok (.iadd, 1) := by decide +kernel
theorem twd_law_343 : decode code 343 = .ok (.iaload, 1) := by decide +kernel
theorem twd_law_344 : decode code 344 = .ok (.invokevirtual 58, 3) := by decide +kernel
theorem twd_law_347 : decode code 347 = .ok (.aload_n 2, 1) := by decide +kernel
theorem twd_law_348 : decode code 348 = .ok (.aload_n 0, 1) := by decide +kernel
theorem twd_law_349 : decode code 349 = .ok (.iload_n 3, 1) := by decide +kernel
theorem twd_law_350 : decode code 350 = .ok (.iconst 1, 1) := by decide +kernel
theorem twd_law_351 : decode code 351 = .ok (.iadd, 1) := by decide +kernel
theorem twd_law_352 : decode code 352 = .ok (.iaload, 1) := by decide +kernel
theorem twd_law_353 : decode code 353 = .ok (.invokevirtual 61, 3) := by decide +kernel
theorem twd_law_356 : decode code 356 = .ok (.if_icmp .eq 166, 3) := by decide +kernel
theorem twd_law_359 : decode code 359 = .ok (.iconst 0, 1) := by decide +kernel
theorem twd_law_360 : decode code 360 = .ok (.ireturn, 1) := by decide +kernel
theorem twd_law_361 : decode code 361 = .ok (.aload_n 1, 1) := by decide +kernel
theorem twd_law_362 : decode code 362 = .ok (.aload_n 0, 1) := by decide +kernel
theorem twd_law_363 : decode code 363 = .ok (.iload_n 3, 1) := by decide +kernel
theorem twd_law_364 : decode code 364 = .ok (.iconst 1, 1) := by decide +kernel
theorem twd_law_365 : decode code 365 = .ok (.iadd, 1) := by decide +kernel
theorem twd_law_366 : decode code 366 = .ok (.iaload, 1) := by decide +kernel
theorem twd_law_367 : decode code 367 = .ok (.invokevirtual 62, 3) := by decide +kernel
theorem twd_law_370 : decode code 370 = .ok (.aload_n 2, 1) := by decide +kernel
theorem twd_law_371 : decode code 371 = .ok (.aload_n 0, 1) := by decide +kernel
theorem twd_law_372 : decode code 372 = .ok (.iload_n 3, 1) := by decide +kernel
theorem twd_law_373 : decode code 373 = .ok (.iconst 1, 1) := by decide +kernel
theorem twd_law_374 : decode code 374 = .ok (.iadd, 1) := by decide +kernel
theorem twd_law_375 : decode code 375 = .ok (.iaload, 1) := by decide +kernel
theorem twd_law_376 : decode code 376 = .ok (.invokevirtual 65, 3) := by decide +kernel
theorem twd_law_379 : decode code 379 = .ok (.if_icmp .eq 143, 3) := by decide +kernel
theorem twd_law_382 : decode code 382 = .ok (.iconst 0, 1) := by decide +kernel
theorem twd_law_383 : decode code 383 = .ok (.ireturn, 1) := by decide +kernel
theorem twd_law_384 : decode code 384 = .ok (.aload_n 1, 1) := by decide +kernel
theorem twd_law_385 : decode code 385 = .ok (.invokevirtual 66, 3) := by decide +kernel
theorem twd_law_388 : decode code 388 = .ok (.aload_n 2, 1) := by decide +kernel
theorem twd_law_389 : decode code 389 = .ok (.invokevirtual 69, 3) := by decide +kernel
theorem twd_law_392 : decode code 392 = .ok (.if_icmp .eq 130, 3) := by decide +kernel
theorem twd_law_395 : decode code 395 = .ok (.iconst 0, 1) := by decide +kernel
theorem twd_law_396 : decode code 396 = .ok (.ireturn, 1) := by decide +kernel
theorem twd_law_397 : decode code 397 = .ok (.aload_n 1, 1) := by decide +kernel
theorem twd_law_398 : decode code 398 = .ok (.aload_n 0, 1) := by decide +kernel
theorem twd_law_399 : decode code 399 = .ok (.iload_n 3, 1) := by decide +kernel
theorem twd_law_400 : decode code 400 = .ok (.iconst 1, 1) := by decide +kernel
theorem twd_law_401 : decode code 401 = .ok (.iadd, 1) := by decide +kernel
theorem twd_law_402 : decode code 402 = .ok (.iaload, 1) := by decide +kernel
theorem twd_law_403 : decode code 403 = .ok (.invokevirtual 70, 3) := by decide +kernel
theorem twd_law_406 : decode code 406 = .ok (.aload_n 2, 1) := by decide +kernel
theorem twd_law_407 : decode code 407 = .ok (.aload_n 0, 1) := by decide +kernel
theorem twd_law_408 : decode code 408 = .ok (.iload_n 3, 1) := by decide +kernel
theorem twd_law_409 : decode code 409 = .ok (.iconst 1, 1) := by decide +kernel
theorem twd_law_410 : decode code 410 = .ok (.iadd, 1) := by decide +kernel
theorem twd_law_411 : decode code 411 = .ok (.iaload, 1) := by decide +kernel
theorem twd_law_412 : decode code 412 = .ok (.invokevirtual 73, 3) := by decide +kernel
theorem twd_law_415 : decode code 415 = .ok (.if_icmp .eq 107, 3) := by decide +kernel
theorem twd_law_418 : decode code 418 = .ok (.iconst 0, 1) := by decide +kernel
theorem twd_law_419 : decode code 419 = .ok (.ireturn, 1) := by decide +kernel
theorem twd_law_420 : decode code 420 = .ok (.aload_n 1, 1) := by decide +kernel
theorem twd_law_421 : decode code 421 = .ok (.aload_n 0, 1) := by decide +kernel
theorem twd_law_422 : decode code 422 = .ok (.iload_n 3, 1) := by decide +kernel
theorem twd_law_423 : decode code 423 = .ok (.iconst 1, 1) := by decide +kernel
theorem twd_law_424 : decode code 424 = .ok (.iadd, 1) := by decide +kernel
theorem twd_law_425 : decode code 425 = .ok (.iaload, 1) := by decide +kernel
theorem twd_law_426 : decode code 426 = .ok (.invokevirtual 74, 3) := by decide +kernel
theorem twd_law_429 : decode code 429 = .ok (.aload_n 2, 1) := by decide +kernel
theorem twd_law_430 : decode code 430 = .ok (.aload_n 0, 1) := by decide +kernel
theorem twd_law_431 : decode code 431 = .ok (.iload_n 3, 1) := by decide +kernel
theorem twd_law_432 : decode code 432 = .ok (.iconst 1, 1) := by decide +kernel
theorem twd_law_433 : decode code 433 = .ok (.iadd, 1) := by decide +kernel
theorem twd_law_434 : decode code 434 = .ok (.iaload, 1) := by decide +kernel
theorem twd_law_435 : decode code 435 = .ok (.invokevirtual 77, 3) := by decide +kernel
theorem twd_law_438 : decode code 438 = .ok (.if_icmp .eq 84, 3) := by decide +kernel
theorem twd_law_441 : decode code 441 = .ok (.iconst 0, 1) := by decide +kernel
theorem twd_law_442 : decode code 442 = .ok (.ireturn, 1) := by decide +kernel
theorem twd_law_443 : decode code 443 = .ok (.aload_n 1, 1) := by decide +kernel
theorem twd_law_444 : decode code 444 = .ok (.aload_n 0, 1) := by decide +kernel
theorem twd_law_445 : decode code 445 = .ok (.iload_n 3, 1) := by decide +kernel
theorem twd_law_446 : decode code 446 = .ok (.iconst 1, 1) := by decide +kernel
theorem twd_law_447 : decode code 447 = .ok (.iadd, 1) := by decide +kernel
theorem twd_law_448 : decode code 448 = .ok (.iaload, 1) := by decide +kernel
theorem twd_law_449 : decode code 449 = .ok (.invokevirtual 78, 3) := by decide +kernel
theorem twd_law_452 : decode code 452 = .ok (.aload_n 2, 1) := by decide +kernel
theorem twd_law_453 : decode code 453 = .ok (.aload_n 0, 1) := by decide +kernel
theorem twd_law_454 : decode code 454 = .ok (.iload_n 3, 1) := by decide +kernel
theorem twd_law_455 : decode code 455 = .ok (.iconst 1, 1) := by decide +kernel
theorem twd_law_456 : decode code 456 = .ok (.iadd, 1) := by decide +kernel
theorem twd_law_457 : decode code 457 = .ok (.iaload, 1) := by decide +kernel
theorem twd_law_458 : decode code 458 = .ok (.invokevirtual 81, 3) := by decide +kernel
theorem twd_law_461 : decode code 461 = .ok (.if_icmp .eq 61, 3) := by decide +kernel
theorem twd_law_464 : decode code 464 = .ok (.iconst 0, 1) := by decide +kernel
theorem twd_law_465 : decode code 465 = .ok (.ireturn, 1) := by decide +kernel
theorem twd_law_466 : decode code 466 = .ok (.aload_n 1, 1) := by decide +kernel
theorem twd_law_467 : decode code 467 = .ok (.aload_n 0, 1) := by decide +kernel
theorem twd_law_468 : decode code 468 = .ok (.iload_n 3, 1) := by decide +kernel
theorem twd_law_469 : decode code 469 = .ok (.iconst 1, 1) := by decide +kernel
theorem twd_law_470 : decode code 470 = .ok (.iadd, 1) := by decide +kernel
theorem twd_law_471 : decode code 471 = .ok (.iaload, 1) := by decide +kernel
theorem twd_law_472 : decode code 472 = .ok (.aload_n 0, 1) := by decide +kernel
theorem twd_law_473 : decode code 473 = .ok (.iload_n 3, 1) := by decide +kernel
theorem twd_law_474 : decode code 474 = .ok (.iconst 2, 1) := by decide +kernel
theorem twd_law_475 : decode code 475 = .ok (.iadd, 1) := by decide +kernel
theorem twd_law_476 : decode code 476 = .ok (.iaload, 1) := by decide +kernel
theorem twd_law_477 : decode code 477 = .ok (.invokevirtual 82, 3) := by decide +kernel
theorem twd_law_480 : decode code 480 = .ok (.aload_n 2, 1) := by decide +kernel
theorem twd_law_481 : decode code 481 = .ok (.aload_n 0, 1) := by decide +kernel
theorem twd_law_482 : decode code 482 = .ok (.iload_n 3, 1) := by decide +kernel
theorem twd_law_483 : decode code 483 = .ok (.iconst 1, 1) := by decide +kernel
theorem twd_law_484 : decode code 484 = .ok (.iadd, 1) := by decide +kernel
theorem twd_law_485 : decode code 485 = .ok (.iaload, 1) := by decide +kernel
theorem twd_law_486 : decode code 486 = .ok (.aload_n 0, 1) := by decide +kernel
theorem twd_law_487 : decode code 487 = .ok (.iload_n 3, 1) := by decide +kernel
theorem twd_law_488 : decode code 488 = .ok (.iconst 2, 1) := by decide +kernel
theorem twd_law_489 : decode code 489 = .ok (.iadd, 1) := by decide +kernel
theorem twd_law_490 : decode code 490 = .ok (.iaload, 1) := by decide +kernel
theorem twd_law_491 : decode code 491 = .ok (.invokevirtual 86, 3) := by decide +kernel
theorem twd_law_494 : decode code 494 = .ok (.if_icmp .eq 28, 3) := by decide +kernel
theorem twd_law_497 : decode code 497 = .ok (.iconst 0, 1) := by decide +kernel
theorem twd_law_498 : decode code 498 = .ok (.ireturn, 1) := by decide +kernel
theorem twd_law_499 : decode code 499 = .ok (.aload_n 1, 1) := by decide +kernel
theorem twd_law_500 : decode code 500 = .ok (.aload_n 0, 1) := by decide +kernel
theorem twd_law_501 : decode code 501 = .ok (.iload_n 3, 1) := by decide +kernel
theorem twd_law_502 : decode code 502 = .ok (.iconst 1, 1) := by decide +kernel
theorem twd_law_503 : decode code 503 = .ok (.iadd, 1) := by decide +kernel
theorem twd_law_504 : decode code 504 = .ok (.iaload, 1) := by decide +kernel
theorem twd_law_505 : decode code 505 = .ok (.invokevirtual 87, 3) := by decide +kernel
theorem twd_law_508 : decode code 508 = .ok (.aload_n 2, 1) := by decide +kernel
theorem twd_law_509 : decode code 509 = .ok (.aload_n 0, 1) := by decide +kernel
theorem twd_law_510 : decode code 510 = .ok (.iload_n 3, 1) := by decide +kernel
theorem twd_law_511 : decode code 511 = .ok (.iconst 1, 1) := by decide +kernel
theorem twd_law_512 : decode code 512 = .ok (.iadd, 1) := by decide +kernel
theorem twd_law_513 : decode code 513 = .ok (.iaload, 1) := by decide +kernel
theorem twd_law_514 : decode code 514 = .ok (.invokevirtual 90, 3) := by decide +kernel
theorem twd_law_517 : decode code 517 = .ok (.if_icmp .eq 5, 3) := by decide +kernel
theorem twd_law_520 : decode code 520 = .ok (.iconst 0, 1) := by decide +kernel
theorem twd_law_521 : decode code 521 = .ok (.ireturn, 1) := by decide +kernel
theorem twd_law_522 : decode code 522 = .ok (.iinc 3 5, 3) := by decide +kernel
theorem twd_law_525 : decode code 525 = .ok (.goto (-507), 3) := by decide +kernel
theorem twd_law_528 : decode code 528 = .ok (.iconst 1, 1) := by decide +kernel
theorem twd_law_529 : decode code 529 = .ok (.ireturn, 1) := by decide +kernel
set_option maxRecDepth 100000 in
set_option maxHeartbeats 4000000 in
theorem tl_loop_open {Z : tl_Z} (hX : tl_cx Z) {Sg : Type} {IC IM : Sg → List tw_c → Prop} (hq1 : ∀ sg mem, IC sg mem → ∃ fs, mem[0]? = some (.inr (0, fs))) (hq2 : ∀ sg mem, IM sg mem → ∃ fs, mem[0]? = some (.inr (9, fs)))
  (an_add : Sg → Int → Int → Int → Int → Int) (nx_add : Sg → Int → Int → Int → Int → Sg)
  (H1_add : ∀ (Post : tw_P) (sg : Sg) (mem : List tw_c) (x1 x2 x3 x4 : Int), IC sg mem → tw_rg x1 → tw_rg x2 → tw_rg x3 → tw_rg x4 → (∀ mem' : List tw_c, IC (nx_add sg x1 x2 x3 x4) mem' → Post (some (an_add sg x1 x2 x3 x4)) mem') → tw_ct (tl_Y1 Z) twy_tl_add (Cond.code twy_tl_add prog_1_method_2_code 5 (some .boolean) :: tw_Wg) 1 [.inr 0, .inl x1, .inl x2, .inl x3, .inl x4] mem Post)
  (H2_add : ∀ (Post : tw_P) (sg : Sg) (mem : List tw_c) (x1 x2 x3 x4 : Int), IM sg mem → tw_rg x1 → tw_rg x2 → tw_rg x3 → tw_rg x4 → (∀ mem' : List tw_c, IM (nx_add sg x1 x2 x3 x4) mem' → Post (some (an_add sg x1 x2 x3 x4)) mem') → tw_ct (tl_Y2 Z) twy_mo_add (Cond.code twy_mo_add prog_11_method_2_code 5 (some .boolean) :: tw_Wg) 0 [.inr 0, .inl x1, .inl x2, .inl x3, .inl x4] mem Post)
  (an_drop : Sg → Int) (nx_drop : Sg → Sg)
  (H1_drop : ∀ (Post : tw_P) (sg : Sg) (mem : List tw_c), IC sg mem → (∀ mem' : List tw_c, IC (nx_drop sg) mem' → Post (some (an_drop sg)) mem') → tw_ct (tl_Y1 Z) twy_tl_drop (Cond.code twy_tl_drop prog_1_method_3_code 1 (some .boolean) :: tw_Wg) 0 [.inr 0] mem Post)
  (H2_drop : ∀ (Post : tw_P) (sg : Sg) (mem : List tw_c), IM sg mem → (∀ mem' : List tw_c, IM (nx_drop sg) mem' → Post (some (an_drop sg)) mem') → tw_ct (tl_Y2 Z) twy_mo_drop (Cond.code twy_mo_drop prog_11_method_3_code 2 (some .boolean) :: tw_Wg) 0 [.inr 0] mem Post)
  (an_clear : Sg → Int) (nx_clear : Sg → Sg)
  (H1_clear : ∀ (Post : tw_P) (sg : Sg) (mem : List tw_c), IC sg mem → (∀ mem' : List tw_c, IC (nx_clear sg) mem' → Post none mem') → tw_ct (tl_Y1 Z) twy_tl_clear (Cond.code twy_tl_clear prog_1_method_4_code 1 none :: tw_Wg) 0 [.inr 0] mem Post)
  (H2_clear : ∀ (Post : tw_P) (sg : Sg) (mem : List tw_c), IM sg mem → (∀ mem' : List tw_c, IM (nx_clear sg) mem' → Post none mem') → tw_ct (tl_Y2 Z) twy_mo_clear (Cond.code twy_mo_clear prog_11_method_4_code 1 none :: tw_Wg) 0 [.inr 0] mem Post)
  (an_base : Sg → Int → Int) (nx_base : Sg → Int → Sg)
  (H1_base : ∀ (Post : tw_P) (sg : Sg) (mem : List tw_c) (x1 : Int), IC sg mem → tw_rg x1 → (∀ mem' : List tw_c, IC (nx_base sg x1) mem' → Post (some (an_base sg x1)) mem') → tw_ct (tl_Y1 Z) twy_tl_base (Cond.code twy_tl_base prog_1_method_5_code 2 (some .boolean) :: tw_Wg) 1 [.inr 0, .inl x1] mem Post)
  (H2_base : ∀ (Post : tw_P) (sg : Sg) (mem : List tw_c) (x1 : Int), IM sg mem → tw_rg x1 → (∀ mem' : List tw_c, IM (nx_base sg x1) mem' → Post (some (an_base sg x1)) mem') → tw_ct (tl_Y2 Z) twy_mo_base (Cond.code twy_mo_base prog_11_method_5_code 2 (some .boolean) :: tw_Wg) 0 [.inr 0, .inl x1] mem Post)
  (an_measure : Sg → Int → Int) (nx_measure : Sg → Int → Sg)
  (H1_measure : ∀ (Post : tw_P) (sg : Sg) (mem : List tw_c) (x1 : Int), IC sg mem → tw_rg x1 → (∀ mem' : List tw_c, IC (nx_measure sg x1) mem' → Post (some (an_measure sg x1)) mem') → tw_ct (tl_Y1 Z) twy_tl_measure (Cond.code twy_tl_measure prog_1_method_6_code 2 (some .boolean) :: tw_Wg) 1 [.inr 0, .inl x1] mem Post)
  (H2_measure : ∀ (Post : tw_P) (sg : Sg) (mem : List tw_c) (x1 : Int), IM sg mem → tw_rg x1 → (∀ mem' : List tw_c, IM (nx_measure sg x1) mem' → Post (some (an_measure sg x1)) mem') → tw_ct (tl_Y2 Z) twy_mo_measure (Cond.code twy_mo_measure prog_11_method_6_code 2 (some .boolean) :: tw_Wg) 0 [.inr 0, .inl x1] mem Post)
  (an_length : Sg → Int) (nx_length : Sg → Sg)
  (H1_length : ∀ (Post : tw_P) (sg : Sg) (mem : List tw_c), IC sg mem → (∀ mem' : List tw_c, IC (nx_length sg) mem' → Post (some (an_length sg)) mem') → tw_ct (tl_Y1 Z) twy_tl_length (Cond.code twy_tl_length prog_1_method_7_code 1 (some .int) :: tw_Wg) 0 [.inr 0] mem Post)
  (H2_length : ∀ (Post : tw_P) (sg : Sg) (mem : List tw_c), IM sg mem → (∀ mem' : List tw_c, IM (nx_length sg) mem' → Post (some (an_length sg)) mem') → tw_ct (tl_Y2 Z) twy_mo_length (Cond.code twy_mo_length prog_11_method_7_code 1 (some .int) :: tw_Wg) 0 [.inr 0] mem Post)
  (an_paragraphLevel : Sg → Int) (nx_paragraphLevel : Sg → Sg)
  (H1_paragraphLevel : ∀ (Post : tw_P) (sg : Sg) (mem : List tw_c), IC sg mem → (∀ mem' : List tw_c, IC (nx_paragraphLevel sg) mem' → Post (some (an_paragraphLevel sg)) mem') → tw_ct (tl_Y1 Z) twy_tl_paragraphLevel (Cond.code twy_tl_paragraphLevel prog_1_method_8_code 1 (some .int) :: tw_Wg) 6 [.inr 0] mem Post)
  (H2_paragraphLevel : ∀ (Post : tw_P) (sg : Sg) (mem : List tw_c), IM sg mem → (∀ mem' : List tw_c, IM (nx_paragraphLevel sg) mem' → Post (some (an_paragraphLevel sg)) mem') → tw_ct (tl_Y2 Z) twy_mo_paragraphLevel (Cond.code twy_mo_paragraphLevel prog_11_method_46_code 1 (some .int) :: tw_Wg) 6 [.inr 0] mem Post)
  (an_match : Sg → Int → Int) (nx_match : Sg → Int → Sg)
  (H1_match : ∀ (Post : tw_P) (sg : Sg) (mem : List tw_c) (x1 : Int), IC sg mem → tw_rg x1 → (∀ mem' : List tw_c, IC (nx_match sg x1) mem' → Post (some (an_match sg x1)) mem') → tw_ct (tl_Y1 Z) twy_tl_match (Cond.code twy_tl_match prog_1_method_9_code 2 (some .int) :: tw_Wg) 6 [.inr 0, .inl x1] mem Post)
  (H2_match : ∀ (Post : tw_P) (sg : Sg) (mem : List tw_c) (x1 : Int), IM sg mem → tw_rg x1 → (∀ mem' : List tw_c, IM (nx_match sg x1) mem' → Post (some (an_match sg x1)) mem') → tw_ct (tl_Y2 Z) twy_mo_match (Cond.code twy_mo_match prog_11_method_11_code 3 (some .int) :: tw_Wg) 2 [.inr 0, .inl x1] mem Post)
  (an_partner : Sg → Int → Int) (nx_partner : Sg → Int → Sg)
  (H1_partner : ∀ (Post : tw_P) (sg : Sg) (mem : List tw_c) (x1 : Int), IC sg mem → tw_rg x1 → (∀ mem' : List tw_c, IC (nx_partner sg x1) mem' → Post (some (an_partner sg x1)) mem') → tw_ct (tl_Y1 Z) twy_tl_partner (Cond.code twy_tl_partner prog_1_method_10_code 2 (some .int) :: tw_Wg) 6 [.inr 0, .inl x1] mem Post)
  (H2_partner : ∀ (Post : tw_P) (sg : Sg) (mem : List tw_c) (x1 : Int), IM sg mem → tw_rg x1 → (∀ mem' : List tw_c, IM (nx_partner sg x1) mem' → Post (some (an_partner sg x1)) mem') → tw_ct (tl_Y2 Z) twy_mo_partner (Cond.code twy_mo_partner prog_11_method_47_code 2 (some .int) :: tw_Wg) 7 [.inr 0, .inl x1] mem Post)
  (an_type : Sg → Int → Int) (nx_type : Sg → Int → Sg)
  (H1_type : ∀ (Post : tw_P) (sg : Sg) (mem : List tw_c) (x1 : Int), IC sg mem → tw_rg x1 → (∀ mem' : List tw_c, IC (nx_type sg x1) mem' → Post (some (an_type sg x1)) mem') → tw_ct (tl_Y1 Z) twy_tl_type (Cond.code twy_tl_type prog_1_method_11_code 2 (some .int) :: tw_Wg) 6 [.inr 0, .inl x1] mem Post)
  (H2_type : ∀ (Post : tw_P) (sg : Sg) (mem : List tw_c) (x1 : Int), IM sg mem → tw_rg x1 → (∀ mem' : List tw_c, IM (nx_type sg x1) mem' → Post (some (an_type sg x1)) mem') → tw_ct (tl_Y2 Z) twy_mo_type (Cond.code twy_mo_type prog_11_method_48_code 2 (some .int) :: tw_Wg) 7 [.inr 0, .inl x1] mem Post)
  (an_level : Sg → Int → Int) (nx_level : Sg → Int → Sg)
  (H1_level : ∀ (Post : tw_P) (sg : Sg) (mem : List tw_c) (x1 : Int), IC sg mem → tw_rg x1 → (∀ mem' : List tw_c, IC (nx_level sg x1) mem' → Post (some (an_level sg x1)) mem') → tw_ct (tl_Y1 Z) twy_tl_level (Cond.code twy_tl_level prog_1_method_12_code 2 (some .int) :: tw_Wg) 6 [.inr 0, .inl x1] mem Post)
  (H2_level : ∀ (Post : tw_P) (sg : Sg) (mem : List tw_c) (x1 : Int), IM sg mem → tw_rg x1 → (∀ mem' : List tw_c, IM (nx_level sg x1) mem' → Post (some (an_level sg x1)) mem') → tw_ct (tl_Y2 Z) twy_mo_level (Cond.code twy_mo_level prog_11_method_49_code 2 (some .int) :: tw_Wg) 7 [.inr 0, .inl x1] mem Post)
  (an_mayBreak : Sg → Int → Int) (nx_mayBreak : Sg → Int → Sg)
  (H1_mayBreak : ∀ (Post : tw_P) (sg : Sg) (mem : List tw_c) (x1 : Int), IC sg mem → tw_rg x1 → (∀ mem' : List tw_c, IC (nx_mayBreak sg x1) mem' → Post (some (an_mayBreak sg x1)) mem') → tw_ct (tl_Y1 Z) twy_tl_mayBreak (Cond.code twy_tl_mayBreak prog_1_method_13_code 2 (some .boolean) :: tw_Wg) 6 [.inr 0, .inl x1] mem Post)
  (H2_mayBreak : ∀ (Post : tw_P) (sg : Sg) (mem : List tw_c) (x1 : Int), IM sg mem → tw_rg x1 → (∀ mem' : List tw_c, IM (nx_mayBreak sg x1) mem' → Post (some (an_mayBreak sg x1)) mem') → tw_ct (tl_Y2 Z) twy_mo_mayBreak (Cond.code twy_mo_mayBreak prog_11_method_38_code 5 (some .boolean) :: tw_Wg) 1 [.inr 0, .inl x1] mem Post)
  (an_lines : Sg → Int) (nx_lines : Sg → Sg)
  (H1_lines : ∀ (Post : tw_P) (sg : Sg) (mem : List tw_c), IC sg mem → (∀ mem' : List tw_c, IC (nx_lines sg) mem' → Post (some (an_lines sg)) mem') → tw_ct (tl_Y1 Z) twy_tl_lines (Cond.code twy_tl_lines prog_1_method_14_code 1 (some .int) :: tw_Wg) 6 [.inr 0] mem Post)
  (H2_lines : ∀ (Post : tw_P) (sg : Sg) (mem : List tw_c), IM sg mem → (∀ mem' : List tw_c, IM (nx_lines sg) mem' → Post (some (an_lines sg)) mem') → tw_ct (tl_Y2 Z) twy_mo_lines (Cond.code twy_mo_lines prog_11_method_50_code 1 (some .int) :: tw_Wg) 6 [.inr 0] mem Post)
  (an_start : Sg → Int → Int) (nx_start : Sg → Int → Sg)
  (H1_start : ∀ (Post : tw_P) (sg : Sg) (mem : List tw_c) (x1 : Int), IC sg mem → tw_rg x1 → (∀ mem' : List tw_c, IC (nx_start sg x1) mem' → Post (some (an_start sg x1)) mem') → tw_ct (tl_Y1 Z) twy_tl_start (Cond.code twy_tl_start prog_1_method_15_code 2 (some .int) :: tw_Wg) 6 [.inr 0, .inl x1] mem Post)
  (H2_start : ∀ (Post : tw_P) (sg : Sg) (mem : List tw_c) (x1 : Int), IM sg mem → tw_rg x1 → (∀ mem' : List tw_c, IM (nx_start sg x1) mem' → Post (some (an_start sg x1)) mem') → tw_ct (tl_Y2 Z) twy_mo_start (Cond.code twy_mo_start prog_11_method_51_code 2 (some .int) :: tw_Wg) 6 [.inr 0, .inl x1] mem Post)
  (an_extent : Sg → Int → Int) (nx_extent : Sg → Int → Sg)
  (H1_extent : ∀ (Post : tw_P) (sg : Sg) (mem : List tw_c) (x1 : Int), IC sg mem → tw_rg x1 → (∀ mem' : List tw_c, IC (nx_extent sg x1) mem' → Post (some (an_extent sg x1)) mem') → tw_ct (tl_Y1 Z) twy_tl_extent (Cond.code twy_tl_extent prog_1_method_16_code 2 (some .int) :: tw_Wg) 6 [.inr 0, .inl x1] mem Post)
  (H2_extent : ∀ (Post : tw_P) (sg : Sg) (mem : List tw_c) (x1 : Int), IM sg mem → tw_rg x1 → (∀ mem' : List tw_c, IM (nx_extent sg x1) mem' → Post (some (an_extent sg x1)) mem') → tw_ct (tl_Y2 Z) twy_mo_extent (Cond.code twy_mo_extent prog_11_method_52_code 2 (some .int) :: tw_Wg) 6 [.inr 0, .inl x1] mem Post)
  (an_shownLevel : Sg → Int → Int) (nx_shownLevel : Sg → Int → Sg)
  (H1_shownLevel : ∀ (Post : tw_P) (sg : Sg) (mem : List tw_c) (x1 : Int), IC sg mem → tw_rg x1 → (∀ mem' : List tw_c, IC (nx_shownLevel sg x1) mem' → Post (some (an_shownLevel sg x1)) mem') → tw_ct (tl_Y1 Z) twy_tl_shownLevel (Cond.code twy_tl_shownLevel prog_1_method_17_code 2 (some .int) :: tw_Wg) 6 [.inr 0, .inl x1] mem Post)
  (H2_shownLevel : ∀ (Post : tw_P) (sg : Sg) (mem : List tw_c) (x1 : Int), IM sg mem → tw_rg x1 → (∀ mem' : List tw_c, IM (nx_shownLevel sg x1) mem' → Post (some (an_shownLevel sg x1)) mem') → tw_ct (tl_Y2 Z) twy_mo_shownLevel (Cond.code twy_mo_shownLevel prog_11_method_53_code 2 (some .int) :: tw_Wg) 7 [.inr 0, .inl x1] mem Post)
  (an_shown : Sg → Int → Int → Int) (nx_shown : Sg → Int → Int → Sg)
  (H1_shown : ∀ (Post : tw_P) (sg : Sg) (mem : List tw_c) (x1 x2 : Int), IC sg mem → tw_rg x1 → tw_rg x2 → (∀ mem' : List tw_c, IC (nx_shown sg x1 x2) mem' → Post (some (an_shown sg x1 x2)) mem') → tw_ct (tl_Y1 Z) twy_tl_shown (Cond.code twy_tl_shown prog_1_method_18_code 5 (some .int) :: tw_Wg) 6 [.inr 0, .inl x1, .inl x2] mem Post)
  (H2_shown : ∀ (Post : tw_P) (sg : Sg) (mem : List tw_c) (x1 x2 : Int), IM sg mem → tw_rg x1 → tw_rg x2 → (∀ mem' : List tw_c, IM (nx_shown sg x1 x2) mem' → Post (some (an_shown sg x1 x2)) mem') → tw_ct (tl_Y2 Z) twy_mo_shown (Cond.code twy_mo_shown prog_11_method_54_code 3 (some .int) :: tw_Wg) 6 [.inr 0, .inl x1, .inl x2] mem Post)
  (an_mirrored : Sg → Int → Int) (nx_mirrored : Sg → Int → Sg)
  (H1_mirrored : ∀ (Post : tw_P) (sg : Sg) (mem : List tw_c) (x1 : Int), IC sg mem → tw_rg x1 → (∀ mem' : List tw_c, IC (nx_mirrored sg x1) mem' → Post (some (an_mirrored sg x1)) mem') → tw_ct (tl_Y1 Z) twy_tl_mirrored (Cond.code twy_tl_mirrored prog_1_method_19_code 2 (some .boolean) :: tw_Wg) 6 [.inr 0, .inl x1] mem Post)
  (H2_mirrored : ∀ (Post : tw_P) (sg : Sg) (mem : List tw_c) (x1 : Int), IM sg mem → tw_rg x1 → (∀ mem' : List tw_c, IM (nx_mirrored sg x1) mem' → Post (some (an_mirrored sg x1)) mem') → tw_ct (tl_Y2 Z) twy_mo_mirrored (Cond.code twy_mo_mirrored prog_11_method_55_code 2 (some .boolean) :: tw_Wg) 7 [.inr 0, .inl x1] mem Post) :
  ∀ (f : Nat) (z : Int) (sg : Sg) (mem1 mem2 : List tw_c), 0 ≤ z → z ≤ (tl_L Z : Int) + 5 → (tl_L Z : Int) + 5 - z < (f : Int) → IC sg mem1 → IM sg mem2 → tl_ln Z 18 [some (.inr 0), some (.inr 1), some (.inr 2), some (.inl z)] [] mem1 mem2 := by
  intro f
  induction f with
  | zero => intro z sg mem1 mem2 h0 h1 h2; omega
  | succ f ih =>
    intro z sg mem1 mem2 h0 h1 h2 hC hM
    have hlen := tl_len hX
    have hys := tl_rg hX
    refine tl_iload_n hX twd_law_18 rfl rfl ?_
    refine tl_aload_n hX twd_law_19 rfl rfl ?_
    refine tl_slen hX twd_law_20 ?_
    refine tl_iconst hX twd_law_21 ⟨by decide, by decide⟩ ?_
    refine tl_isub hX twd_law_22 ⟨by omega, by omega⟩ ?_
    refine tl_icmp_gt hX twd_law_23 (tgt := 528) rfl (fun hgt => ?_) (fun hgt => ?_)
    · refine tl_iconst hX twd_law_528 ⟨by decide, by decide⟩ ?_
      exact tl_ret hX twd_law_529
    have hnext : ∀ (sg : Sg) (mem1 mem2 : List tw_c), IC sg mem1 → IM sg mem2 → tl_ln Z 522 [some (.inr 0), some (.inr 1), some (.inr 2), some (.inl z)] [] mem1 mem2 := by
      intro sg mem1 mem2 hC hM
      refine tl_iinc (L' := [some (.inr 0), some (.inr 1), some (.inr 2), some (.inl (z + 5))]) hX twd_law_522 rfl (by decide) ⟨by omega, by omega⟩ rfl ?_
      refine tl_goto hX twd_law_525 (tgt := 18) rfl ?_
      exact ih (z + 5) sg mem1 mem2 (by omega) (by omega) (by omega) hC hM
    refine tl_aload_n hX twd_law_26 rfl rfl ?_
    refine tl_iload_n hX twd_law_27 rfl rfl ?_
    refine tl_sld hX twd_law_28 ⟨by omega, by omega⟩ ?_
    refine tl_bipush hX twd_law_29 (by decide +kernel) ⟨by decide, by decide⟩ ?_
    refine tl_and31 hX twd_law_31 (fun c hc => ?_)
    rcases (by omega : c = 0 ∨ c = 1 ∨ c = 2 ∨ c = 3 ∨ c = 4 ∨ c = 5 ∨ c = 6 ∨ c = 7 ∨ c = 8 ∨ c = 9 ∨ c = 10 ∨ c = 11 ∨ c = 12 ∨ c = 13 ∨ c = 14 ∨ c = 15 ∨ c = 16 ∨ c = 17 ∨ 17 < c) with rfl | rfl | rfl | rfl | rfl | rfl | rfl | rfl | rfl | rfl | rfl | rfl | rfl | rfl | rfl | rfl | rfl | rfl | hbig
    · refine tl_table (tgt := 120) hX twd_law_32 ⟨by decide, by decide⟩ rfl rfl ?_
      refine tl_aload_n hX twd_law_120 rfl rfl ?_
      refine tl_aload_n hX twd_law_121 rfl rfl ?_
      refine tl_iload_n hX twd_law_122 rfl rfl ?_
      refine tl_iconst hX twd_law_123 ⟨by decide, by decide⟩ ?_
      refine tl_iadd hX twd_law_124 ⟨by omega, by omega⟩ ?_
      refine tl_sld hX twd_law_125 ⟨by omega, by omega⟩ ?_
      refine tl_aload_n hX twd_law_126 rfl rfl ?_
      refine tl_iload_n hX twd_law_127 rfl rfl ?_
      refine tl_iconst hX twd_law_128 ⟨by decide, by decide⟩ ?_
      refine tl_iadd hX twd_law_129 ⟨by omega, by omega⟩ ?_
      refine tl_sld hX twd_law_130 ⟨by omega, by omega⟩ ?_
      refine tl_aload_n hX twd_law_131 rfl rfl ?_
      refine tl_iload_n hX twd_law_132 rfl rfl ?_
      refine tl_iconst hX twd_law_133 ⟨by decide, by decide⟩ ?_
      refine tl_iadd hX twd_law_134 ⟨by omega, by omega⟩ ?_
      refine tl_sld hX twd_law_135 ⟨by omega, by omega⟩ ?_
      refine tl_aload_n hX twd_law_136 rfl rfl ?_
      refine tl_iload_n hX twd_law_137 rfl rfl ?_
      refine tl_iconst hX twd_law_138 ⟨by decide, by decide⟩ ?_
      refine tl_iadd hX twd_law_139 ⟨by omega, by omega⟩ ?_
      refine tl_sld hX twd_law_140 ⟨by omega, by omega⟩ ?_
      obtain ⟨fs, hq⟩ := hq1 _ _ hC
      refine tl_call1 (As := [tl_ys Z (Int.toNat (z + 1)), tl_ys Z (Int.toNat (z + 2)), tl_ys Z (Int.toNat (z + 3)), tl_ys Z (Int.toNat (z + 4))]) (S := []) (n := 4) hX twd_law_141 tww_348 tww_345 tww_346 tww_347 tww_77 twk_tl_add rfl hq ⟨by decide, by decide⟩ rfl (Nat.le_of_ble_eq_true rfl) (H1_add _ sg _ (tl_ys Z (Int.toNat (z + 1))) (tl_ys Z (Int.toNat (z + 2))) (tl_ys Z (Int.toNat (z + 3))) (tl_ys Z (Int.toNat (z + 4))) hC (hys _) (hys _) (hys _) (hys _) (fun mem1' hC => ?_))
      clear hq fs
      change tl_ln Z 144 [some (.inr 0), some (.inr 1), some (.inr 2), some (.inl z)] [.inl (an_add sg (tl_ys Z (Int.toNat (z + 1))) (tl_ys Z (Int.toNat (z + 2))) (tl_ys Z (Int.toNat (z + 3))) (tl_ys Z (Int.toNat (z + 4))))] mem1' mem2
      refine tl_aload_n hX twd_law_144 rfl rfl ?_
      refine tl_aload_n hX twd_law_145 rfl rfl ?_
      refine tl_iload_n hX twd_law_146 rfl rfl ?_
      refine tl_iconst hX twd_law_147 ⟨by decide, by decide⟩ ?_
      refine tl_iadd hX twd_law_148 ⟨by omega, by omega⟩ ?_
      refine tl_sld hX twd_law_149 ⟨by omega, by omega⟩ ?_
      refine tl_aload_n hX twd_law_150 rfl rfl ?_
      refine tl_iload_n hX twd_law_151 rfl rfl ?_
      refine tl_iconst hX twd_law_152 ⟨by decide, by decide⟩ ?_
      refine tl_iadd hX twd_law_153 ⟨by omega, by omega⟩ ?_
      refine tl_sld hX twd_law_154 ⟨by omega, by omega⟩ ?_
      refine tl_aload_n hX twd_law_155 rfl rfl ?_
      refine tl_iload_n hX twd_law_156 rfl rfl ?_
      refine tl_iconst hX twd_law_157 ⟨by decide, by decide⟩ ?_
      refine tl_iadd hX twd_law_158 ⟨by omega, by omega⟩ ?_
      refine tl_sld hX twd_law_159 ⟨by omega, by omega⟩ ?_
      refine tl_aload_n hX twd_law_160 rfl rfl ?_
      refine tl_iload_n hX twd_law_161 rfl rfl ?_
      refine tl_iconst hX twd_law_162 ⟨by decide, by decide⟩ ?_
      refine tl_iadd hX twd_law_163 ⟨by omega, by omega⟩ ?_
      refine tl_sld hX twd_law_164 ⟨by omega, by omega⟩ ?_
      obtain ⟨fs, hq⟩ := hq2 _ _ hM
      refine tl_call2 (As := [tl_ys Z (Int.toNat (z + 1)), tl_ys Z (Int.toNat (z + 2)), tl_ys Z (Int.toNat (z + 3)), tl_ys Z (Int.toNat (z + 4))]) (S := [.inl (an_add sg (tl_ys Z (Int.toNat (z + 1))) (tl_ys Z (Int.toNat (z + 2))) (tl_ys Z (Int.toNat (z + 3))) (tl_ys Z (Int.toNat (z + 4))))]) (n := 4) hX twd_law_165 tww_784 tww_781 tww_782 tww_783 tww_86 twk_mo_add rfl hq ⟨by decide, by decide⟩ rfl (Nat.le_of_ble_eq_true rfl) (H2_add _ sg _ (tl_ys Z (Int.toNat (z + 1))) (tl_ys Z (Int.toNat (z + 2))) (tl_ys Z (Int.toNat (z + 3))) (tl_ys Z (Int.toNat (z + 4))) hM (hys _) (hys _) (hys _) (hys _) (fun mem2' hM => ?_))
      clear hq fs
      change tl_ln Z 168 [some (.inr 0), some (.inr 1), some (.inr 2), some (.inl z)] [.inl (an_add sg (tl_ys Z (Int.toNat (z + 1))) (tl_ys Z (Int.toNat (z + 2))) (tl_ys Z (Int.toNat (z + 3))) (tl_ys Z (Int.toNat (z + 4)))), .inl (an_add sg (tl_ys Z (Int.toNat (z + 1))) (tl_ys Z (Int.toNat (z + 2))) (tl_ys Z (Int.toNat (z + 3))) (tl_ys Z (Int.toNat (z + 4))))] mem1' mem2'
      refine tl_icmp_same hX twd_law_168 (tgt := 522) rfl ?_
      exact hnext (nx_add sg (tl_ys Z (Int.toNat (z + 1))) (tl_ys Z (Int.toNat (z + 2))) (tl_ys Z (Int.toNat (z + 3))) (tl_ys Z (Int.toNat (z + 4)))) _ _ hC hM
    · refine tl_table (tgt := 173) hX twd_law_32 ⟨by decide, by decide⟩ rfl rfl ?_
      refine tl_aload_n hX twd_law_173 rfl rfl ?_
      obtain ⟨fs, hq⟩ := hq1 _ _ hC
      refine tl_call1 (As := []) (S := []) (n := 0) hX twd_law_174 tww_359 tww_356 tww_357 tww_358 tww_77 twk_tl_drop rfl hq ⟨by decide, by decide⟩ rfl (Nat.le_of_ble_eq_true rfl) (H1_drop _ sg _ hC (fun mem1' hC => ?_))
      clear hq fs
      change tl_ln Z 177 [some (.inr 0), some (.inr 1), some (.inr 2), some (.inl z)] [.inl (an_drop sg)] mem1' mem2
      refine tl_aload_n hX twd_law_177 rfl rfl ?_
      obtain ⟨fs, hq⟩ := hq2 _ _ hM
      refine tl_call2 (As := []) (S := [.inl (an_drop sg)]) (n := 0) hX twd_law_178 tww_788 tww_785 tww_786 tww_787 tww_86 twk_mo_drop rfl hq ⟨by decide, by decide⟩ rfl (Nat.le_of_ble_eq_true rfl) (H2_drop _ sg _ hM (fun mem2' hM => ?_))
      clear hq fs
      change tl_ln Z 181 [some (.inr 0), some (.inr 1), some (.inr 2), some (.inl z)] [.inl (an_drop sg), .inl (an_drop sg)] mem1' mem2'
      refine tl_icmp_same hX twd_law_181 (tgt := 522) rfl ?_
      exact hnext (nx_drop sg) _ _ hC hM
    · refine tl_table (tgt := 186) hX twd_law_32 ⟨by decide, by decide⟩ rfl rfl ?_
      refine tl_aload_n hX twd_law_186 rfl rfl ?_
      obtain ⟨fs, hq⟩ := hq1 _ _ hC
      refine tl_call1 (As := []) (S := []) (n := 0) hX twd_law_187 tww_363 tww_360 tww_361 tww_362 tww_77 twk_tl_clear rfl hq ⟨by decide, by decide⟩ rfl (Nat.le_of_ble_eq_true rfl) (H1_clear _ sg _ hC (fun mem1' hC => ?_))
      clear hq fs
      change tl_ln Z 190 [some (.inr 0), some (.inr 1), some (.inr 2), some (.inl z)] [] mem1' mem2
      refine tl_aload_n hX twd_law_190 rfl rfl ?_
      obtain ⟨fs, hq⟩ := hq2 _ _ hM
      refine tl_call2 (As := []) (S := []) (n := 0) hX twd_law_191 tww_792 tww_789 tww_790 tww_791 tww_86 twk_mo_clear rfl hq ⟨by decide, by decide⟩ rfl (Nat.le_of_ble_eq_true rfl) (H2_clear _ sg _ hM (fun mem2' hM => ?_))
      clear hq fs
      change tl_ln Z 194 [some (.inr 0), some (.inr 1), some (.inr 2), some (.inl z)] [] mem1' mem2'
      refine tl_goto hX twd_law_194 (tgt := 522) rfl ?_
      exact hnext (nx_clear sg) _ _ hC hM
    · refine tl_table (tgt := 197) hX twd_law_32 ⟨by decide, by decide⟩ rfl rfl ?_
      refine tl_aload_n hX twd_law_197 rfl rfl ?_
      refine tl_aload_n hX twd_law_198 rfl rfl ?_
      refine tl_iload_n hX twd_law_199 rfl rfl ?_
      refine tl_iconst hX twd_law_200 ⟨by decide, by decide⟩ ?_
      refine tl_iadd hX twd_law_201 ⟨by omega, by omega⟩ ?_
      refine tl_sld hX twd_law_202 ⟨by omega, by omega⟩ ?_
      obtain ⟨fs, hq⟩ := hq1 _ _ hC
      refine tl_call1 (As := [tl_ys Z (Int.toNat (z + 1))]) (S := []) (n := 1) hX twd_law_203 tww_367 tww_364 tww_365 tww_366 tww_77 twk_tl_base rfl hq ⟨by decide, by decide⟩ rfl (Nat.le_of_ble_eq_true rfl) (H1_base _ sg _ (tl_ys Z (Int.toNat (z + 1))) hC (hys _) (fun mem1' hC => ?_))
      clear hq fs
      change tl_ln Z 206 [some (.inr 0), some (.inr 1), some (.inr 2), some (.inl z)] [.inl (an_base sg (tl_ys Z (Int.toNat (z + 1))))] mem1' mem2
      refine tl_aload_n hX twd_law_206 rfl rfl ?_
      refine tl_aload_n hX twd_law_207 rfl rfl ?_
      refine tl_iload_n hX twd_law_208 rfl rfl ?_
      refine tl_iconst hX twd_law_209 ⟨by decide, by decide⟩ ?_
      refine tl_iadd hX twd_law_210 ⟨by omega, by omega⟩ ?_
      refine tl_sld hX twd_law_211 ⟨by omega, by omega⟩ ?_
      obtain ⟨fs, hq⟩ := hq2 _ _ hM
      refine tl_call2 (As := [tl_ys Z (Int.toNat (z + 1))]) (S := [.inl (an_base sg (tl_ys Z (Int.toNat (z + 1))))]) (n := 1) hX twd_law_212 tww_796 tww_793 tww_794 tww_795 tww_86 twk_mo_base rfl hq ⟨by decide, by decide⟩ rfl (Nat.le_of_ble_eq_true rfl) (H2_base _ sg _ (tl_ys Z (Int.toNat (z + 1))) hM (hys _) (fun mem2' hM => ?_))
      clear hq fs
      change tl_ln Z 215 [some (.inr 0), some (.inr 1), some (.inr 2), some (.inl z)] [.inl (an_base sg (tl_ys Z (Int.toNat (z + 1)))), .inl (an_base sg (tl_ys Z (Int.toNat (z + 1))))] mem1' mem2'
      refine tl_icmp_same hX twd_law_215 (tgt := 522) rfl ?_
      exact hnext (nx_base sg (tl_ys Z (Int.toNat (z + 1)))) _ _ hC hM
    · refine tl_table (tgt := 220) hX twd_law_32 ⟨by decide, by decide⟩ rfl rfl ?_
      refine tl_aload_n hX twd_law_220 rfl rfl ?_
      refine tl_aload_n hX twd_law_221 rfl rfl ?_
      refine tl_iload_n hX twd_law_222 rfl rfl ?_
      refine tl_iconst hX twd_law_223 ⟨by decide, by decide⟩ ?_
      refine tl_iadd hX twd_law_224 ⟨by omega, by omega⟩ ?_
      refine tl_sld hX twd_law_225 ⟨by omega, by omega⟩ ?_
      obtain ⟨fs, hq⟩ := hq1 _ _ hC
      refine tl_call1 (As := [tl_ys Z (Int.toNat (z + 1))]) (S := []) (n := 1) hX twd_law_226 tww_371 tww_368 tww_369 tww_370 tww_77 twk_tl_measure rfl hq ⟨by decide, by decide⟩ rfl (Nat.le_of_ble_eq_true rfl) (H1_measure _ sg _ (tl_ys Z (Int.toNat (z + 1))) hC (hys _) (fun mem1' hC => ?_))
      clear hq fs
      change tl_ln Z 229 [some (.inr 0), some (.inr 1), some (.inr 2), some (.inl z)] [.inl (an_measure sg (tl_ys Z (Int.toNat (z + 1))))] mem1' mem2
      refine tl_aload_n hX twd_law_229 rfl rfl ?_
      refine tl_aload_n hX twd_law_230 rfl rfl ?_
      refine tl_iload_n hX twd_law_231 rfl rfl ?_
      refine tl_iconst hX twd_law_232 ⟨by decide, by decide⟩ ?_
      refine tl_iadd hX twd_law_233 ⟨by omega, by omega⟩ ?_
      refine tl_sld hX twd_law_234 ⟨by omega, by omega⟩ ?_
      obtain ⟨fs, hq⟩ := hq2 _ _ hM
      refine tl_call2 (As := [tl_ys Z (Int.toNat (z + 1))]) (S := [.inl (an_measure sg (tl_ys Z (Int.toNat (z + 1))))]) (n := 1) hX twd_law_235 tww_800 tww_797 tww_798 tww_799 tww_86 twk_mo_measure rfl hq ⟨by decide, by decide⟩ rfl (Nat.le_of_ble_eq_true rfl) (H2_measure _ sg _ (tl_ys Z (Int.toNat (z + 1))) hM (hys _) (fun mem2' hM => ?_))
      clear hq fs
      change tl_ln Z 238 [some (.inr 0), some (.inr 1), some (.inr 2), some (.inl z)] [.inl (an_measure sg (tl_ys Z (Int.toNat (z + 1)))), .inl (an_measure sg (tl_ys Z (Int.toNat (z + 1))))] mem1' mem2'
      refine tl_icmp_same hX twd_law_238 (tgt := 522) rfl ?_
      exact hnext (nx_measure sg (tl_ys Z (Int.toNat (z + 1)))) _ _ hC hM
    · refine tl_table (tgt := 243) hX twd_law_32 ⟨by decide, by decide⟩ rfl rfl ?_
      refine tl_aload_n hX twd_law_243 rfl rfl ?_
      obtain ⟨fs, hq⟩ := hq1 _ _ hC
      refine tl_call1 (As := []) (S := []) (n := 0) hX twd_law_244 tww_375 tww_372 tww_373 tww_374 tww_77 twk_tl_length rfl hq ⟨by decide, by decide⟩ rfl (Nat.le_of_ble_eq_true rfl) (H1_length _ sg _ hC (fun mem1' hC => ?_))
      clear hq fs
      change tl_ln Z 247 [some (.inr 0), some (.inr 1), some (.inr 2), some (.inl z)] [.inl (an_length sg)] mem1' mem2
      refine tl_aload_n hX twd_law_247 rfl rfl ?_
      obtain ⟨fs, hq⟩ := hq2 _ _ hM
      refine tl_call2 (As := []) (S := [.inl (an_length sg)]) (n := 0) hX twd_law_248 tww_804 tww_801 tww_802 tww_803 tww_86 twk_mo_length rfl hq ⟨by decide, by decide⟩ rfl (Nat.le_of_ble_eq_true rfl) (H2_length _ sg _ hM (fun mem2' hM => ?_))
      clear hq fs
      change tl_ln Z 251 [some (.inr 0), some (.inr 1), some (.inr 2), some (.inl z)] [.inl (an_length sg), .inl (an_length sg)] mem1' mem2'
      refine tl_icmp_same hX twd_law_251 (tgt := 522) rfl ?_
      exact hnext (nx_length sg) _ _ hC hM
    · refine tl_table (tgt := 256) hX twd_law_32 ⟨by decide, by decide⟩ rfl rfl ?_
      refine tl_aload_n hX twd_law_256 rfl rfl ?_
      obtain ⟨fs, hq⟩ := hq1 _ _ hC
      refine tl_call1 (As := []) (S := []) (n := 0) hX twd_law_257 tww_379 tww_376 tww_377 tww_378 tww_77 twk_tl_paragraphLevel rfl hq ⟨by decide, by decide⟩ rfl (Nat.le_of_ble_eq_true rfl) (H1_paragraphLevel _ sg _ hC (fun mem1' hC => ?_))
      clear hq fs
      change tl_ln Z 260 [some (.inr 0), some (.inr 1), some (.inr 2), some (.inl z)] [.inl (an_paragraphLevel sg)] mem1' mem2
      refine tl_aload_n hX twd_law_260 rfl rfl ?_
      obtain ⟨fs, hq⟩ := hq2 _ _ hM
      refine tl_call2 (As := []) (S := [.inl (an_paragraphLevel sg)]) (n := 0) hX twd_law_261 tww_828 tww_825 tww_826 tww_827 tww_86 twk_mo_paragraphLevel rfl hq ⟨by decide, by decide⟩ rfl (Nat.le_of_ble_eq_true rfl) (H2_paragraphLevel _ sg _ hM (fun mem2' hM => ?_))
      clear hq fs
      change tl_ln Z 264 [some (.inr 0), some (.inr 1), some (.inr 2), some (.inl z)] [.inl (an_paragraphLevel sg), .inl (an_paragraphLevel sg)] mem1' mem2'
      refine tl_icmp_same hX twd_law_264 (tgt := 522) rfl ?_
      exact hnext (nx_paragraphLevel sg) _ _ hC hM
    · refine tl_table (tgt := 269) hX twd_law_32 ⟨by decide, by decide⟩ rfl rfl ?_
      refine tl_aload_n hX twd_law_269 rfl rfl ?_
      refine tl_aload_n hX twd_law_270 rfl rfl ?_
      refine tl_iload_n hX twd_law_271 rfl rfl ?_
      refine tl_iconst hX twd_law_272 ⟨by decide, by decide⟩ ?_
      refine tl_iadd hX twd_law_273 ⟨by omega, by omega⟩ ?_
      refine tl_sld hX twd_law_274 ⟨by omega, by omega⟩ ?_
      obtain ⟨fs, hq⟩ := hq1 _ _ hC
      refine tl_call1 (As := [tl_ys Z (Int.toNat (z + 1))]) (S := []) (n := 1) hX twd_law_275 tww_632 tww_629 tww_630 tww_631 tww_77 twk_tl_match rfl hq ⟨by decide, by decide⟩ rfl (Nat.le_of_ble_eq_true rfl) (H1_match _ sg _ (tl_ys Z (Int.toNat (z + 1))) hC (hys _) (fun mem1' hC => ?_))
      clear hq fs
      change tl_ln Z 278 [some (.inr 0), some (.inr 1), some (.inr 2), some (.inl z)] [.inl (an_match sg (tl_ys Z (Int.toNat (z + 1))))] mem1' mem2
      refine tl_aload_n hX twd_law_278 rfl rfl ?_
      refine tl_aload_n hX twd_law_279 rfl rfl ?_
      refine tl_iload_n hX twd_law_280 rfl rfl ?_
      refine tl_iconst hX twd_law_281 ⟨by decide, by decide⟩ ?_
      refine tl_iadd hX twd_law_282 ⟨by omega, by omega⟩ ?_
      refine tl_sld hX twd_law_283 ⟨by omega, by omega⟩ ?_
      obtain ⟨fs, hq⟩ := hq2 _ _ hM
      refine tl_call2 (As := [tl_ys Z (Int.toNat (z + 1))]) (S := [.inl (an_match sg (tl_ys Z (Int.toNat (z + 1))))]) (n := 1) hX twd_law_284 tww_808 tww_805 tww_806 tww_807 tww_86 twk_mo_match rfl hq ⟨by decide, by decide⟩ rfl (Nat.le_of_ble_eq_true rfl) (H2_match _ sg _ (tl_ys Z (Int.toNat (z + 1))) hM (hys _) (fun mem2' hM => ?_))
      clear hq fs
      change tl_ln Z 287 [some (.inr 0), some (.inr 1), some (.inr 2), some (.inl z)] [.inl (an_match sg (tl_ys Z (Int.toNat (z + 1)))), .inl (an_match sg (tl_ys Z (Int.toNat (z + 1))))] mem1' mem2'
      refine tl_icmp_same hX twd_law_287 (tgt := 522) rfl ?_
      exact hnext (nx_match sg (tl_ys Z (Int.toNat (z + 1)))) _ _ hC hM
    · refine tl_table (tgt := 292) hX twd_law_32 ⟨by decide, by decide⟩ rfl rfl ?_
      refine tl_aload_n hX twd_law_292 rfl rfl ?_
      refine tl_aload_n hX twd_law_293 rfl rfl ?_
      refine tl_iload_n hX twd_law_294 rfl rfl ?_
      refine tl_iconst hX twd_law_295 ⟨by decide, by decide⟩ ?_
      refine tl_iadd hX twd_law_296 ⟨by omega, by omega⟩ ?_
      refine tl_sld hX twd_law_297 ⟨by omega, by omega⟩ ?_
      obtain ⟨fs, hq⟩ := hq1 _ _ hC
      refine tl_call1 (As := [tl_ys Z (Int.toNat (z + 1))]) (S := []) (n := 1) hX twd_law_298 tww_640 tww_637 tww_638 tww_639 tww_77 twk_tl_partner rfl hq ⟨by decide, by decide⟩ rfl (Nat.le_of_ble_eq_true rfl) (H1_partner _ sg _ (tl_ys Z (Int.toNat (z + 1))) hC (hys _) (fun mem1' hC => ?_))
      clear hq fs
      change tl_ln Z 301 [some (.inr 0), some (.inr 1), some (.inr 2), some (.inl z)] [.inl (an_partner sg (tl_ys Z (Int.toNat (z + 1))))] mem1' mem2
      refine tl_aload_n hX twd_law_301 rfl rfl ?_
      refine tl_aload_n hX twd_law_302 rfl rfl ?_
      refine tl_iload_n hX twd_law_303 rfl rfl ?_
      refine tl_iconst hX twd_law_304 ⟨by decide, by decide⟩ ?_
      refine tl_iadd hX twd_law_305 ⟨by omega, by omega⟩ ?_
      refine tl_sld hX twd_law_306 ⟨by omega, by omega⟩ ?_
      obtain ⟨fs, hq⟩ := hq2 _ _ hM
      refine tl_call2 (As := [tl_ys Z (Int.toNat (z + 1))]) (S := [.inl (an_partner sg (tl_ys Z (Int.toNat (z + 1))))]) (n := 1) hX twd_law_307 tww_962 tww_959 tww_960 tww_961 tww_86 twk_mo_partner rfl hq ⟨by decide, by decide⟩ rfl (Nat.le_of_ble_eq_true rfl) (H2_partner _ sg _ (tl_ys Z (Int.toNat (z + 1))) hM (hys _) (fun mem2' hM => ?_))
      clear hq fs
      change tl_ln Z 310 [some (.inr 0), some (.inr 1), some (.inr 2), some (.inl z)] [.inl (an_partner sg (tl_ys Z (Int.toNat (z + 1)))), .inl (an_partner sg (tl_ys Z (Int.toNat (z + 1))))] mem1' mem2'
      refine tl_icmp_same hX twd_law_310 (tgt := 522) rfl ?_
      exact hnext (nx_partner sg (tl_ys Z (Int.toNat (z + 1)))) _ _ hC hM
    · refine tl_table (tgt := 315) hX twd_law_32 ⟨by decide, by decide⟩ rfl rfl ?_
      refine tl_aload_n hX twd_law_315 rfl rfl ?_
      refine tl_aload_n hX twd_law_316 rfl rfl ?_
      refine tl_iload_n hX twd_law_317 rfl rfl ?_
      refine tl_iconst hX twd_law_318 ⟨by decide, by decide⟩ ?_
      refine tl_iadd hX twd_law_319 ⟨by omega, by omega⟩ ?_
      refine tl_sld hX twd_law_320 ⟨by omega, by omega⟩ ?_
      obtain ⟨fs, hq⟩ := hq1 _ _ hC
      refine tl_call1 (As := [tl_ys Z (Int.toNat (z + 1))]) (S := []) (n := 1) hX twd_law_321 tww_644 tww_641 tww_642 tww_643 tww_77 twk_tl_type rfl hq ⟨by decide, by decide⟩ rfl (Nat.le_of_ble_eq_true rfl) (H1_type _ sg _ (tl_ys Z (Int.toNat (z + 1))) hC (hys _) (fun mem1' hC => ?_))
      clear hq fs
      change tl_ln Z 324 [some (.inr 0), some (.inr 1), some (.inr 2), some (.inl z)] [.inl (an_type sg (tl_ys Z (Int.toNat (z + 1))))] mem1' mem2
      refine tl_aload_n hX twd_law_324 rfl rfl ?_
      refine tl_aload_n hX twd_law_325 rfl rfl ?_
      refine tl_iload_n hX twd_law_326 rfl rfl ?_
      refine tl_iconst hX twd_law_327 ⟨by decide, by decide⟩ ?_
      refine tl_iadd hX twd_law_328 ⟨by omega, by omega⟩ ?_
      refine tl_sld hX twd_law_329 ⟨by omega, by omega⟩ ?_
      obtain ⟨fs, hq⟩ := hq2 _ _ hM
      refine tl_call2 (As := [tl_ys Z (Int.toNat (z + 1))]) (S := [.inl (an_type sg (tl_ys Z (Int.toNat (z + 1))))]) (n := 1) hX twd_law_330 tww_970 tww_967 tww_968 tww_969 tww_86 twk_mo_type rfl hq ⟨by decide, by decide⟩ rfl (Nat.le_of_ble_eq_true rfl) (H2_type _ sg _ (tl_ys Z (Int.toNat (z + 1))) hM (hys _) (fun mem2' hM => ?_))
      clear hq fs
      change tl_ln Z 333 [some (.inr 0), some (.inr 1), some (.inr 2), some (.inl z)] [.inl (an_type sg (tl_ys Z (Int.toNat (z + 1)))), .inl (an_type sg (tl_ys Z (Int.toNat (z + 1))))] mem1' mem2'
      refine tl_icmp_same hX twd_law_333 (tgt := 522) rfl ?_
      exact hnext (nx_type sg (tl_ys Z (Int.toNat (z + 1)))) _ _ hC hM
    · refine tl_table (tgt := 338) hX twd_law_32 ⟨by decide, by decide⟩ rfl rfl ?_
      refine tl_aload_n hX twd_law_338 rfl rfl ?_
      refine tl_aload_n hX twd_law_339 rfl rfl ?_
      refine tl_iload_n hX twd_law_340 rfl rfl ?_
      refine tl_iconst hX twd_law_341 ⟨by decide, by decide⟩ ?_
      refine tl_iadd hX twd_law_342 ⟨by omega, by omega⟩ ?_
      refine tl_sld hX twd_law_343 ⟨by omega, by omega⟩ ?_
      obtain ⟨fs, hq⟩ := hq1 _ _ hC
      refine tl_call1 (As := [tl_ys Z (Int.toNat (z + 1))]) (S := []) (n := 1) hX twd_law_344 tww_648 tww_645 tww_646 tww_647 tww_77 twk_tl_level rfl hq ⟨by decide, by decide⟩ rfl (Nat.le_of_ble_eq_true rfl) (H1_level _ sg _ (tl_ys Z (Int.toNat (z + 1))) hC (hys _) (fun mem1' hC => ?_))
      clear hq fs
      change tl_ln Z 347 [some (.inr 0), some (.inr 1), some (.inr 2), some (.inl z)] [.inl (an_level sg (tl_ys Z (Int.toNat (z + 1))))] mem1' mem2
      refine tl_aload_n hX twd_law_347 rfl rfl ?_
      refine tl_aload_n hX twd_law_348 rfl rfl ?_
      refine tl_iload_n hX twd_law_349 rfl rfl ?_
      refine tl_iconst hX twd_law_350 ⟨by decide, by decide⟩ ?_
      refine tl_iadd hX twd_law_351 ⟨by omega, by omega⟩ ?_
      refine tl_sld hX twd_law_352 ⟨by omega, by omega⟩ ?_
      obtain ⟨fs, hq⟩ := hq2 _ _ hM
      refine tl_call2 (As := [tl_ys Z (Int.toNat (z + 1))]) (S := [.inl (an_level sg (tl_ys Z (Int.toNat (z + 1))))]) (n := 1) hX twd_law_353 tww_974 tww_971 tww_972 tww_973 tww_86 twk_mo_level rfl hq ⟨by decide, by decide⟩ rfl (Nat.le_of_ble_eq_true rfl) (H2_level _ sg _ (tl_ys Z (Int.toNat (z + 1))) hM (hys _) (fun mem2' hM => ?_))
      clear hq fs
      change tl_ln Z 356 [some (.inr 0), some (.inr 1), some (.inr 2), some (.inl z)] [.inl (an_level sg (tl_ys Z (Int.toNat (z + 1)))), .inl (an_level sg (tl_ys Z (Int.toNat (z + 1))))] mem1' mem2'
      refine tl_icmp_same hX twd_law_356 (tgt := 522) rfl ?_
      exact hnext (nx_level sg (tl_ys Z (Int.toNat (z + 1)))) _ _ hC hM
    · refine tl_table (tgt := 361) hX twd_law_32 ⟨by decide, by decide⟩ rfl rfl ?_
      refine tl_aload_n hX twd_law_361 rfl rfl ?_
      refine tl_aload_n hX twd_law_362 rfl rfl ?_
      refine tl_iload_n hX twd_law_363 rfl rfl ?_
      refine tl_iconst hX twd_law_364 ⟨by decide, by decide⟩ ?_
      refine tl_iadd hX twd_law_365 ⟨by omega, by omega⟩ ?_
      refine tl_sld hX twd_law_366 ⟨by omega, by omega⟩ ?_
      obtain ⟨fs, hq⟩ := hq1 _ _ hC
      refine tl_call1 (As := [tl_ys Z (Int.toNat (z + 1))]) (S := []) (n := 1) hX twd_law_367 tww_652 tww_649 tww_650 tww_651 tww_77 twk_tl_mayBreak rfl hq ⟨by decide, by decide⟩ rfl (Nat.le_of_ble_eq_true rfl) (H1_mayBreak _ sg _ (tl_ys Z (Int.toNat (z + 1))) hC (hys _) (fun mem1' hC => ?_))
      clear hq fs
      change tl_ln Z 370 [some (.inr 0), some (.inr 1), some (.inr 2), some (.inl z)] [.inl (an_mayBreak sg (tl_ys Z (Int.toNat (z + 1))))] mem1' mem2
      refine tl_aload_n hX twd_law_370 rfl rfl ?_
      refine tl_aload_n hX twd_law_371 rfl rfl ?_
      refine tl_iload_n hX twd_law_372 rfl rfl ?_
      refine tl_iconst hX twd_law_373 ⟨by decide, by decide⟩ ?_
      refine tl_iadd hX twd_law_374 ⟨by omega, by omega⟩ ?_
      refine tl_sld hX twd_law_375 ⟨by omega, by omega⟩ ?_
      obtain ⟨fs, hq⟩ := hq2 _ _ hM
      refine tl_call2 (As := [tl_ys Z (Int.toNat (z + 1))]) (S := [.inl (an_mayBreak sg (tl_ys Z (Int.toNat (z + 1))))]) (n := 1) hX twd_law_376 tww_820 tww_817 tww_818 tww_819 tww_86 twk_mo_mayBreak rfl hq ⟨by decide, by decide⟩ rfl (Nat.le_of_ble_eq_true rfl) (H2_mayBreak _ sg _ (tl_ys Z (Int.toNat (z + 1))) hM (hys _) (fun mem2' hM => ?_))
      clear hq fs
      change tl_ln Z 379 [some (.inr 0), some (.inr 1), some (.inr 2), some (.inl z)] [.inl (an_mayBreak sg (tl_ys Z (Int.toNat (z + 1)))), .inl (an_mayBreak sg (tl_ys Z (Int.toNat (z + 1))))] mem1' mem2'
      refine tl_icmp_same hX twd_law_379 (tgt := 522) rfl ?_
      exact hnext (nx_mayBreak sg (tl_ys Z (Int.toNat (z + 1)))) _ _ hC hM
    · refine tl_table (tgt := 384) hX twd_law_32 ⟨by decide, by decide⟩ rfl rfl ?_
      refine tl_aload_n hX twd_law_384 rfl rfl ?_
      obtain ⟨fs, hq⟩ := hq1 _ _ hC
      refine tl_call1 (As := []) (S := []) (n := 0) hX twd_law_385 tww_656 tww_653 tww_654 tww_655 tww_77 twk_tl_lines rfl hq ⟨by decide, by decide⟩ rfl (Nat.le_of_ble_eq_true rfl) (H1_lines _ sg _ hC (fun mem1' hC => ?_))
      clear hq fs
      change tl_ln Z 388 [some (.inr 0), some (.inr 1), some (.inr 2), some (.inl z)] [.inl (an_lines sg)] mem1' mem2
      refine tl_aload_n hX twd_law_388 rfl rfl ?_
      obtain ⟨fs, hq⟩ := hq2 _ _ hM
      refine tl_call2 (As := []) (S := [.inl (an_lines sg)]) (n := 0) hX twd_law_389 tww_978 tww_975 tww_976 tww_977 tww_86 twk_mo_lines rfl hq ⟨by decide, by decide⟩ rfl (Nat.le_of_ble_eq_true rfl) (H2_lines _ sg _ hM (fun mem2' hM => ?_))
      clear hq fs
      change tl_ln Z 392 [some (.inr 0), some (.inr 1), some (.inr 2), some (.inl z)] [.inl (an_lines sg), .inl (an_lines sg)] mem1' mem2'
      refine tl_icmp_same hX twd_law_392 (tgt := 522) rfl ?_
      exact hnext (nx_lines sg) _ _ hC hM
    · refine tl_table (tgt := 397) hX twd_law_32 ⟨by decide, by decide⟩ rfl rfl ?_
      refine tl_aload_n hX twd_law_397 rfl rfl ?_
      refine tl_aload_n hX twd_law_398 rfl rfl ?_
      refine tl_iload_n hX twd_law_399 rfl rfl ?_
      refine tl_iconst hX twd_law_400 ⟨by decide, by decide⟩ ?_
      refine tl_iadd hX twd_law_401 ⟨by omega, by omega⟩ ?_
      refine tl_sld hX twd_law_402 ⟨by omega, by omega⟩ ?_
      obtain ⟨fs, hq⟩ := hq1 _ _ hC
      refine tl_call1 (As := [tl_ys Z (Int.toNat (z + 1))]) (S := []) (n := 1) hX twd_law_403 tww_660 tww_657 tww_658 tww_659 tww_77 twk_tl_start rfl hq ⟨by decide, by decide⟩ rfl (Nat.le_of_ble_eq_true rfl) (H1_start _ sg _ (tl_ys Z (Int.toNat (z + 1))) hC (hys _) (fun mem1' hC => ?_))
      clear hq fs
      change tl_ln Z 406 [some (.inr 0), some (.inr 1), some (.inr 2), some (.inl z)] [.inl (an_start sg (tl_ys Z (Int.toNat (z + 1))))] mem1' mem2
      refine tl_aload_n hX twd_law_406 rfl rfl ?_
      refine tl_aload_n hX twd_law_407 rfl rfl ?_
      refine tl_iload_n hX twd_law_408 rfl rfl ?_
      refine tl_iconst hX twd_law_409 ⟨by decide, by decide⟩ ?_
      refine tl_iadd hX twd_law_410 ⟨by omega, by omega⟩ ?_
      refine tl_sld hX twd_law_411 ⟨by omega, by omega⟩ ?_
      obtain ⟨fs, hq⟩ := hq2 _ _ hM
      refine tl_call2 (As := [tl_ys Z (Int.toNat (z + 1))]) (S := [.inl (an_start sg (tl_ys Z (Int.toNat (z + 1))))]) (n := 1) hX twd_law_412 tww_982 tww_979 tww_980 tww_981 tww_86 twk_mo_start rfl hq ⟨by decide, by decide⟩ rfl (Nat.le_of_ble_eq_true rfl) (H2_start _ sg _ (tl_ys Z (Int.toNat (z + 1))) hM (hys _) (fun mem2' hM => ?_))
      clear hq fs
      change tl_ln Z 415 [some (.inr 0), some (.inr 1), some (.inr 2), some (.inl z)] [.inl (an_start sg (tl_ys Z (Int.toNat (z + 1)))), .inl (an_start sg (tl_ys Z (Int.toNat (z + 1))))] mem1' mem2'
      refine tl_icmp_same hX twd_law_415 (tgt := 522) rfl ?_
      exact hnext (nx_start sg (tl_ys Z (Int.toNat (z + 1)))) _ _ hC hM
    · refine tl_table (tgt := 420) hX twd_law_32 ⟨by decide, by decide⟩ rfl rfl ?_
      refine tl_aload_n hX twd_law_420 rfl rfl ?_
      refine tl_aload_n hX twd_law_421 rfl rfl ?_
      refine tl_iload_n hX twd_law_422 rfl rfl ?_
      refine tl_iconst hX twd_law_423 ⟨by decide, by decide⟩ ?_
      refine tl_iadd hX twd_law_424 ⟨by omega, by omega⟩ ?_
      refine tl_sld hX twd_law_425 ⟨by omega, by omega⟩ ?_
      obtain ⟨fs, hq⟩ := hq1 _ _ hC
      refine tl_call1 (As := [tl_ys Z (Int.toNat (z + 1))]) (S := []) (n := 1) hX twd_law_426 tww_664 tww_661 tww_662 tww_663 tww_77 twk_tl_extent rfl hq ⟨by decide, by decide⟩ rfl (Nat.le_of_ble_eq_true rfl) (H1_extent _ sg _ (tl_ys Z (Int.toNat (z + 1))) hC (hys _) (fun mem1' hC => ?_))
      clear hq fs
      change tl_ln Z 429 [some (.inr 0), some (.inr 1), some (.inr 2), some (.inl z)] [.inl (an_extent sg (tl_ys Z (Int.toNat (z + 1))))] mem1' mem2
      refine tl_aload_n hX twd_law_429 rfl rfl ?_
      refine tl_aload_n hX twd_law_430 rfl rfl ?_
      refine tl_iload_n hX twd_law_431 rfl rfl ?_
      refine tl_iconst hX twd_law_432 ⟨by decide, by decide⟩ ?_
      refine tl_iadd hX twd_law_433 ⟨by omega, by omega⟩ ?_
      refine tl_sld hX twd_law_434 ⟨by omega, by omega⟩ ?_
      obtain ⟨fs, hq⟩ := hq2 _ _ hM
      refine tl_call2 (As := [tl_ys Z (Int.toNat (z + 1))]) (S := [.inl (an_extent sg (tl_ys Z (Int.toNat (z + 1))))]) (n := 1) hX twd_law_435 tww_986 tww_983 tww_984 tww_985 tww_86 twk_mo_extent rfl hq ⟨by decide, by decide⟩ rfl (Nat.le_of_ble_eq_true rfl) (H2_extent _ sg _ (tl_ys Z (Int.toNat (z + 1))) hM (hys _) (fun mem2' hM => ?_))
      clear hq fs
      change tl_ln Z 438 [some (.inr 0), some (.inr 1), some (.inr 2), some (.inl z)] [.inl (an_extent sg (tl_ys Z (Int.toNat (z + 1)))), .inl (an_extent sg (tl_ys Z (Int.toNat (z + 1))))] mem1' mem2'
      refine tl_icmp_same hX twd_law_438 (tgt := 522) rfl ?_
      exact hnext (nx_extent sg (tl_ys Z (Int.toNat (z + 1)))) _ _ hC hM
    · refine tl_table (tgt := 443) hX twd_law_32 ⟨by decide, by decide⟩ rfl rfl ?_
      refine tl_aload_n hX twd_law_443 rfl rfl ?_
      refine tl_aload_n hX twd_law_444 rfl rfl ?_
      refine tl_iload_n hX twd_law_445 rfl rfl ?_
      refine tl_iconst hX twd_law_446 ⟨by decide, by decide⟩ ?_
      refine tl_iadd hX twd_law_447 ⟨by omega, by omega⟩ ?_
      refine tl_sld hX twd_law_448 ⟨by omega, by omega⟩ ?_
      obtain ⟨fs, hq⟩ := hq1 _ _ hC
      refine tl_call1 (As := [tl_ys Z (Int.toNat (z + 1))]) (S := []) (n := 1) hX twd_law_449 tww_672 tww_669 tww_670 tww_671 tww_77 twk_tl_shownLevel rfl hq ⟨by decide, by decide⟩ rfl (Nat.le_of_ble_eq_true rfl) (H1_shownLevel _ sg _ (tl_ys Z (Int.toNat (z + 1))) hC (hys _) (fun mem1' hC => ?_))
      clear hq fs
      change tl_ln Z 452 [some (.inr 0), some (.inr 1), some (.inr 2), some (.inl z)] [.inl (an_shownLevel sg (tl_ys Z (Int.toNat (z + 1))))] mem1' mem2
      refine tl_aload_n hX twd_law_452 rfl rfl ?_
      refine tl_aload_n hX twd_law_453 rfl rfl ?_
      refine tl_iload_n hX twd_law_454 rfl rfl ?_
      refine tl_iconst hX twd_law_455 ⟨by decide, by decide⟩ ?_
      refine tl_iadd hX twd_law_456 ⟨by omega, by omega⟩ ?_
      refine tl_sld hX twd_law_457 ⟨by omega, by omega⟩ ?_
      obtain ⟨fs, hq⟩ := hq2 _ _ hM
      refine tl_call2 (As := [tl_ys Z (Int.toNat (z + 1))]) (S := [.inl (an_shownLevel sg (tl_ys Z (Int.toNat (z + 1))))]) (n := 1) hX twd_law_458 tww_990 tww_987 tww_988 tww_989 tww_86 twk_mo_shownLevel rfl hq ⟨by decide, by decide⟩ rfl (Nat.le_of_ble_eq_true rfl) (H2_shownLevel _ sg _ (tl_ys Z (Int.toNat (z + 1))) hM (hys _) (fun mem2' hM => ?_))
      clear hq fs
      change tl_ln Z 461 [some (.inr 0), some (.inr 1), some (.inr 2), some (.inl z)] [.inl (an_shownLevel sg (tl_ys Z (Int.toNat (z + 1)))), .inl (an_shownLevel sg (tl_ys Z (Int.toNat (z + 1))))] mem1' mem2'
      refine tl_icmp_same hX twd_law_461 (tgt := 522) rfl ?_
      exact hnext (nx_shownLevel sg (tl_ys Z (Int.toNat (z + 1)))) _ _ hC hM
    · refine tl_table (tgt := 466) hX twd_law_32 ⟨by decide, by decide⟩ rfl rfl ?_
      refine tl_aload_n hX twd_law_466 rfl rfl ?_
      refine tl_aload_n hX twd_law_467 rfl rfl ?_
      refine tl_iload_n hX twd_law_468 rfl rfl ?_
      refine tl_iconst hX twd_law_469 ⟨by decide, by decide⟩ ?_
      refine tl_iadd hX twd_law_470 ⟨by omega, by omega⟩ ?_
      refine tl_sld hX twd_law_471 ⟨by omega, by omega⟩ ?_
      refine tl_aload_n hX twd_law_472 rfl rfl ?_
      refine tl_iload_n hX twd_law_473 rfl rfl ?_
      refine tl_iconst hX twd_law_474 ⟨by decide, by decide⟩ ?_
      refine tl_iadd hX twd_law_475 ⟨by omega, by omega⟩ ?_
      refine tl_sld hX twd_law_476 ⟨by omega, by omega⟩ ?_
      obtain ⟨fs, hq⟩ := hq1 _ _ hC
      refine tl_call1 (As := [tl_ys Z (Int.toNat (z + 1)), tl_ys Z (Int.toNat (z + 2))]) (S := []) (n := 2) hX twd_law_477 tww_676 tww_673 tww_674 tww_675 tww_77 twk_tl_shown rfl hq ⟨by decide, by decide⟩ rfl (Nat.le_of_ble_eq_true rfl) (H1_shown _ sg _ (tl_ys Z (Int.toNat (z + 1))) (tl_ys Z (Int.toNat (z + 2))) hC (hys _) (hys _) (fun mem1' hC => ?_))
      clear hq fs
      change tl_ln Z 480 [some (.inr 0), some (.inr 1), some (.inr 2), some (.inl z)] [.inl (an_shown sg (tl_ys Z (Int.toNat (z + 1))) (tl_ys Z (Int.toNat (z + 2))))] mem1' mem2
      refine tl_aload_n hX twd_law_480 rfl rfl ?_
      refine tl_aload_n hX twd_law_481 rfl rfl ?_
      refine tl_iload_n hX twd_law_482 rfl rfl ?_
      refine tl_iconst hX twd_law_483 ⟨by decide, by decide⟩ ?_
      refine tl_iadd hX twd_law_484 ⟨by omega, by omega⟩ ?_
      refine tl_sld hX twd_law_485 ⟨by omega, by omega⟩ ?_
      refine tl_aload_n hX twd_law_486 rfl rfl ?_
      refine tl_iload_n hX twd_law_487 rfl rfl ?_
      refine tl_iconst hX twd_law_488 ⟨by decide, by decide⟩ ?_
      refine tl_iadd hX twd_law_489 ⟨by omega, by omega⟩ ?_
      refine tl_sld hX twd_law_490 ⟨by omega, by omega⟩ ?_
      obtain ⟨fs, hq⟩ := hq2 _ _ hM
      refine tl_call2 (As := [tl_ys Z (Int.toNat (z + 1)), tl_ys Z (Int.toNat (z + 2))]) (S := [.inl (an_shown sg (tl_ys Z (Int.toNat (z + 1))) (tl_ys Z (Int.toNat (z + 2))))]) (n := 2) hX twd_law_491 tww_994 tww_991 tww_992 tww_993 tww_86 twk_mo_shown rfl hq ⟨by decide, by decide⟩ rfl (Nat.le_of_ble_eq_true rfl) (H2_shown _ sg _ (tl_ys Z (Int.toNat (z + 1))) (tl_ys Z (Int.toNat (z + 2))) hM (hys _) (hys _) (fun mem2' hM => ?_))
      clear hq fs
      change tl_ln Z 494 [some (.inr 0), some (.inr 1), some (.inr 2), some (.inl z)] [.inl (an_shown sg (tl_ys Z (Int.toNat (z + 1))) (tl_ys Z (Int.toNat (z + 2)))), .inl (an_shown sg (tl_ys Z (Int.toNat (z + 1))) (tl_ys Z (Int.toNat (z + 2))))] mem1' mem2'
      refine tl_icmp_same hX twd_law_494 (tgt := 522) rfl ?_
      exact hnext (nx_shown sg (tl_ys Z (Int.toNat (z + 1))) (tl_ys Z (Int.toNat (z + 2)))) _ _ hC hM
    · refine tl_table (tgt := 499) hX twd_law_32 ⟨by decide, by decide⟩ rfl rfl ?_
      refine tl_aload_n hX twd_law_499 rfl rfl ?_
      refine tl_aload_n hX twd_law_500 rfl rfl ?_
      refine tl_iload_n hX twd_law_501 rfl rfl ?_
      refine tl_iconst hX twd_law_502 ⟨by decide, by decide⟩ ?_
      refine tl_iadd hX twd_law_503 ⟨by omega, by omega⟩ ?_
      refine tl_sld hX twd_law_504 ⟨by omega, by omega⟩ ?_
      obtain ⟨fs, hq⟩ := hq1 _ _ hC
      refine tl_call1 (As := [tl_ys Z (Int.toNat (z + 1))]) (S := []) (n := 1) hX twd_law_505 tww_680 tww_677 tww_678 tww_679 tww_77 twk_tl_mirrored rfl hq ⟨by decide, by decide⟩ rfl (Nat.le_of_ble_eq_true rfl) (H1_mirrored _ sg _ (tl_ys Z (Int.toNat (z + 1))) hC (hys _) (fun mem1' hC => ?_))
      clear hq fs
      change tl_ln Z 508 [some (.inr 0), some (.inr 1), some (.inr 2), some (.inl z)] [.inl (an_mirrored sg (tl_ys Z (Int.toNat (z + 1))))] mem1' mem2
      refine tl_aload_n hX twd_law_508 rfl rfl ?_
      refine tl_aload_n hX twd_law_509 rfl rfl ?_
      refine tl_iload_n hX twd_law_510 rfl rfl ?_
      refine tl_iconst hX twd_law_511 ⟨by decide, by decide⟩ ?_
      refine tl_iadd hX twd_law_512 ⟨by omega, by omega⟩ ?_
      refine tl_sld hX twd_law_513 ⟨by omega, by omega⟩ ?_
      obtain ⟨fs, hq⟩ := hq2 _ _ hM
      refine tl_call2 (As := [tl_ys Z (Int.toNat (z + 1))]) (S := [.inl (an_mirrored sg (tl_ys Z (Int.toNat (z + 1))))]) (n := 1) hX twd_law_514 tww_998 tww_995 tww_996 tww_997 tww_86 twk_mo_mirrored rfl hq ⟨by decide, by decide⟩ rfl (Nat.le_of_ble_eq_true rfl) (H2_mirrored _ sg _ (tl_ys Z (Int.toNat (z + 1))) hM (hys _) (fun mem2' hM => ?_))
      clear hq fs
      change tl_ln Z 517 [some (.inr 0), some (.inr 1), some (.inr 2), some (.inl z)] [.inl (an_mirrored sg (tl_ys Z (Int.toNat (z + 1)))), .inl (an_mirrored sg (tl_ys Z (Int.toNat (z + 1))))] mem1' mem2'
      refine tl_icmp_same hX twd_law_517 (tgt := 522) rfl ?_
      exact hnext (nx_mirrored sg (tl_ys Z (Int.toNat (z + 1)))) _ _ hC hM
    · refine tl_tableOut (tgt := 522) hX twd_law_32 hbig rfl ?_
      exact hnext sg mem1 mem2 hC hM
