section
-- ===== PART A: goes FIRST, ahead of the names: the tables' words, and 'selects' of the private methods out of them =====
/-- a private method of a class that the tables say can be made, by its rows of tables_1 -/
def lw_okq (q : MethodName × Nat) : Prop := (q.1.cls ≠ "java/lang/invoke/MethodHandle" ∧ q.1.cls ≠ "java/lang/invoke/VarHandle") ∧ Cond.instantiable q.1.cls q.2 ∈ tables_1 ∧ Cond.privateMethod q.1 ∈ tables_1 ∧ Cond.instanceMethod q.1 ∈ tables_1
theorem lw_p0 : lw_okq (⟨"TwoWayLines", "layOut", "()V"⟩, 6) := ⟨⟨by decide +kernel, by decide +kernel⟩, List.mem_of_getElem? (i := 13) (by decide +kernel), List.mem_of_getElem? (i := 305) (by decide +kernel), List.mem_of_getElem? (i := 306) (by decide +kernel)⟩
theorem lw_p1 : lw_okq (⟨"TwoWayLines$Explicit", "begin", "(I)V"⟩, 9) := ⟨⟨by decide +kernel, by decide +kernel⟩, List.mem_of_getElem? (i := 85) (by decide +kernel), List.mem_of_getElem? (i := 328) (by decide +kernel), List.mem_of_getElem? (i := 329) (by decide +kernel)⟩
theorem lw_p2 : lw_okq (⟨"TwoWayLines$Explicit", "endIsolate", "()V"⟩, 9) := ⟨⟨by decide +kernel, by decide +kernel⟩, List.mem_of_getElem? (i := 85) (by decide +kernel), List.mem_of_getElem? (i := 332) (by decide +kernel), List.mem_of_getElem? (i := 333) (by decide +kernel)⟩
theorem lw_p3 : lw_okq (⟨"TwoWayLines$Explicit", "endEmbedding", "()V"⟩, 9) := ⟨⟨by decide +kernel, by decide +kernel⟩, List.mem_of_getElem? (i := 85) (by decide +kernel), List.mem_of_getElem? (i := 336) (by decide +kernel), List.mem_of_getElem? (i := 337) (by decide +kernel)⟩
theorem lw_p4 : lw_okq (⟨"TwoWayLines$Explicit", "beginEmbedding", "(I)V"⟩, 9) := ⟨⟨by decide +kernel, by decide +kernel⟩, List.mem_of_getElem? (i := 85) (by decide +kernel), List.mem_of_getElem? (i := 343) (by decide +kernel), List.mem_of_getElem? (i := 344) (by decide +kernel)⟩
theorem lw_p5 : lw_okq (⟨"TwoWayLines$Explicit", "nextLevel", "(Z)I"⟩, 9) := ⟨⟨by decide +kernel, by decide +kernel⟩, List.mem_of_getElem? (i := 85) (by decide +kernel), List.mem_of_getElem? (i := 347) (by decide +kernel), List.mem_of_getElem? (i := 348) (by decide +kernel)⟩
theorem lw_p6 : lw_okq (⟨"TwoWayLines$Explicit", "fits", "(I)Z"⟩, 9) := ⟨⟨by decide +kernel, by decide +kernel⟩, List.mem_of_getElem? (i := 85) (by decide +kernel), List.mem_of_getElem? (i := 354) (by decide +kernel), List.mem_of_getElem? (i := 355) (by decide +kernel)⟩
theorem lw_p7 : lw_okq (⟨"TwoWayLines$Explicit", "push", "(IIZ)V"⟩, 9) := ⟨⟨by decide +kernel, by decide +kernel⟩, List.mem_of_getElem? (i := 85) (by decide +kernel), List.mem_of_getElem? (i := 361) (by decide +kernel), List.mem_of_getElem? (i := 362) (by decide +kernel)⟩
theorem lw_p8 : lw_okq (⟨"TwoWayLines$Explicit", "give", "(II)V"⟩, 9) := ⟨⟨by decide +kernel, by decide +kernel⟩, List.mem_of_getElem? (i := 85) (by decide +kernel), List.mem_of_getElem? (i := 365) (by decide +kernel), List.mem_of_getElem? (i := 366) (by decide +kernel)⟩
theorem lw_p9 : lw_okq (⟨"TwoWayLines$Explicit", "wantsOdd", "(LTwoWayLines$Paragraph;LTwoWayLines$Matches;I)Z"⟩, 9) := ⟨⟨by decide +kernel, by decide +kernel⟩, List.mem_of_getElem? (i := 85) (by decide +kernel), List.mem_of_getElem? (i := 370) (by decide +kernel), List.mem_of_getElem? (i := 371) (by decide +kernel)⟩
theorem lw_p10 : lw_okq (⟨"TwoWayLines$Explicit", "beginIsolate", "(Z)V"⟩, 9) := ⟨⟨by decide +kernel, by decide +kernel⟩, List.mem_of_getElem? (i := 85) (by decide +kernel), List.mem_of_getElem? (i := 375) (by decide +kernel), List.mem_of_getElem? (i := 376) (by decide +kernel)⟩
theorem lw_p11 : lw_okq (⟨"TwoWayLines$Levels", "beginsSequence", "(LTwoWayLines$Paragraph;I)Z"⟩, 8) := ⟨⟨by decide +kernel, by decide +kernel⟩, List.mem_of_getElem? (i := 63) (by decide +kernel), List.mem_of_getElem? (i := 383) (by decide +kernel), List.mem_of_getElem? (i := 384) (by decide +kernel)⟩
theorem lw_p12 : lw_okq (⟨"TwoWayLines$Levels", "visibleBefore", "(LTwoWayLines$Paragraph;I)I"⟩, 8) := ⟨⟨by decide +kernel, by decide +kernel⟩, List.mem_of_getElem? (i := 63) (by decide +kernel), List.mem_of_getElem? (i := 388) (by decide +kernel), List.mem_of_getElem? (i := 389) (by decide +kernel)⟩
theorem lw_p13 : lw_okq (⟨"TwoWayLines$Levels", "gather", "(LTwoWayLines$Paragraph;I)V"⟩, 8) := ⟨⟨by decide +kernel, by decide +kernel⟩, List.mem_of_getElem? (i := 63) (by decide +kernel), List.mem_of_getElem? (i := 392) (by decide +kernel), List.mem_of_getElem? (i := 393) (by decide +kernel)⟩
theorem lw_p14 : lw_okq (⟨"TwoWayLines$Levels", "takeRun", "(LTwoWayLines$Paragraph;I)I"⟩, 8) := ⟨⟨by decide +kernel, by decide +kernel⟩, List.mem_of_getElem? (i := 63) (by decide +kernel), List.mem_of_getElem? (i := 396) (by decide +kernel), List.mem_of_getElem? (i := 397) (by decide +kernel)⟩
theorem lw_p15 : lw_okq (⟨"TwoWayLines$Levels", "setSides", "(LTwoWayLines$Paragraph;)V"⟩, 8) := ⟨⟨by decide +kernel, by decide +kernel⟩, List.mem_of_getElem? (i := 63) (by decide +kernel), List.mem_of_getElem? (i := 405) (by decide +kernel), List.mem_of_getElem? (i := 406) (by decide +kernel)⟩
def lw_privs_1 : List (MethodName × Nat) := [(⟨"TwoWayLines", "layOut", "()V"⟩, 6), (⟨"TwoWayLines$Explicit", "begin", "(I)V"⟩, 9), (⟨"TwoWayLines$Explicit", "endIsolate", "()V"⟩, 9), (⟨"TwoWayLines$Explicit", "endEmbedding", "()V"⟩, 9), (⟨"TwoWayLines$Explicit", "beginEmbedding", "(I)V"⟩, 9), (⟨"TwoWayLines$Explicit", "nextLevel", "(Z)I"⟩, 9), (⟨"TwoWayLines$Explicit", "fits", "(I)Z"⟩, 9), (⟨"TwoWayLines$Explicit", "push", "(IIZ)V"⟩, 9), (⟨"TwoWayLines$Explicit", "give", "(II)V"⟩, 9), (⟨"TwoWayLines$Explicit", "wantsOdd", "(LTwoWayLines$Paragraph;LTwoWayLines$Matches;I)Z"⟩, 9), (⟨"TwoWayLines$Explicit", "beginIsolate", "(Z)V"⟩, 9), (⟨"TwoWayLines$Levels", "beginsSequence", "(LTwoWayLines$Paragraph;I)Z"⟩, 8), (⟨"TwoWayLines$Levels", "visibleBefore", "(LTwoWayLines$Paragraph;I)I"⟩, 8), (⟨"TwoWayLines$Levels", "gather", "(LTwoWayLines$Paragraph;I)V"⟩, 8), (⟨"TwoWayLines$Levels", "takeRun", "(LTwoWayLines$Paragraph;I)I"⟩, 8), (⟨"TwoWayLines$Levels", "setSides", "(LTwoWayLines$Paragraph;)V"⟩, 8)]
theorem lw_r1 : ∀ q ∈ lw_privs_1, lw_okq q := List.forall_mem_cons.mpr ⟨lw_p0, List.forall_mem_cons.mpr ⟨lw_p1, List.forall_mem_cons.mpr ⟨lw_p2, List.forall_mem_cons.mpr ⟨lw_p3, List.forall_mem_cons.mpr ⟨lw_p4, List.forall_mem_cons.mpr ⟨lw_p5, List.forall_mem_cons.mpr ⟨lw_p6, List.forall_mem_cons.mpr ⟨lw_p7, List.forall_mem_cons.mpr ⟨lw_p8, List.forall_mem_cons.mpr ⟨lw_p9, List.forall_mem_cons.mpr ⟨lw_p10, List.forall_mem_cons.mpr ⟨lw_p11, List.forall_mem_cons.mpr ⟨lw_p12, List.forall_mem_cons.mpr ⟨lw_p13, List.forall_mem_cons.mpr ⟨lw_p14, List.forall_mem_cons.mpr ⟨lw_p15, fun _ h => absurd h List.not_mem_nil⟩⟩⟩⟩⟩⟩⟩⟩⟩⟩⟩⟩⟩⟩⟩⟩
theorem lw_p16 : lw_okq (⟨"TwoWayLines$Levels", "visibleBehind", "(LTwoWayLines$Paragraph;I)I"⟩, 8) := ⟨⟨by decide +kernel, by decide +kernel⟩, List.mem_of_getElem? (i := 63) (by decide +kernel), List.mem_of_getElem? (i := 409) (by decide +kernel), List.mem_of_getElem? (i := 410) (by decide +kernel)⟩
theorem lw_p17 : lw_okq (⟨"TwoWayLines$Levels", "levelBeside", "(I)I"⟩, 8) := ⟨⟨by decide +kernel, by decide +kernel⟩, List.mem_of_getElem? (i := 63) (by decide +kernel), List.mem_of_getElem? (i := 417) (by decide +kernel), List.mem_of_getElem? (i := 418) (by decide +kernel)⟩
theorem lw_p18 : lw_okq (⟨"TwoWayLines$Sequence", "joinMarks", "()V"⟩, 7) := ⟨⟨by decide +kernel, by decide +kernel⟩, List.mem_of_getElem? (i := 122) (by decide +kernel), List.mem_of_getElem? (i := 428) (by decide +kernel), List.mem_of_getElem? (i := 429) (by decide +kernel)⟩
theorem lw_p19 : lw_okq (⟨"TwoWayLines$Sequence", "turnArabicNumbers", "()V"⟩, 7) := ⟨⟨by decide +kernel, by decide +kernel⟩, List.mem_of_getElem? (i := 122) (by decide +kernel), List.mem_of_getElem? (i := 435) (by decide +kernel), List.mem_of_getElem? (i := 436) (by decide +kernel)⟩
theorem lw_p20 : lw_okq (⟨"TwoWayLines$Sequence", "turnSeparators", "()V"⟩, 7) := ⟨⟨by decide +kernel, by decide +kernel⟩, List.mem_of_getElem? (i := 122) (by decide +kernel), List.mem_of_getElem? (i := 439) (by decide +kernel), List.mem_of_getElem? (i := 440) (by decide +kernel)⟩
theorem lw_p21 : lw_okq (⟨"TwoWayLines$Sequence", "turnTerminators", "()V"⟩, 7) := ⟨⟨by decide +kernel, by decide +kernel⟩, List.mem_of_getElem? (i := 122) (by decide +kernel), List.mem_of_getElem? (i := 443) (by decide +kernel), List.mem_of_getElem? (i := 444) (by decide +kernel)⟩
theorem lw_p22 : lw_okq (⟨"TwoWayLines$Sequence", "freeLeftovers", "()V"⟩, 7) := ⟨⟨by decide +kernel, by decide +kernel⟩, List.mem_of_getElem? (i := 122) (by decide +kernel), List.mem_of_getElem? (i := 447) (by decide +kernel), List.mem_of_getElem? (i := 448) (by decide +kernel)⟩
theorem lw_p23 : lw_okq (⟨"TwoWayLines$Sequence", "turnLatinNumbers", "()V"⟩, 7) := ⟨⟨by decide +kernel, by decide +kernel⟩, List.mem_of_getElem? (i := 122) (by decide +kernel), List.mem_of_getElem? (i := 451) (by decide +kernel), List.mem_of_getElem? (i := 452) (by decide +kernel)⟩
theorem lw_p24 : lw_okq (⟨"TwoWayLines$Brackets", "pairUp", "(LTwoWayLines$Paragraph;LTwoWayLines$Sequence;)V"⟩, 2) := ⟨⟨by decide +kernel, by decide +kernel⟩, List.mem_of_getElem? (i := 162) (by decide +kernel), List.mem_of_getElem? (i := 459) (by decide +kernel), List.mem_of_getElem? (i := 460) (by decide +kernel)⟩
theorem lw_p25 : lw_okq (⟨"TwoWayLines$Brackets", "close", "(LTwoWayLines$Paragraph;LTwoWayLines$Sequence;II)I"⟩, 2) := ⟨⟨by decide +kernel, by decide +kernel⟩, List.mem_of_getElem? (i := 162) (by decide +kernel), List.mem_of_getElem? (i := 463) (by decide +kernel), List.mem_of_getElem? (i := 464) (by decide +kernel)⟩
theorem lw_p26 : lw_okq (⟨"TwoWayLines$Brackets", "settle", "(LTwoWayLines$Sequence;II)V"⟩, 2) := ⟨⟨by decide +kernel, by decide +kernel⟩, List.mem_of_getElem? (i := 162) (by decide +kernel), List.mem_of_getElem? (i := 467) (by decide +kernel), List.mem_of_getElem? (i := 468) (by decide +kernel)⟩
theorem lw_p27 : lw_okq (⟨"TwoWayLines$Brackets", "strongBetween", "(LTwoWayLines$Sequence;II)I"⟩, 2) := ⟨⟨by decide +kernel, by decide +kernel⟩, List.mem_of_getElem? (i := 162) (by decide +kernel), List.mem_of_getElem? (i := 471) (by decide +kernel), List.mem_of_getElem? (i := 472) (by decide +kernel)⟩
theorem lw_p28 : lw_okq (⟨"TwoWayLines$Brackets", "strongBefore", "(LTwoWayLines$Sequence;I)I"⟩, 2) := ⟨⟨by decide +kernel, by decide +kernel⟩, List.mem_of_getElem? (i := 162) (by decide +kernel), List.mem_of_getElem? (i := 479) (by decide +kernel), List.mem_of_getElem? (i := 480) (by decide +kernel)⟩
theorem lw_p29 : lw_okq (⟨"TwoWayLines$Brackets", "give", "(LTwoWayLines$Sequence;II)V"⟩, 2) := ⟨⟨by decide +kernel, by decide +kernel⟩, List.mem_of_getElem? (i := 162) (by decide +kernel), List.mem_of_getElem? (i := 483) (by decide +kernel), List.mem_of_getElem? (i := 484) (by decide +kernel)⟩
theorem lw_p30 : lw_okq (⟨"TwoWayLines$Sequence", "fillTypes", "(III)V"⟩, 7) := ⟨⟨by decide +kernel, by decide +kernel⟩, List.mem_of_getElem? (i := 122) (by decide +kernel), List.mem_of_getElem? (i := 492) (by decide +kernel), List.mem_of_getElem? (i := 493) (by decide +kernel)⟩
theorem lw_p31 : lw_okq (⟨"TwoWayLines$Levels", "keep", "()V"⟩, 8) := ⟨⟨by decide +kernel, by decide +kernel⟩, List.mem_of_getElem? (i := 63) (by decide +kernel), List.mem_of_getElem? (i := 496) (by decide +kernel), List.mem_of_getElem? (i := 497) (by decide +kernel)⟩
def lw_privs_2 : List (MethodName × Nat) := [(⟨"TwoWayLines$Levels", "visibleBehind", "(LTwoWayLines$Paragraph;I)I"⟩, 8), (⟨"TwoWayLines$Levels", "levelBeside", "(I)I"⟩, 8), (⟨"TwoWayLines$Sequence", "joinMarks", "()V"⟩, 7), (⟨"TwoWayLines$Sequence", "turnArabicNumbers", "()V"⟩, 7), (⟨"TwoWayLines$Sequence", "turnSeparators", "()V"⟩, 7), (⟨"TwoWayLines$Sequence", "turnTerminators", "()V"⟩, 7), (⟨"TwoWayLines$Sequence", "freeLeftovers", "()V"⟩, 7), (⟨"TwoWayLines$Sequence", "turnLatinNumbers", "()V"⟩, 7), (⟨"TwoWayLines$Brackets", "pairUp", "(LTwoWayLines$Paragraph;LTwoWayLines$Sequence;)V"⟩, 2), (⟨"TwoWayLines$Brackets", "close", "(LTwoWayLines$Paragraph;LTwoWayLines$Sequence;II)I"⟩, 2), (⟨"TwoWayLines$Brackets", "settle", "(LTwoWayLines$Sequence;II)V"⟩, 2), (⟨"TwoWayLines$Brackets", "strongBetween", "(LTwoWayLines$Sequence;II)I"⟩, 2), (⟨"TwoWayLines$Brackets", "strongBefore", "(LTwoWayLines$Sequence;I)I"⟩, 2), (⟨"TwoWayLines$Brackets", "give", "(LTwoWayLines$Sequence;II)V"⟩, 2), (⟨"TwoWayLines$Sequence", "fillTypes", "(III)V"⟩, 7), (⟨"TwoWayLines$Levels", "keep", "()V"⟩, 8)]
theorem lw_r2 : ∀ q ∈ lw_privs_2, lw_okq q := List.forall_mem_cons.mpr ⟨lw_p16, List.forall_mem_cons.mpr ⟨lw_p17, List.forall_mem_cons.mpr ⟨lw_p18, List.forall_mem_cons.mpr ⟨lw_p19, List.forall_mem_cons.mpr ⟨lw_p20, List.forall_mem_cons.mpr ⟨lw_p21, List.forall_mem_cons.mpr ⟨lw_p22, List.forall_mem_cons.mpr ⟨lw_p23, List.forall_mem_cons.mpr ⟨lw_p24, List.forall_mem_cons.mpr ⟨lw_p25, List.forall_mem_cons.mpr ⟨lw_p26, List.forall_mem_cons.mpr ⟨lw_p27, List.forall_mem_cons.mpr ⟨lw_p28, List.forall_mem_cons.mpr ⟨lw_p29, List.forall_mem_cons.mpr ⟨lw_p30, List.forall_mem_cons.mpr ⟨lw_p31, fun _ h => absurd h List.not_mem_nil⟩⟩⟩⟩⟩⟩⟩⟩⟩⟩⟩⟩⟩⟩⟩⟩
theorem lw_p32 : lw_okq (⟨"TwoWayLines$Filling", "findGroups", "(LTwoWayLines$Paragraph;)V"⟩, 5) := ⟨⟨by decide +kernel, by decide +kernel⟩, List.mem_of_getElem? (i := 208) (by decide +kernel), List.mem_of_getElem? (i := 512) (by decide +kernel), List.mem_of_getElem? (i := 513) (by decide +kernel)⟩
theorem lw_p33 : lw_okq (⟨"TwoWayLines$Filling", "findBreaks", "(LTwoWayLines$Paragraph;)V"⟩, 5) := ⟨⟨by decide +kernel, by decide +kernel⟩, List.mem_of_getElem? (i := 208) (by decide +kernel), List.mem_of_getElem? (i := 516) (by decide +kernel), List.mem_of_getElem? (i := 517) (by decide +kernel)⟩
theorem lw_p34 : lw_okq (⟨"TwoWayLines$Filling", "endOfLine", "(LTwoWayLines$Paragraph;II)I"⟩, 5) := ⟨⟨by decide +kernel, by decide +kernel⟩, List.mem_of_getElem? (i := 208) (by decide +kernel), List.mem_of_getElem? (i := 523) (by decide +kernel), List.mem_of_getElem? (i := 524) (by decide +kernel)⟩
theorem lw_p35 : lw_okq (⟨"TwoWayLines$Filling", "extentOf", "(LTwoWayLines$Paragraph;II)I"⟩, 5) := ⟨⟨by decide +kernel, by decide +kernel⟩, List.mem_of_getElem? (i := 208) (by decide +kernel), List.mem_of_getElem? (i := 527) (by decide +kernel), List.mem_of_getElem? (i := 528) (by decide +kernel)⟩
theorem lw_p36 : lw_okq (⟨"TwoWayLines$Showing", "setLevels", "(LTwoWayLines$Paragraph;LTwoWayLines$Levels;II)V"⟩, 2) := ⟨⟨by decide +kernel, by decide +kernel⟩, List.mem_of_getElem? (i := 236) (by decide +kernel), List.mem_of_getElem? (i := 535) (by decide +kernel), List.mem_of_getElem? (i := 536) (by decide +kernel)⟩
theorem lw_p37 : lw_okq (⟨"TwoWayLines$Showing", "setOrder", "(II)V"⟩, 2) := ⟨⟨by decide +kernel, by decide +kernel⟩, List.mem_of_getElem? (i := 236) (by decide +kernel), List.mem_of_getElem? (i := 541) (by decide +kernel), List.mem_of_getElem? (i := 542) (by decide +kernel)⟩
theorem lw_p38 : lw_okq (⟨"TwoWayLines$Showing", "turnRows", "(III)V"⟩, 2) := ⟨⟨by decide +kernel, by decide +kernel⟩, List.mem_of_getElem? (i := 236) (by decide +kernel), List.mem_of_getElem? (i := 546) (by decide +kernel), List.mem_of_getElem? (i := 547) (by decide +kernel)⟩
theorem lw_p39 : lw_okq (⟨"TwoWayLines$Showing", "turn", "(II)V"⟩, 2) := ⟨⟨by decide +kernel, by decide +kernel⟩, List.mem_of_getElem? (i := 236) (by decide +kernel), List.mem_of_getElem? (i := 550) (by decide +kernel), List.mem_of_getElem? (i := 551) (by decide +kernel)⟩
theorem lw_p40 : lw_okq (⟨"TwoWayLinesModel", "opener", "(I)Z"⟩, 31) := ⟨⟨by decide +kernel, by decide +kernel⟩, List.mem_of_getElem? (i := 606) (by decide +kernel), List.mem_of_getElem? (i := 734) (by decide +kernel), List.mem_of_getElem? (i := 735) (by decide +kernel)⟩
theorem lw_p41 : lw_okq (⟨"TwoWayLinesModel", "closing", "(I)I"⟩, 31) := ⟨⟨by decide +kernel, by decide +kernel⟩, List.mem_of_getElem? (i := 606) (by decide +kernel), List.mem_of_getElem? (i := 738) (by decide +kernel), List.mem_of_getElem? (i := 739) (by decide +kernel)⟩
theorem lw_p42 : lw_okq (⟨"TwoWayLinesModel", "groupOf", "(I)I"⟩, 31) := ⟨⟨by decide +kernel, by decide +kernel⟩, List.mem_of_getElem? (i := 606) (by decide +kernel), List.mem_of_getElem? (i := 746) (by decide +kernel), List.mem_of_getElem? (i := 747) (by decide +kernel)⟩
theorem lw_p43 : lw_okq (⟨"TwoWayLinesModel", "work", "()V"⟩, 31) := ⟨⟨by decide +kernel, by decide +kernel⟩, List.mem_of_getElem? (i := 606) (by decide +kernel), List.mem_of_getElem? (i := 754) (by decide +kernel), List.mem_of_getElem? (i := 755) (by decide +kernel)⟩
theorem lw_p44 : lw_okq (⟨"TwoWayLinesModel", "explicit", "()V"⟩, 31) := ⟨⟨by decide +kernel, by decide +kernel⟩, List.mem_of_getElem? (i := 606) (by decide +kernel), List.mem_of_getElem? (i := 758) (by decide +kernel), List.mem_of_getElem? (i := 759) (by decide +kernel)⟩
theorem lw_p45 : lw_okq (⟨"TwoWayLinesModel", "direction", "(II)I"⟩, 31) := ⟨⟨by decide +kernel, by decide +kernel⟩, List.mem_of_getElem? (i := 606) (by decide +kernel), List.mem_of_getElem? (i := 762) (by decide +kernel), List.mem_of_getElem? (i := 763) (by decide +kernel)⟩
theorem lw_p46 : lw_okq (⟨"TwoWayLinesModel", "put", "(IIZ)V"⟩, 31) := ⟨⟨by decide +kernel, by decide +kernel⟩, List.mem_of_getElem? (i := 606) (by decide +kernel), List.mem_of_getElem? (i := 766) (by decide +kernel), List.mem_of_getElem? (i := 767) (by decide +kernel)⟩
theorem lw_p47 : lw_okq (⟨"TwoWayLinesModel", "embed", "(I)V"⟩, 31) := ⟨⟨by decide +kernel, by decide +kernel⟩, List.mem_of_getElem? (i := 606) (by decide +kernel), List.mem_of_getElem? (i := 770) (by decide +kernel), List.mem_of_getElem? (i := 771) (by decide +kernel)⟩
def lw_privs_3 : List (MethodName × Nat) := [(⟨"TwoWayLines$Filling", "findGroups", "(LTwoWayLines$Paragraph;)V"⟩, 5), (⟨"TwoWayLines$Filling", "findBreaks", "(LTwoWayLines$Paragraph;)V"⟩, 5), (⟨"TwoWayLines$Filling", "endOfLine", "(LTwoWayLines$Paragraph;II)I"⟩, 5), (⟨"TwoWayLines$Filling", "extentOf", "(LTwoWayLines$Paragraph;II)I"⟩, 5), (⟨"TwoWayLines$Showing", "setLevels", "(LTwoWayLines$Paragraph;LTwoWayLines$Levels;II)V"⟩, 2), (⟨"TwoWayLines$Showing", "setOrder", "(II)V"⟩, 2), (⟨"TwoWayLines$Showing", "turnRows", "(III)V"⟩, 2), (⟨"TwoWayLines$Showing", "turn", "(II)V"⟩, 2), (⟨"TwoWayLinesModel", "opener", "(I)Z"⟩, 31), (⟨"TwoWayLinesModel", "closing", "(I)I"⟩, 31), (⟨"TwoWayLinesModel", "groupOf", "(I)I"⟩, 31), (⟨"TwoWayLinesModel", "work", "()V"⟩, 31), (⟨"TwoWayLinesModel", "explicit", "()V"⟩, 31), (⟨"TwoWayLinesModel", "direction", "(II)I"⟩, 31), (⟨"TwoWayLinesModel", "put", "(IIZ)V"⟩, 31), (⟨"TwoWayLinesModel", "embed", "(I)V"⟩, 31)]
theorem lw_r3 : ∀ q ∈ lw_privs_3, lw_okq q := List.forall_mem_cons.mpr ⟨lw_p32, List.forall_mem_cons.mpr ⟨lw_p33, List.forall_mem_cons.mpr ⟨lw_p34, List.forall_mem_cons.mpr ⟨lw_p35, List.forall_mem_cons.mpr ⟨lw_p36, List.forall_mem_cons.mpr ⟨lw_p37, List.forall_mem_cons.mpr ⟨lw_p38, List.forall_mem_cons.mpr ⟨lw_p39, List.forall_mem_cons.mpr ⟨lw_p40, List.forall_mem_cons.mpr ⟨lw_p41, List.forall_mem_cons.mpr ⟨lw_p42, List.forall_mem_cons.mpr ⟨lw_p43, List.forall_mem_cons.mpr ⟨lw_p44, List.forall_mem_cons.mpr ⟨lw_p45, List.forall_mem_cons.mpr ⟨lw_p46, List.forall_mem_cons.mpr ⟨lw_p47, fun _ h => absurd h List.not_mem_nil⟩⟩⟩⟩⟩⟩⟩⟩⟩⟩⟩⟩⟩⟩⟩⟩
theorem lw_p48 : lw_okq (⟨"TwoWayLinesModel", "next", "(Z)I"⟩, 31) := ⟨⟨by decide +kernel, by decide +kernel⟩, List.mem_of_getElem? (i := 606) (by decide +kernel), List.mem_of_getElem? (i := 774) (by decide +kernel), List.mem_of_getElem? (i := 775) (by decide +kernel)⟩
theorem lw_p49 : lw_okq (⟨"TwoWayLinesModel", "fits", "(I)Z"⟩, 31) := ⟨⟨by decide +kernel, by decide +kernel⟩, List.mem_of_getElem? (i := 606) (by decide +kernel), List.mem_of_getElem? (i := 778) (by decide +kernel), List.mem_of_getElem? (i := 779) (by decide +kernel)⟩
theorem lw_p50 : lw_okq (⟨"TwoWayLinesModel", "pop", "()V"⟩, 31) := ⟨⟨by decide +kernel, by decide +kernel⟩, List.mem_of_getElem? (i := 606) (by decide +kernel), List.mem_of_getElem? (i := 782) (by decide +kernel), List.mem_of_getElem? (i := 783) (by decide +kernel)⟩
theorem lw_p51 : lw_okq (⟨"TwoWayLinesModel", "isolateAt", "(I)V"⟩, 31) := ⟨⟨by decide +kernel, by decide +kernel⟩, List.mem_of_getElem? (i := 606) (by decide +kernel), List.mem_of_getElem? (i := 786) (by decide +kernel), List.mem_of_getElem? (i := 787) (by decide +kernel)⟩
theorem lw_p52 : lw_okq (⟨"TwoWayLinesModel", "settle", "(I)V"⟩, 31) := ⟨⟨by decide +kernel, by decide +kernel⟩, List.mem_of_getElem? (i := 606) (by decide +kernel), List.mem_of_getElem? (i := 790) (by decide +kernel), List.mem_of_getElem? (i := 791) (by decide +kernel)⟩
theorem lw_p53 : lw_okq (⟨"TwoWayLinesModel", "leave", "(I)V"⟩, 31) := ⟨⟨by decide +kernel, by decide +kernel⟩, List.mem_of_getElem? (i := 606) (by decide +kernel), List.mem_of_getElem? (i := 794) (by decide +kernel), List.mem_of_getElem? (i := 795) (by decide +kernel)⟩
theorem lw_p54 : lw_okq (⟨"TwoWayLinesModel", "sequences", "()V"⟩, 31) := ⟨⟨by decide +kernel, by decide +kernel⟩, List.mem_of_getElem? (i := 606) (by decide +kernel), List.mem_of_getElem? (i := 798) (by decide +kernel), List.mem_of_getElem? (i := 799) (by decide +kernel)⟩
theorem lw_p55 : lw_okq (⟨"TwoWayLinesModel", "hidden", "(I)Z"⟩, 31) := ⟨⟨by decide +kernel, by decide +kernel⟩, List.mem_of_getElem? (i := 606) (by decide +kernel), List.mem_of_getElem? (i := 802) (by decide +kernel), List.mem_of_getElem? (i := 803) (by decide +kernel)⟩
theorem lw_p56 : lw_okq (⟨"TwoWayLinesModel", "beginsRun", "(I)Z"⟩, 31) := ⟨⟨by decide +kernel, by decide +kernel⟩, List.mem_of_getElem? (i := 606) (by decide +kernel), List.mem_of_getElem? (i := 806) (by decide +kernel), List.mem_of_getElem? (i := 807) (by decide +kernel)⟩
theorem lw_p57 : lw_okq (⟨"TwoWayLinesModel", "seen", "(II)I"⟩, 31) := ⟨⟨by decide +kernel, by decide +kernel⟩, List.mem_of_getElem? (i := 606) (by decide +kernel), List.mem_of_getElem? (i := 810) (by decide +kernel), List.mem_of_getElem? (i := 811) (by decide +kernel)⟩
theorem lw_p58 : lw_okq (⟨"TwoWayLinesModel", "addRun", "(I)V"⟩, 31) := ⟨⟨by decide +kernel, by decide +kernel⟩, List.mem_of_getElem? (i := 606) (by decide +kernel), List.mem_of_getElem? (i := 815) (by decide +kernel), List.mem_of_getElem? (i := 816) (by decide +kernel)⟩
theorem lw_p59 : lw_okq (⟨"TwoWayLinesModel", "bounds", "()V"⟩, 31) := ⟨⟨by decide +kernel, by decide +kernel⟩, List.mem_of_getElem? (i := 606) (by decide +kernel), List.mem_of_getElem? (i := 819) (by decide +kernel), List.mem_of_getElem? (i := 820) (by decide +kernel)⟩
theorem lw_p60 : lw_okq (⟨"TwoWayLinesModel", "weak", "()V"⟩, 31) := ⟨⟨by decide +kernel, by decide +kernel⟩, List.mem_of_getElem? (i := 606) (by decide +kernel), List.mem_of_getElem? (i := 823) (by decide +kernel), List.mem_of_getElem? (i := 824) (by decide +kernel)⟩
theorem lw_p61 : lw_okq (⟨"TwoWayLinesModel", "at", "(I)I"⟩, 31) := ⟨⟨by decide +kernel, by decide +kernel⟩, List.mem_of_getElem? (i := 606) (by decide +kernel), List.mem_of_getElem? (i := 827) (by decide +kernel), List.mem_of_getElem? (i := 828) (by decide +kernel)⟩
theorem lw_p62 : lw_okq (⟨"TwoWayLinesModel", "set", "(II)V"⟩, 31) := ⟨⟨by decide +kernel, by decide +kernel⟩, List.mem_of_getElem? (i := 606) (by decide +kernel), List.mem_of_getElem? (i := 831) (by decide +kernel), List.mem_of_getElem? (i := 832) (by decide +kernel)⟩
theorem lw_p63 : lw_okq (⟨"TwoWayLinesModel", "terminators", "()V"⟩, 31) := ⟨⟨by decide +kernel, by decide +kernel⟩, List.mem_of_getElem? (i := 606) (by decide +kernel), List.mem_of_getElem? (i := 835) (by decide +kernel), List.mem_of_getElem? (i := 836) (by decide +kernel)⟩
def lw_privs_4 : List (MethodName × Nat) := [(⟨"TwoWayLinesModel", "next", "(Z)I"⟩, 31), (⟨"TwoWayLinesModel", "fits", "(I)Z"⟩, 31), (⟨"TwoWayLinesModel", "pop", "()V"⟩, 31), (⟨"TwoWayLinesModel", "isolateAt", "(I)V"⟩, 31), (⟨"TwoWayLinesModel", "settle", "(I)V"⟩, 31), (⟨"TwoWayLinesModel", "leave", "(I)V"⟩, 31), (⟨"TwoWayLinesModel", "sequences", "()V"⟩, 31), (⟨"TwoWayLinesModel", "hidden", "(I)Z"⟩, 31), (⟨"TwoWayLinesModel", "beginsRun", "(I)Z"⟩, 31), (⟨"TwoWayLinesModel", "seen", "(II)I"⟩, 31), (⟨"TwoWayLinesModel", "addRun", "(I)V"⟩, 31), (⟨"TwoWayLinesModel", "bounds", "()V"⟩, 31), (⟨"TwoWayLinesModel", "weak", "()V"⟩, 31), (⟨"TwoWayLinesModel", "at", "(I)I"⟩, 31), (⟨"TwoWayLinesModel", "set", "(II)V"⟩, 31), (⟨"TwoWayLinesModel", "terminators", "()V"⟩, 31)]
theorem lw_r4 : ∀ q ∈ lw_privs_4, lw_okq q := List.forall_mem_cons.mpr ⟨lw_p48, List.forall_mem_cons.mpr ⟨lw_p49, List.forall_mem_cons.mpr ⟨lw_p50, List.forall_mem_cons.mpr ⟨lw_p51, List.forall_mem_cons.mpr ⟨lw_p52, List.forall_mem_cons.mpr ⟨lw_p53, List.forall_mem_cons.mpr ⟨lw_p54, List.forall_mem_cons.mpr ⟨lw_p55, List.forall_mem_cons.mpr ⟨lw_p56, List.forall_mem_cons.mpr ⟨lw_p57, List.forall_mem_cons.mpr ⟨lw_p58, List.forall_mem_cons.mpr ⟨lw_p59, List.forall_mem_cons.mpr ⟨lw_p60, List.forall_mem_cons.mpr ⟨lw_p61, List.forall_mem_cons.mpr ⟨lw_p62, List.forall_mem_cons.mpr ⟨lw_p63, fun _ h => absurd h List.not_mem_nil⟩⟩⟩⟩⟩⟩⟩⟩⟩⟩⟩⟩⟩⟩⟩⟩
theorem lw_p64 : lw_okq (⟨"TwoWayLinesModel", "brackets", "()V"⟩, 31) := ⟨⟨by decide +kernel, by decide +kernel⟩, List.mem_of_getElem? (i := 606) (by decide +kernel), List.mem_of_getElem? (i := 839) (by decide +kernel), List.mem_of_getElem? (i := 840) (by decide +kernel)⟩
theorem lw_p65 : lw_okq (⟨"TwoWayLinesModel", "enclose", "(II)V"⟩, 31) := ⟨⟨by decide +kernel, by decide +kernel⟩, List.mem_of_getElem? (i := 606) (by decide +kernel), List.mem_of_getElem? (i := 843) (by decide +kernel), List.mem_of_getElem? (i := 844) (by decide +kernel)⟩
theorem lw_p66 : lw_okq (⟨"TwoWayLinesModel", "strong", "(I)I"⟩, 31) := ⟨⟨by decide +kernel, by decide +kernel⟩, List.mem_of_getElem? (i := 606) (by decide +kernel), List.mem_of_getElem? (i := 847) (by decide +kernel), List.mem_of_getElem? (i := 848) (by decide +kernel)⟩
theorem lw_p67 : lw_okq (⟨"TwoWayLinesModel", "give", "(II)V"⟩, 31) := ⟨⟨by decide +kernel, by decide +kernel⟩, List.mem_of_getElem? (i := 606) (by decide +kernel), List.mem_of_getElem? (i := 851) (by decide +kernel), List.mem_of_getElem? (i := 852) (by decide +kernel)⟩
theorem lw_p68 : lw_okq (⟨"TwoWayLinesModel", "neutral", "()V"⟩, 31) := ⟨⟨by decide +kernel, by decide +kernel⟩, List.mem_of_getElem? (i := 606) (by decide +kernel), List.mem_of_getElem? (i := 855) (by decide +kernel), List.mem_of_getElem? (i := 856) (by decide +kernel)⟩
theorem lw_p69 : lw_okq (⟨"TwoWayLinesModel", "resolve", "()V"⟩, 31) := ⟨⟨by decide +kernel, by decide +kernel⟩, List.mem_of_getElem? (i := 606) (by decide +kernel), List.mem_of_getElem? (i := 859) (by decide +kernel), List.mem_of_getElem? (i := 860) (by decide +kernel)⟩
theorem lw_p70 : lw_okq (⟨"TwoWayLinesModel", "fill", "()V"⟩, 31) := ⟨⟨by decide +kernel, by decide +kernel⟩, List.mem_of_getElem? (i := 606) (by decide +kernel), List.mem_of_getElem? (i := 863) (by decide +kernel), List.mem_of_getElem? (i := 864) (by decide +kernel)⟩
theorem lw_p71 : lw_okq (⟨"TwoWayLinesModel", "endOf", "(I)I"⟩, 31) := ⟨⟨by decide +kernel, by decide +kernel⟩, List.mem_of_getElem? (i := 606) (by decide +kernel), List.mem_of_getElem? (i := 867) (by decide +kernel), List.mem_of_getElem? (i := 868) (by decide +kernel)⟩
theorem lw_p72 : lw_okq (⟨"TwoWayLinesModel", "extentOf", "(II)I"⟩, 31) := ⟨⟨by decide +kernel, by decide +kernel⟩, List.mem_of_getElem? (i := 606) (by decide +kernel), List.mem_of_getElem? (i := 872) (by decide +kernel), List.mem_of_getElem? (i := 873) (by decide +kernel)⟩
theorem lw_p73 : lw_okq (⟨"TwoWayLinesModel", "showLine", "(II)V"⟩, 31) := ⟨⟨by decide +kernel, by decide +kernel⟩, List.mem_of_getElem? (i := 606) (by decide +kernel), List.mem_of_getElem? (i := 876) (by decide +kernel), List.mem_of_getElem? (i := 877) (by decide +kernel)⟩
theorem lw_p74 : lw_okq (⟨"TwoWayLinesModel", "turn", "(II)V"⟩, 31) := ⟨⟨by decide +kernel, by decide +kernel⟩, List.mem_of_getElem? (i := 606) (by decide +kernel), List.mem_of_getElem? (i := 880) (by decide +kernel), List.mem_of_getElem? (i := 881) (by decide +kernel)⟩
theorem lw_p75 : lw_okq (⟨"TwoWayLinesModel", "is", "(I)Z"⟩, 31) := ⟨⟨by decide +kernel, by decide +kernel⟩, List.mem_of_getElem? (i := 606) (by decide +kernel), List.mem_of_getElem? (i := 888) (by decide +kernel), List.mem_of_getElem? (i := 889) (by decide +kernel)⟩
def lw_privs_5 : List (MethodName × Nat) := [(⟨"TwoWayLinesModel", "brackets", "()V"⟩, 31), (⟨"TwoWayLinesModel", "enclose", "(II)V"⟩, 31), (⟨"TwoWayLinesModel", "strong", "(I)I"⟩, 31), (⟨"TwoWayLinesModel", "give", "(II)V"⟩, 31), (⟨"TwoWayLinesModel", "neutral", "()V"⟩, 31), (⟨"TwoWayLinesModel", "resolve", "()V"⟩, 31), (⟨"TwoWayLinesModel", "fill", "()V"⟩, 31), (⟨"TwoWayLinesModel", "endOf", "(I)I"⟩, 31), (⟨"TwoWayLinesModel", "extentOf", "(II)I"⟩, 31), (⟨"TwoWayLinesModel", "showLine", "(II)V"⟩, 31), (⟨"TwoWayLinesModel", "turn", "(II)V"⟩, 31), (⟨"TwoWayLinesModel", "is", "(I)Z"⟩, 31)]
theorem lw_r5 : ∀ q ∈ lw_privs_5, lw_okq q := List.forall_mem_cons.mpr ⟨lw_p64, List.forall_mem_cons.mpr ⟨lw_p65, List.forall_mem_cons.mpr ⟨lw_p66, List.forall_mem_cons.mpr ⟨lw_p67, List.forall_mem_cons.mpr ⟨lw_p68, List.forall_mem_cons.mpr ⟨lw_p69, List.forall_mem_cons.mpr ⟨lw_p70, List.forall_mem_cons.mpr ⟨lw_p71, List.forall_mem_cons.mpr ⟨lw_p72, List.forall_mem_cons.mpr ⟨lw_p73, List.forall_mem_cons.mpr ⟨lw_p74, List.forall_mem_cons.mpr ⟨lw_p75, fun _ h => absurd h List.not_mem_nil⟩⟩⟩⟩⟩⟩⟩⟩⟩⟩⟩⟩
def lw_privs : List (MethodName × Nat) := lw_privs_1 ++ (lw_privs_2 ++ (lw_privs_3 ++ (lw_privs_4 ++ (lw_privs_5))))
def lw_tbl : List Cond := k2_sels lw_privs ++ tables_1
theorem lw_privs_ok : ∀ q ∈ lw_privs, lw_okq q := by
  show ∀ q ∈ lw_privs_1 ++ (lw_privs_2 ++ (lw_privs_3 ++ (lw_privs_4 ++ (lw_privs_5)))), lw_okq q
  exact List.forall_mem_append.mpr ⟨lw_r1, List.forall_mem_append.mpr ⟨lw_r2, List.forall_mem_append.mpr ⟨lw_r3, List.forall_mem_append.mpr ⟨lw_r4, lw_r5⟩⟩⟩⟩
end
section
def twR_tl : String := "TwoWayLines"
def twT_tl : u_T := fun k => match k with
  | 0 => ("TwoWayLines", "paragraph", "LTwoWayLines$Paragraph;", true)
  | 1 => ("TwoWayLines", "levels", "LTwoWayLines$Levels;", true)
  | 2 => ("TwoWayLines", "filling", "LTwoWayLines$Filling;", true)
  | 3 => ("TwoWayLines", "showing", "LTwoWayLines$Showing;", true)
  | 4 => ("TwoWayLines", "measure", "I", false)
  | _ => ("TwoWayLines", "stale", "Z", false)
def twt_tl : Nat → FieldType := fun k => match k with
  | 0 => .object "TwoWayLines$Paragraph"
  | 1 => .object "TwoWayLines$Levels"
  | 2 => .object "TwoWayLines$Filling"
  | 3 => .object "TwoWayLines$Showing"
  | 4 => .int
  | _ => .boolean
theorem twnm_tl : ∀ a, a < 6 → ∀ b, b < 6 → a ≠ b → (twT_tl a).2.1 ≠ (twT_tl b).2.1 := by decide +kernel
theorem twtok_tl : ∀ k, k < 6 → parseFieldDescriptor (twT_tl k).2.2.1 = some (twt_tl k) := by decide +kernel
def twR_pa : String := "TwoWayLines$Paragraph"
def twT_pa : u_T := fun k => match k with
  | 0 => ("TwoWayLines$Paragraph", "kinds", "[I", true)
  | 1 => ("TwoWayLines$Paragraph", "groups", "[I", true)
  | 2 => ("TwoWayLines$Paragraph", "widths", "[I", true)
  | 3 => ("TwoWayLines$Paragraph", "pairs", "[I", true)
  | 4 => ("TwoWayLines$Paragraph", "size", "I", false)
  | _ => ("TwoWayLines$Paragraph", "base", "I", false)
def twt_pa : Nat → FieldType := fun k => match k with
  | 0 => .array .int
  | 1 => .array .int
  | 2 => .array .int
  | 3 => .array .int
  | 4 => .int
  | _ => .int
theorem twnm_pa : ∀ a, a < 6 → ∀ b, b < 6 → a ≠ b → (twT_pa a).2.1 ≠ (twT_pa b).2.1 := by decide +kernel
theorem twtok_pa : ∀ k, k < 6 → parseFieldDescriptor (twT_pa k).2.2.1 = some (twt_pa k) := by decide +kernel
def twR_le : String := "TwoWayLines$Levels"
def twT_le : u_T := fun k => match k with
  | 0 => ("TwoWayLines$Levels", "matches", "LTwoWayLines$Matches;", true)
  | 1 => ("TwoWayLines$Levels", "types", "[I", true)
  | 2 => ("TwoWayLines$Levels", "partners", "[I", true)
  | 3 => ("TwoWayLines$Levels", "resolved", "[I", true)
  | 4 => ("TwoWayLines$Levels", "ofParagraph", "I", false)
  | 5 => ("TwoWayLines$Levels", "explicit", "LTwoWayLines$Explicit;", true)
  | 6 => ("TwoWayLines$Levels", "sequence", "LTwoWayLines$Sequence;", true)
  | _ => ("TwoWayLines$Levels", "brackets", "LTwoWayLines$Brackets;", true)
def twt_le : Nat → FieldType := fun k => match k with
  | 0 => .object "TwoWayLines$Matches"
  | 1 => .array .int
  | 2 => .array .int
  | 3 => .array .int
  | 4 => .int
  | 5 => .object "TwoWayLines$Explicit"
  | 6 => .object "TwoWayLines$Sequence"
  | _ => .object "TwoWayLines$Brackets"
theorem twnm_le : ∀ a, a < 8 → ∀ b, b < 8 → a ≠ b → (twT_le a).2.1 ≠ (twT_le b).2.1 := by decide +kernel
theorem twtok_le : ∀ k, k < 8 → parseFieldDescriptor (twT_le k).2.2.1 = some (twt_le k) := by decide +kernel
def twR_ma : String := "TwoWayLines$Matches"
def twT_ma : u_T := fun k => match k with
  | 0 => ("TwoWayLines$Matches", "others", "[I", true)
  | _ => ("TwoWayLines$Matches", "waiting", "[I", true)
def twt_ma : Nat → FieldType := fun k => match k with
  | 0 => .array .int
  | _ => .array .int
theorem twnm_ma : ∀ a, a < 2 → ∀ b, b < 2 → a ≠ b → (twT_ma a).2.1 ≠ (twT_ma b).2.1 := by decide +kernel
theorem twtok_ma : ∀ k, k < 2 → parseFieldDescriptor (twT_ma k).2.2.1 = some (twt_ma k) := by decide +kernel
def twR_ex : String := "TwoWayLines$Explicit"
def twT_ex : u_T := fun k => match k with
  | 0 => ("TwoWayLines$Explicit", "levels", "[I", true)
  | 1 => ("TwoWayLines$Explicit", "types", "[I", true)
  | 2 => ("TwoWayLines$Explicit", "entryLevels", "[I", true)
  | 3 => ("TwoWayLines$Explicit", "entryOverrides", "[I", true)
  | 4 => ("TwoWayLines$Explicit", "entryIsolates", "[Z", true)
  | 5 => ("TwoWayLines$Explicit", "last", "I", false)
  | 6 => ("TwoWayLines$Explicit", "lostIsolates", "I", false)
  | 7 => ("TwoWayLines$Explicit", "lostEmbeddings", "I", false)
  | _ => ("TwoWayLines$Explicit", "openIsolates", "I", false)
def twt_ex : Nat → FieldType := fun k => match k with
  | 0 => .array .int
  | 1 => .array .int
  | 2 => .array .int
  | 3 => .array .int
  | 4 => .array .boolean
  | 5 => .int
  | 6 => .int
  | 7 => .int
  | _ => .int
theorem twnm_ex : ∀ a, a < 9 → ∀ b, b < 9 → a ≠ b → (twT_ex a).2.1 ≠ (twT_ex b).2.1 := by decide +kernel
theorem twtok_ex : ∀ k, k < 9 → parseFieldDescriptor (twT_ex k).2.2.1 = some (twt_ex k) := by decide +kernel
def twR_se : String := "TwoWayLines$Sequence"
def twT_se : u_T := fun k => match k with
  | 0 => ("TwoWayLines$Sequence", "places", "[I", true)
  | 1 => ("TwoWayLines$Sequence", "types", "[I", true)
  | 2 => ("TwoWayLines$Sequence", "marks", "[Z", true)
  | 3 => ("TwoWayLines$Sequence", "count", "I", false)
  | 4 => ("TwoWayLines$Sequence", "embedding", "I", false)
  | 5 => ("TwoWayLines$Sequence", "beginning", "I", false)
  | _ => ("TwoWayLines$Sequence", "end", "I", false)
def twt_se : Nat → FieldType := fun k => match k with
  | 0 => .array .int
  | 1 => .array .int
  | 2 => .array .boolean
  | 3 => .int
  | 4 => .int
  | 5 => .int
  | _ => .int
theorem twnm_se : ∀ a, a < 7 → ∀ b, b < 7 → a ≠ b → (twT_se a).2.1 ≠ (twT_se b).2.1 := by decide +kernel
theorem twtok_se : ∀ k, k < 7 → parseFieldDescriptor (twT_se k).2.2.1 = some (twt_se k) := by decide +kernel
def twR_br : String := "TwoWayLines$Brackets"
def twT_br : u_T := fun k => match k with
  | 0 => ("TwoWayLines$Brackets", "partners", "[I", true)
  | _ => ("TwoWayLines$Brackets", "list", "[I", true)
def twt_br : Nat → FieldType := fun k => match k with
  | 0 => .array .int
  | _ => .array .int
theorem twnm_br : ∀ a, a < 2 → ∀ b, b < 2 → a ≠ b → (twT_br a).2.1 ≠ (twT_br b).2.1 := by decide +kernel
theorem twtok_br : ∀ k, k < 2 → parseFieldDescriptor (twT_br k).2.2.1 = some (twt_br k) := by decide +kernel
def twR_fi : String := "TwoWayLines$Filling"
def twT_fi : u_T := fun k => match k with
  | 0 => ("TwoWayLines$Filling", "breaks", "[Z", true)
  | 1 => ("TwoWayLines$Filling", "starts", "[I", true)
  | 2 => ("TwoWayLines$Filling", "extents", "[I", true)
  | 3 => ("TwoWayLines$Filling", "count", "I", false)
  | _ => ("TwoWayLines$Filling", "groups", "[I", true)
def twt_fi : Nat → FieldType := fun k => match k with
  | 0 => .array .boolean
  | 1 => .array .int
  | 2 => .array .int
  | 3 => .int
  | _ => .array .int
theorem twnm_fi : ∀ a, a < 5 → ∀ b, b < 5 → a ≠ b → (twT_fi a).2.1 ≠ (twT_fi b).2.1 := by decide +kernel
theorem twtok_fi : ∀ k, k < 5 → parseFieldDescriptor (twT_fi k).2.2.1 = some (twt_fi k) := by decide +kernel
def twR_sh : String := "TwoWayLines$Showing"
def twT_sh : u_T := fun k => match k with
  | 0 => ("TwoWayLines$Showing", "levels", "[I", true)
  | _ => ("TwoWayLines$Showing", "order", "[I", true)
def twt_sh : Nat → FieldType := fun k => match k with
  | 0 => .array .int
  | _ => .array .int
theorem twnm_sh : ∀ a, a < 2 → ∀ b, b < 2 → a ≠ b → (twT_sh a).2.1 ≠ (twT_sh b).2.1 := by decide +kernel
theorem twtok_sh : ∀ k, k < 2 → parseFieldDescriptor (twT_sh k).2.2.1 = some (twt_sh k) := by decide +kernel
def twR_mo : String := "TwoWayLinesModel"
def twT_mo : u_T := fun k => match k with
  | 0 => ("TwoWayLinesModel", "base", "I", false)
  | 1 => ("TwoWayLinesModel", "measure", "I", false)
  | 2 => ("TwoWayLinesModel", "size", "I", false)
  | 3 => ("TwoWayLinesModel", "kind", "[I", true)
  | 4 => ("TwoWayLinesModel", "group", "[I", true)
  | 5 => ("TwoWayLinesModel", "width", "[I", true)
  | 6 => ("TwoWayLinesModel", "pair", "[I", true)
  | 7 => ("TwoWayLinesModel", "known", "Z", false)
  | 8 => ("TwoWayLinesModel", "root", "I", false)
  | 9 => ("TwoWayLinesModel", "level", "[I", true)
  | 10 => ("TwoWayLinesModel", "type", "[I", true)
  | 11 => ("TwoWayLinesModel", "resolved", "[I", true)
  | 12 => ("TwoWayLinesModel", "partner", "[I", true)
  | 13 => ("TwoWayLinesModel", "top", "I", false)
  | 14 => ("TwoWayLinesModel", "entry", "[I", true)
  | 15 => ("TwoWayLinesModel", "override", "[I", true)
  | 16 => ("TwoWayLinesModel", "isolate", "[Z", true)
  | 17 => ("TwoWayLinesModel", "lostIsolates", "I", false)
  | 18 => ("TwoWayLinesModel", "lostEmbeddings", "I", false)
  | 19 => ("TwoWayLinesModel", "openIsolates", "I", false)
  | 20 => ("TwoWayLinesModel", "n", "I", false)
  | 21 => ("TwoWayLinesModel", "seq", "[I", true)
  | 22 => ("TwoWayLinesModel", "mark", "[Z", true)
  | 23 => ("TwoWayLinesModel", "beginning", "I", false)
  | 24 => ("TwoWayLinesModel", "ending", "I", false)
  | 25 => ("TwoWayLinesModel", "embedding", "I", false)
  | 26 => ("TwoWayLinesModel", "list", "[I", true)
  | 27 => ("TwoWayLinesModel", "lines", "I", false)
  | 28 => ("TwoWayLinesModel", "starts", "[I", true)
  | 29 => ("TwoWayLinesModel", "shownLevels", "[I", true)
  | _ => ("TwoWayLinesModel", "order", "[I", true)
def twt_mo : Nat → FieldType := fun k => match k with
  | 0 => .int
  | 1 => .int
  | 2 => .int
  | 3 => .array .int
  | 4 => .array .int
  | 5 => .array .int
  | 6 => .array .int
  | 7 => .boolean
  | 8 => .int
  | 9 => .array .int
  | 10 => .array .int
  | 11 => .array .int
  | 12 => .array .int
  | 13 => .int
  | 14 => .array .int
  | 15 => .array .int
  | 16 => .array .boolean
  | 17 => .int
  | 18 => .int
  | 19 => .int
  | 20 => .int
  | 21 => .array .int
  | 22 => .array .boolean
  | 23 => .int
  | 24 => .int
  | 25 => .int
  | 26 => .array .int
  | 27 => .int
  | 28 => .array .int
  | 29 => .array .int
  | _ => .array .int
theorem twnm_mo : ∀ a, a < 31 → ∀ b, b < 31 → a ≠ b → (twT_mo a).2.1 ≠ (twT_mo b).2.1 := by decide +kernel
theorem twtok_mo : ∀ k, k < 31 → parseFieldDescriptor (twT_mo k).2.2.1 = some (twt_mo k) := by decide +kernel
abbrev tw_cls : List vw_C := [(twR_tl, twT_tl, 6), (twR_pa, twT_pa, 6), (twR_le, twT_le, 8), (twR_ma, twT_ma, 2), (twR_ex, twT_ex, 9), (twR_se, twT_se, 7), (twR_br, twT_br, 2), (twR_fi, twT_fi, 5), (twR_sh, twT_sh, 2), (twR_mo, twT_mo, 31)]
def tw_Wg : List Cond := lw_tbl.filter goodWord
theorem tw_good : ∀ w ∈ tw_Wg, goodWord w = true := fun w h => (List.mem_filter.mp h).2
theorem tw_Wg_in : ∀ w ∈ tw_Wg, w ∈ lw_tbl := fun w h => (List.mem_filter.mp h).1
theorem tw_Wg_of {w : Cond} {i : Nat} (h : lw_tbl[i]? = some w) (hg : goodWord w = true) : w ∈ tw_Wg := List.mem_filter.mpr ⟨List.mem_of_getElem? h, hg⟩
def twy_tl_within : MethodName := ⟨twR_tl, "within", "(III)Z"⟩
def twy_pa_append : MethodName := ⟨twR_pa, "append", "(IIII)Z"⟩
def twy_tl_add : MethodName := ⟨twR_tl, "add", "(IIII)Z"⟩
def twy_tl_drop : MethodName := ⟨twR_tl, "drop", "()Z"⟩
def twy_tl_clear : MethodName := ⟨twR_tl, "clear", "()V"⟩
def twy_tl_base : MethodName := ⟨twR_tl, "base", "(I)Z"⟩
def twy_tl_measure : MethodName := ⟨twR_tl, "measure", "(I)Z"⟩
def twy_tl_length : MethodName := ⟨twR_tl, "length", "()I"⟩
def twy_tl_isOpener : MethodName := ⟨twR_tl, "isOpener", "(I)Z"⟩
def twy_ma_find : MethodName := ⟨twR_ma, "find", "(LTwoWayLines$Paragraph;)V"⟩
def twy_ma_direction : MethodName := ⟨twR_ma, "direction", "(LTwoWayLines$Paragraph;II)I"⟩
def twy_ex_begin : MethodName := ⟨twR_ex, "begin", "(I)V"⟩
def twy_ex_endIsolate : MethodName := ⟨twR_ex, "endIsolate", "()V"⟩
def twy_ex_endEmbedding : MethodName := ⟨twR_ex, "endEmbedding", "()V"⟩
def twy_tl_isHidden : MethodName := ⟨twR_tl, "isHidden", "(I)Z"⟩
def twy_tl_isOdd : MethodName := ⟨twR_tl, "isOdd", "(I)Z"⟩
def twy_ex_nextLevel : MethodName := ⟨twR_ex, "nextLevel", "(Z)I"⟩
def twy_ex_fits : MethodName := ⟨twR_ex, "fits", "(I)Z"⟩
def twy_ex_overrideOf : MethodName := ⟨twR_ex, "overrideOf", "(I)I"⟩
def twy_ex_push : MethodName := ⟨twR_ex, "push", "(IIZ)V"⟩
def twy_ex_beginEmbedding : MethodName := ⟨twR_ex, "beginEmbedding", "(I)V"⟩
def twy_ex_give : MethodName := ⟨twR_ex, "give", "(II)V"⟩
def twy_ex_wantsOdd : MethodName := ⟨twR_ex, "wantsOdd", "(LTwoWayLines$Paragraph;LTwoWayLines$Matches;I)Z"⟩
def twy_ex_beginIsolate : MethodName := ⟨twR_ex, "beginIsolate", "(Z)V"⟩
def twy_ex_assign : MethodName := ⟨twR_ex, "assign", "(LTwoWayLines$Paragraph;LTwoWayLines$Matches;I)V"⟩
def twy_le_readMarks : MethodName := ⟨twR_le, "readMarks", "(LTwoWayLines$Paragraph;)V"⟩
def twy_le_visibleBefore : MethodName := ⟨twR_le, "visibleBefore", "(LTwoWayLines$Paragraph;I)I"⟩
def twy_le_beginsSequence : MethodName := ⟨twR_le, "beginsSequence", "(LTwoWayLines$Paragraph;I)Z"⟩
def twy_se_append : MethodName := ⟨twR_se, "append", "(II)V"⟩
def twy_le_takeRun : MethodName := ⟨twR_le, "takeRun", "(LTwoWayLines$Paragraph;I)I"⟩
def twy_le_gather : MethodName := ⟨twR_le, "gather", "(LTwoWayLines$Paragraph;I)V"⟩
def twy_le_visibleBehind : MethodName := ⟨twR_le, "visibleBehind", "(LTwoWayLines$Paragraph;I)I"⟩
def twy_tl_sideOf : MethodName := ⟨twR_tl, "sideOf", "(I)I"⟩
def twy_le_levelBeside : MethodName := ⟨twR_le, "levelBeside", "(I)I"⟩
def twy_le_setSides : MethodName := ⟨twR_le, "setSides", "(LTwoWayLines$Paragraph;)V"⟩
def twy_tl_isIsolateMark : MethodName := ⟨twR_tl, "isIsolateMark", "(I)Z"⟩
def twy_se_joinMarks : MethodName := ⟨twR_se, "joinMarks", "()V"⟩
def twy_se_turnArabicNumbers : MethodName := ⟨twR_se, "turnArabicNumbers", "()V"⟩
def twy_se_turnSeparators : MethodName := ⟨twR_se, "turnSeparators", "()V"⟩
def twy_se_turnTerminators : MethodName := ⟨twR_se, "turnTerminators", "()V"⟩
def twy_se_freeLeftovers : MethodName := ⟨twR_se, "freeLeftovers", "()V"⟩
def twy_se_turnLatinNumbers : MethodName := ⟨twR_se, "turnLatinNumbers", "()V"⟩
def twy_se_resolveWeak : MethodName := ⟨twR_se, "resolveWeak", "()V"⟩
def twy_br_close : MethodName := ⟨twR_br, "close", "(LTwoWayLines$Paragraph;LTwoWayLines$Sequence;II)I"⟩
def twy_br_pairUp : MethodName := ⟨twR_br, "pairUp", "(LTwoWayLines$Paragraph;LTwoWayLines$Sequence;)V"⟩
def twy_se_strongAt : MethodName := ⟨twR_se, "strongAt", "(I)I"⟩
def twy_br_strongBetween : MethodName := ⟨twR_br, "strongBetween", "(LTwoWayLines$Sequence;II)I"⟩
def twy_br_strongBefore : MethodName := ⟨twR_br, "strongBefore", "(LTwoWayLines$Sequence;I)I"⟩
def twy_br_give : MethodName := ⟨twR_br, "give", "(LTwoWayLines$Sequence;II)V"⟩
def twy_br_settle : MethodName := ⟨twR_br, "settle", "(LTwoWayLines$Sequence;II)V"⟩
def twy_br_resolve : MethodName := ⟨twR_br, "resolve", "(LTwoWayLines$Paragraph;LTwoWayLines$Sequence;)V"⟩
def twy_se_fillTypes : MethodName := ⟨twR_se, "fillTypes", "(III)V"⟩
def twy_se_resolveNeutral : MethodName := ⟨twR_se, "resolveNeutral", "()V"⟩
def twy_le_keep : MethodName := ⟨twR_le, "keep", "()V"⟩
def twy_le_resolveSequences : MethodName := ⟨twR_le, "resolveSequences", "(LTwoWayLines$Paragraph;)V"⟩
def twy_le_raised : MethodName := ⟨twR_le, "raised", "(II)I"⟩
def twy_le_raise : MethodName := ⟨twR_le, "raise", "(LTwoWayLines$Paragraph;)V"⟩
def twy_fi_findGroups : MethodName := ⟨twR_fi, "findGroups", "(LTwoWayLines$Paragraph;)V"⟩
def twy_fi_parts : MethodName := ⟨twR_fi, "parts", "(III)Z"⟩
def twy_fi_findBreaks : MethodName := ⟨twR_fi, "findBreaks", "(LTwoWayLines$Paragraph;)V"⟩
def twy_fi_endOfLine : MethodName := ⟨twR_fi, "endOfLine", "(LTwoWayLines$Paragraph;II)I"⟩
def twy_fi_extentOf : MethodName := ⟨twR_fi, "extentOf", "(LTwoWayLines$Paragraph;II)I"⟩
def twy_fi_fill : MethodName := ⟨twR_fi, "fill", "(LTwoWayLines$Paragraph;I)V"⟩
def twy_sh_setLevels : MethodName := ⟨twR_sh, "setLevels", "(LTwoWayLines$Paragraph;LTwoWayLines$Levels;II)V"⟩
def twy_sh_turn : MethodName := ⟨twR_sh, "turn", "(II)V"⟩
def twy_sh_turnRows : MethodName := ⟨twR_sh, "turnRows", "(III)V"⟩
def twy_sh_setOrder : MethodName := ⟨twR_sh, "setOrder", "(II)V"⟩
def twy_sh_arrange : MethodName := ⟨twR_sh, "arrange", "(LTwoWayLines$Paragraph;LTwoWayLines$Levels;LTwoWayLines$Filling;)V"⟩
def twy_tl_layOut : MethodName := ⟨twR_tl, "layOut", "()V"⟩
def twy_tl_paragraphLevel : MethodName := ⟨twR_tl, "paragraphLevel", "()I"⟩
def twy_pa_has : MethodName := ⟨twR_pa, "has", "(I)Z"⟩
def twy_tl_match : MethodName := ⟨twR_tl, "match", "(I)I"⟩
def twy_tl_partner : MethodName := ⟨twR_tl, "partner", "(I)I"⟩
def twy_tl_type : MethodName := ⟨twR_tl, "type", "(I)I"⟩
def twy_tl_level : MethodName := ⟨twR_tl, "level", "(I)I"⟩
def twy_tl_mayBreak : MethodName := ⟨twR_tl, "mayBreak", "(I)Z"⟩
def twy_tl_lines : MethodName := ⟨twR_tl, "lines", "()I"⟩
def twy_tl_start : MethodName := ⟨twR_tl, "start", "(I)I"⟩
def twy_fi_has : MethodName := ⟨twR_fi, "has", "(I)Z"⟩
def twy_tl_extent : MethodName := ⟨twR_tl, "extent", "(I)I"⟩
def twy_tl_shownLevel : MethodName := ⟨twR_tl, "shownLevel", "(I)I"⟩
def twy_tl_shown : MethodName := ⟨twR_tl, "shown", "(II)I"⟩
def twy_tl_mirrored : MethodName := ⟨twR_tl, "mirrored", "(I)Z"⟩
def twy_mo_add : MethodName := ⟨twR_mo, "add", "(IIII)Z"⟩
def twy_mo_drop : MethodName := ⟨twR_mo, "drop", "()Z"⟩
def twy_mo_clear : MethodName := ⟨twR_mo, "clear", "()V"⟩
def twy_mo_base : MethodName := ⟨twR_mo, "base", "(I)Z"⟩
def twy_mo_measure : MethodName := ⟨twR_mo, "measure", "(I)Z"⟩
def twy_mo_length : MethodName := ⟨twR_mo, "length", "()I"⟩
def twy_mo_opener : MethodName := ⟨twR_mo, "opener", "(I)Z"⟩
def twy_mo_hidden : MethodName := ⟨twR_mo, "hidden", "(I)Z"⟩
def twy_mo_closing : MethodName := ⟨twR_mo, "closing", "(I)I"⟩
def twy_mo_match : MethodName := ⟨twR_mo, "match", "(I)I"⟩
def twy_mo_direction : MethodName := ⟨twR_mo, "direction", "(II)I"⟩
def twy_mo_put : MethodName := ⟨twR_mo, "put", "(IIZ)V"⟩
def twy_mo_next : MethodName := ⟨twR_mo, "next", "(Z)I"⟩
def twy_mo_fits : MethodName := ⟨twR_mo, "fits", "(I)Z"⟩
def twy_mo_settle : MethodName := ⟨twR_mo, "settle", "(I)V"⟩
def twy_mo_embed : MethodName := ⟨twR_mo, "embed", "(I)V"⟩
def twy_mo_isolateAt : MethodName := ⟨twR_mo, "isolateAt", "(I)V"⟩
def twy_mo_leave : MethodName := ⟨twR_mo, "leave", "(I)V"⟩
def twy_mo_pop : MethodName := ⟨twR_mo, "pop", "()V"⟩
def twy_mo_explicit : MethodName := ⟨twR_mo, "explicit", "()V"⟩
def twy_mo_seen : MethodName := ⟨twR_mo, "seen", "(II)I"⟩
def twy_mo_beginsRun : MethodName := ⟨twR_mo, "beginsRun", "(I)Z"⟩
def twy_mo_addRun : MethodName := ⟨twR_mo, "addRun", "(I)V"⟩
def twy_mo_bounds : MethodName := ⟨twR_mo, "bounds", "()V"⟩
def twy_mo_at : MethodName := ⟨twR_mo, "at", "(I)I"⟩
def twy_mo_set : MethodName := ⟨twR_mo, "set", "(II)V"⟩
def twy_mo_terminators : MethodName := ⟨twR_mo, "terminators", "()V"⟩
def twy_mo_weak : MethodName := ⟨twR_mo, "weak", "()V"⟩
def twy_mo_strong : MethodName := ⟨twR_mo, "strong", "(I)I"⟩
def twy_mo_give : MethodName := ⟨twR_mo, "give", "(II)V"⟩
def twy_mo_enclose : MethodName := ⟨twR_mo, "enclose", "(II)V"⟩
def twy_mo_brackets : MethodName := ⟨twR_mo, "brackets", "()V"⟩
def twy_mo_neutral : MethodName := ⟨twR_mo, "neutral", "()V"⟩
def twy_mo_sequences : MethodName := ⟨twR_mo, "sequences", "()V"⟩
def twy_mo_resolve : MethodName := ⟨twR_mo, "resolve", "()V"⟩
def twy_mo_groupOf : MethodName := ⟨twR_mo, "groupOf", "(I)I"⟩
def twy_mo_mayBreak : MethodName := ⟨twR_mo, "mayBreak", "(I)Z"⟩
def twy_mo_extentOf : MethodName := ⟨twR_mo, "extentOf", "(II)I"⟩
def twy_mo_endOf : MethodName := ⟨twR_mo, "endOf", "(I)I"⟩
def twy_mo_turn : MethodName := ⟨twR_mo, "turn", "(II)V"⟩
def twy_mo_showLine : MethodName := ⟨twR_mo, "showLine", "(II)V"⟩
def twy_mo_fill : MethodName := ⟨twR_mo, "fill", "()V"⟩
def twy_mo_work : MethodName := ⟨twR_mo, "work", "()V"⟩
def twy_mo_is : MethodName := ⟨twR_mo, "is", "(I)Z"⟩
def twy_mo_paragraphLevel : MethodName := ⟨twR_mo, "paragraphLevel", "()I"⟩
def twy_mo_partner : MethodName := ⟨twR_mo, "partner", "(I)I"⟩
def twy_mo_type : MethodName := ⟨twR_mo, "type", "(I)I"⟩
def twy_mo_level : MethodName := ⟨twR_mo, "level", "(I)I"⟩
def twy_mo_lines : MethodName := ⟨twR_mo, "lines", "()I"⟩
def twy_mo_start : MethodName := ⟨twR_mo, "start", "(I)I"⟩
def twy_mo_extent : MethodName := ⟨twR_mo, "extent", "(I)I"⟩
def twy_mo_shownLevel : MethodName := ⟨twR_mo, "shownLevel", "(I)I"⟩
def twy_mo_shown : MethodName := ⟨twR_mo, "shown", "(II)I"⟩
def twy_mo_mirrored : MethodName := ⟨twR_mo, "mirrored", "(I)Z"⟩
end
section
/-! ints of the machine as Int within their range; references as numbers of cells; a memory as a list of cells; a judgement over them (tw_rn) and its rows -/
def tw_I (z : Int) : Int32 := Int32.ofInt z
abbrev tw_rg (z : Int) : Prop := -2147483648 ≤ z ∧ z ≤ 2147483647
theorem tw_I_toInt {z : Int} (h : tw_rg z) : (tw_I z).toInt = z := Int32.toInt_ofInt_of_le (by have := h.1; omega) (by have := h.2; omega)
theorem tw_rg_of (x : Int32) : tw_rg x.toInt := ⟨by have := x.le_toInt; omega, by have := x.toInt_lt; omega⟩
theorem tw_I_of (x : Int32) : tw_I x.toInt = x := Int32.ofInt_toInt x
theorem tw_I_lt {a b : Int} (ha : tw_rg a) (hb : tw_rg b) : tw_I a < tw_I b ↔ a < b := by rw [Int32.lt_iff_toInt_lt, tw_I_toInt ha, tw_I_toInt hb]
theorem tw_I_le {a b : Int} (ha : tw_rg a) (hb : tw_rg b) : tw_I a ≤ tw_I b ↔ a ≤ b := by rw [Int32.le_iff_toInt_le, tw_I_toInt ha, tw_I_toInt hb]
theorem tw_I_eq {a b : Int} (ha : tw_rg a) (hb : tw_rg b) : tw_I a = tw_I b ↔ a = b := by rw [← Int32.toInt_inj, tw_I_toInt ha, tw_I_toInt hb]
theorem tw_rg0 : tw_rg 0 := by unfold tw_rg; omega
theorem tw_I_0 : tw_I 0 = 0 := rfl
theorem tw_I_lt0 {a : Int} (ha : tw_rg a) : tw_I a < 0 ↔ a < 0 := tw_I_lt ha tw_rg0
theorem tw_I_le0 {a : Int} (ha : tw_rg a) : tw_I a ≤ 0 ↔ a ≤ 0 := tw_I_le ha tw_rg0
theorem tw_I_gt0 {a : Int} (ha : tw_rg a) : 0 < tw_I a ↔ 0 < a := tw_I_lt tw_rg0 ha
theorem tw_I_ge0 {a : Int} (ha : tw_rg a) : 0 ≤ tw_I a ↔ 0 ≤ a := tw_I_le tw_rg0 ha
theorem tw_I_eq0 {a : Int} (ha : tw_rg a) : tw_I a = 0 ↔ a = 0 := tw_I_eq ha tw_rg0
theorem tw_I_add (a b : Int) : tw_I a + tw_I b = tw_I (a + b) := (Int32.ofInt_add a b).symm
theorem tw_I_sub (a b : Int) : tw_I a - tw_I b = tw_I (a - b) := (Int32.ofInt_sub a b).symm
theorem tw_I_neg (a : Int) : -tw_I a = tw_I (-a) := (Int32.ofInt_neg a).symm
theorem tw_I_cl {i : Int} (h : tw_rg i) : (tw_I i).toNatClampNeg = i.toNat := Int32.toNatClampNeg_ofInt_of_le (by have := h.1; omega) (by have := h.2; omega)
theorem tw_I_in {i : Int} {n : Nat} (h : tw_rg i) (h0 : 0 ≤ i) (h1 : i < (n : Int)) : vp_in (tw_I i) n := vp_in_iff.mpr ⟨by rw [tw_I_toInt h]; exact h0, by rw [tw_I_toInt h]; exact h1⟩
theorem tw_I_nat {a : Int} (h0 : 0 ≤ a) : tw_I a = nI a.toNat := by
  obtain ⟨n, rfl⟩ := Int.eq_ofNat_of_zero_le h0
  rfl
theorem tw_rg_div {a b : Int} (ha : tw_rg a) (h0 : 0 ≤ a) (h1 : 0 < b) : tw_rg (a / b) := by
  have h2 := Int.ediv_nonneg h0 (Int.le_of_lt h1)
  have h3 := Int.ediv_le_self b h0
  have := ha.2
  unfold tw_rg
  omega
theorem tw_rg_mod {a b : Int} (hb : tw_rg b) (h1 : 0 < b) : tw_rg (a % b) := by
  have h2 := Int.emod_nonneg a (by omega : b ≠ 0)
  have h3 := Int.emod_lt_of_pos a h1
  have := hb.2
  unfold tw_rg
  omega
theorem tw_I_ne0 {b : Int} (hb : tw_rg b) (h1 : 0 < b) : ¬ tw_I b = 0 := fun h => by
  have := (tw_I_eq0 hb).mp h
  omega
theorem tw_I_div {a b : Int} (ha : tw_rg a) (hb : tw_rg b) (h0 : 0 ≤ a) (h1 : 0 < b) : tw_I a / tw_I b = tw_I (a / b) := by
  have hm : tw_I b ≠ -1 := fun h => by
    have h2 := congrArg Int32.toInt h
    rw [tw_I_toInt hb] at h2
    have h3 : (-1 : Int32).toInt = -1 := by decide
    omega
  rw [← Int32.toInt_inj, Int32.toInt_div_of_ne_right _ _ hm, tw_I_toInt ha, tw_I_toInt hb, tw_I_toInt (tw_rg_div ha h0 h1), Int.tdiv_eq_ediv_of_nonneg h0]
theorem tw_I_rem {a b : Int} (ha : tw_rg a) (hb : tw_rg b) (h0 : 0 ≤ a) (h1 : 0 < b) : tw_I a - tw_I a / tw_I b * tw_I b = tw_I (a % b) := by
  rw [← Int32.toInt_inj, rem_toInt, tw_I_toInt ha, tw_I_toInt hb, tw_I_toInt (tw_rg_mod hb h1), Int.tmod_eq_emod_of_nonneg h0]
theorem tw_I_and1 {a : Int} (ha : tw_rg a) (h0 : 0 ≤ a) : tw_I a &&& tw_I 1 = tw_I (a % 2) := by
  have h2 := Int.emod_nonneg a (by omega : (2 : Int) ≠ 0)
  have h3 := ha.2
  rw [tw_I_nat h0, tw_I_nat h2, pk_andN (n := a.toNat) (by omega) 1 rfl]
  congr 1
  omega
/-- values -/
abbrev tw_v : Type := Int ⊕ Nat
def tw_cv (ad : Nat → Nat) (v : tw_v) : Value := match v with
  | .inl z => .int (tw_I z)
  | .inr k => .ref (ad k)
def tw_okv (v : tw_v) : Prop := match v with
  | .inl z => tw_rg z
  | .inr _ => True
theorem tw_cat (ad : Nat → Nat) (v : tw_v) : (tw_cv ad v).category = 1 := by cases v <;> rfl
/-- cells: an array (of booleans?, its length, its contents), or an object (the number of its kind, its fields) -/
abbrev tw_c : Type := (Bool × Nat × (Nat → Int)) ⊕ (Nat × List tw_v)
def tw_cc (ad : Nat → Nat) (cI cZ : ClassId) (c : tw_c) : va_E := match c with
  | .inl (z, n, f) => .inl (if z then cZ else cI, n, .inl fun j => tw_I (f j))
  | .inr (ci, fs) => .inr (ci, fs.map (tw_cv ad))
def tw_okc (c : tw_c) : Prop := match c with
  | .inl (_, _, f) => ∀ j, tw_rg (f j)
  | .inr (_, fs) => ∀ v ∈ fs, tw_okv v
def tw_wl (ad : Nat → Nat) (cI cZ : ClassId) (mem : List tw_c) : va_W := mem.zipIdx.map fun q => (ad q.2, tw_cc ad cI cZ q.1)
theorem tw_wl_at {ad : Nat → Nat} {cI cZ : ClassId} {mem : List tw_c} {q : Nat} {c : tw_c} (h : mem[q]? = some c) : (tw_wl ad cI cZ mem)[q]? = some (ad q, tw_cc ad cI cZ c) := by
  unfold tw_wl
  rw [List.getElem?_map, List.getElem?_zipIdx, h]
  simp
theorem tw_wl_set {ad : Nat → Nat} {cI cZ : ClassId} {mem : List tw_c} {q : Nat} {c : tw_c} : (tw_wl ad cI cZ mem).set q (ad q, tw_cc ad cI cZ c) = tw_wl ad cI cZ (mem.set q c) := by
  apply List.ext_getElem?
  intro i
  unfold tw_wl
  rw [List.getElem?_set, List.getElem?_map, List.getElem?_map, List.getElem?_zipIdx, List.getElem?_zipIdx, List.getElem?_set]
  by_cases h : q = i
  · subst h
    by_cases h2 : q < mem.length
    · simp [h2]
    · simp [h2]
  · simp [h]
theorem tw_wl_mem {ad : Nat → Nat} {cI cZ : ClassId} {mem : List tw_c} {k : Nat} {q : Nat × va_E} (h : (tw_wl ad cI cZ mem)[k]? = some q) : k < mem.length ∧ q.1 = ad k := by
  unfold tw_wl at h
  rw [List.getElem?_map, List.getElem?_zipIdx] at h
  by_cases h2 : k < mem.length
  · rw [List.getElem?_eq_getElem h2] at h
    simp at h
    exact ⟨h2, by rw [← h]⟩
  · rw [List.getElem?_eq_none (by omega)] at h
    simp at h
theorem tw_set_ok {mem : List tw_c} {q : Nat} {c : tw_c} (h : ∀ c ∈ mem, tw_okc c) (hc : tw_okc c) : ∀ c' ∈ mem.set q c, tw_okc c' := fun c' h' => by
  rcases List.mem_or_eq_of_mem_set h' with h1 | h1
  · exact h c' h1
  · rw [h1]; exact hc
theorem tw_setv_ok {fs : List tw_v} {j : Nat} {v : tw_v} (h : ∀ v ∈ fs, tw_okv v) (hv : tw_okv v) : ∀ w ∈ fs.set j v, tw_okv w := fun w h' => by
  rcases List.mem_or_eq_of_mem_set h' with h1 | h1
  · exact h w h1
  · rw [h1]; exact hv
def tw_up (f : Nat → Int) (k : Nat) (x : Int) : Nat → Int := fun j => if j = k then x else f j
theorem tw_up_ok {f : Nat → Int} {k : Nat} {x : Int} (h : ∀ j, tw_rg (f j)) (hx : tw_rg x) : ∀ j, tw_rg (tw_up f k x j) := fun j => by
  unfold tw_up
  split
  · exact hx
  · exact h j
theorem tw_up_I (f : Nat → Int) (k : Nat) (x : Int) : upd (fun j => tw_I (f j)) k (tw_I x) = fun j => tw_I (tw_up f k x j) := by
  funext j
  unfold upd tw_up
  split <;> rfl
/-- locals: none where nothing is known -/
def tw_lr (ad : Nat → Nat) (ls : Array Slot) (nL : Nat) (L : List (Option tw_v)) : Prop := ls.size = nL ∧ lv_wf ls ∧ ∀ (i : Nat) (v : tw_v), L[i]? = some (some v) → ls[i]? = some (.val (tw_cv ad v))
def tw_prs (ad : Nat → Nat) (L : List (Option tw_v)) : List (Nat × Value) := L.zipIdx.filterMap fun q => q.1.map fun v => (q.2, tw_cv ad v)
theorem tw_prs_mem {ad : Nat → Nat} {L : List (Option tw_v)} {q : Nat × Value} : q ∈ tw_prs ad L ↔ ∃ v, L[q.1]? = some (some v) ∧ q.2 = tw_cv ad v := by
  unfold tw_prs
  rw [List.mem_filterMap]
  constructor
  · rintro ⟨⟨o, i⟩, h1, h2⟩
    have h3 := List.mem_zipIdx_iff_getElem?.mp h1
    cases o with
    | none => simp at h2
    | some v =>
      simp at h2
      subst h2
      exact ⟨v, h3, rfl⟩
  · rintro ⟨v, h1, h2⟩
    refine ⟨(some v, q.1), List.mem_zipIdx_iff_getElem?.mpr h1, ?_⟩
    obtain ⟨i, x⟩ := q
    simp at h2 ⊢
    exact h2.symm
theorem tw_lr_has {ad : Nat → Nat} {ls : Array Slot} {nL : Nat} {L : List (Option tw_v)} (h : tw_lr ad ls nL L) : lv_has ls nL (tw_prs ad L) := by
  refine ⟨h.1, h.2.1, fun q hq => ?_⟩
  obtain ⟨v, h1, h2⟩ := tw_prs_mem.mp hq
  rw [h2]
  exact h.2.2 q.1 v h1
theorem tw_lr_set {ad : Nat → Nat} {ls' : Array Slot} {nL i : Nat} {L : List (Option tw_v)} {v : tw_v} (h : lv_has ls' nL ((i, tw_cv ad v) :: (tw_prs ad L).filter (fun q => !(q.1 == i) && !(q.1 + 1 == i && q.2.category == 2)))) : tw_lr ad ls' nL (L.set i (some v)) := by
  refine ⟨h.1, h.2.1, fun j w hj => ?_⟩
  rw [List.getElem?_set] at hj
  by_cases hij : i = j
  · subst hij
    rw [if_pos rfl] at hj
    split at hj
    · cases hj
      exact h.2.2 (i, tw_cv ad v) List.mem_cons_self
    · cases hj
  · rw [if_neg hij] at hj
    refine h.2.2 (j, tw_cv ad w) (List.mem_cons_of_mem _ (List.mem_filter.mpr ⟨tw_prs_mem.mpr ⟨w, hj, rfl⟩, ?_⟩))
    have h1 : (tw_cv ad w).category = 1 := tw_cat ad w
    have h2 : ¬ j = i := fun h => hij h.symm
    simp [h1, h2]
/-- fewer locals are known -/
def tw_le : List (Option tw_v) → List (Option tw_v) → Prop
  | [], _ => True
  | none :: a, [] => tw_le a []
  | none :: a, _ :: b => tw_le a b
  | some _ :: _, [] => False
  | some v :: a, x :: b => x = some v ∧ tw_le a b
theorem tw_le_at : ∀ (a b : List (Option tw_v)), tw_le a b → ∀ (i : Nat) (v : tw_v), a[i]? = some (some v) → b[i]? = some (some v)
  | [], _, _, i, v, h => by simp at h
  | none :: a, [], hl, i, v, h => by
    cases i with
    | zero => simp at h
    | succ i =>
      have := tw_le_at a [] hl i v (by simpa using h)
      simp at this
  | none :: a, _ :: b, hl, i, v, h => by
    cases i with
    | zero => simp at h
    | succ i => simpa using tw_le_at a b hl i v (by simpa using h)
  | some _ :: _, [], hl, _, _, _ => hl.elim
  | some w :: a, x :: b, hl, i, v, h => by
    cases i with
    | zero => rw [hl.1]; simpa using h
    | succ i => simpa using tw_le_at a b hl.2 i v (by simpa using h)
/-- the contexts: of a world, of a method's run -/
abbrev tw_N : Type := List (String × Nat × MethodName × String)
abbrev tw_Y : Type := Launch × va_G × List vw_C × (Nat → Nat) × Nat × ClassId × ClassId × tw_N
/-- links of nest mates -/
def tw_nw (Ns : tw_N) (U : State) : Prop := ∀ q ∈ Ns, va_Nw (.methodLinkNest q.1 q.2.1 q.2.2.1 q.2.2.2) U
theorem tw_nw.warm {Ns : tw_N} {s U : State} (hW : s.WarmedH U.vm) (h : tw_nw Ns s) : tw_nw Ns U := fun q hq => va_Nw.warmM hW (h q hq)
theorem tw_nw.same {Ns : tw_N} {s U : State} (hv : s.vm = U.vm) (h : tw_nw Ns s) : tw_nw Ns U := fun q hq => va_Nw.same rfl hv (h q hq)
abbrev tw_Z : Type := Program × Env × Room × State × MethodId × Array Value × List Frame × Method × Code
abbrev tw_P : Type := Option Int → List tw_c → Prop
def tw_A (ad : Nat → Nat) (N sz : Nat) (q : Nat) : Prop := (∃ k, k < N ∧ q = ad k) ∨ sz ≤ q
abbrev tw_ty (cI cZ : ClassId) : List (ClassId × FieldType) := [(cI, .int), (cZ, .boolean)]
def tw_rm (d : Nat) : Room := { frames := d, cells := 0, slots := 0, locals := 40 * d }
def tw_Qc (Y : tw_Y) (sz : Nat) (Post : tw_P) : Array Value → State → Outcome → State → Prop := match Y with
  | (_, D, cl, ad, N, cI, cZ, _) => fun _ st oc t => (∃ (r : Option Int) (mem : List tw_c), oc = .returned (r.map fun z => .int (tw_I z)) ∧ Post r mem ∧ (∀ z, r = some z → tw_rg z) ∧ (∀ c ∈ mem, tw_okc c) ∧ mem.length = N ∧ va_P D cl (tw_wl ad cI cZ mem) t.heap ∧ va_K D cl (tw_ty cI cZ) t ∧ va_D (tw_A ad N sz) (tw_wl ad cI cZ mem)) ∧ va_F (tw_A ad N sz) st t
def tw_rn (Y : tw_Y) (Z : tw_Z) (Post : tw_P) (pc : Nat) (L : List (Option tw_v)) (S : List tw_v) (mem : List tw_c) : Prop := match Y, Z with
  | (l, D, cl, ad, N, cI, cZ, Ns), (p, e, R, s, m, args, below, meth, c) =>
    (∀ (i : Nat) (v : tw_v), L[i]? = some (some v) → tw_okv v) → (∀ v ∈ S, tw_okv v) → (∀ c ∈ mem, tw_okc c) → mem.length = N →
    ∀ (H : Heap) (locs : List Loc) (ls : Array Slot), va_P D cl (tw_wl ad cI cZ mem) H → va_D (tw_A ad N s.heap.size) (tw_wl ad cI cZ mem) → va_S (tw_A ad N s.heap.size) s.heap H locs → tw_lr ad ls c.maxLocals L →
    W p l e R s m args below meth c H locs 0 0 (MQ below (tw_Qc (l, D, cl, ad, N, cI, cZ, Ns) s.heap.size Post) args s 0 0 (tw_A ad N s.heap.size)) (F0 m pc ls (S.map (tw_cv ad)))
def tw_cx (Y : tw_Y) (Z : tw_Z) (cc : ByteArray) (own : String) (Ts : List Cond) (ret : Option FieldType) (d nL : Nat) : Prop := match Y, Z with
  | (_, D, cl, _, _, cI, cZ, Ns), (p, _, R, s, m, args, _, meth, c) => p.tables.exec = Jvm.exec ∧ c.code = cc ∧ s.vm.findClass own = some m.cls ∧ (∀ w ∈ Ts, w.before args s = true) ∧ va_K D cl (tw_ty cI cZ) s ∧ meth.sig.returnType = ret ∧ meth.locks = false ∧ R = tw_rm d ∧ c.maxLocals = nL ∧ tw_nw Ns s
/-- a method's contract -/
def tw_ct (Y : tw_Y) (y : MethodName) (ws : List Cond) (d : Nat) (As : List tw_v) (mem : List tw_c) (Post : tw_P) : Prop := match Y with
  | (l, D, cl, ad, N, cI, cZ, Ns) => (∀ v ∈ As, tw_okv v) → (∀ c ∈ mem, tw_okc c) → mem.length = N → ∀ sz : Nat,
    Met l y ws (tw_rm d) (va_Pc (As.map (tw_cv ad)) (fun U => U.heap.size = sz ∧ va_P D cl (tw_wl ad cI cZ mem) U.heap ∧ va_K D cl (tw_ty cI cZ) U ∧ va_D (fun _ => True) (tw_wl ad cI cZ mem) ∧ tw_nw Ns U)) (tw_Qc (l, D, cl, ad, N, cI, cZ, Ns) sz Post) 0 0 (tw_A ad N sz)
theorem tw_sl (ad : Nat → Nat) (As : List tw_v) : lg_sl (As.map (tw_cv ad)) = As.map fun v => Slot.val (tw_cv ad v) := by
  unfold lg_sl
  induction As with
  | nil => rfl
  | cons a l ih => simp [tw_cat] at ih ⊢; exact ih
theorem tw_args (ad : Nat → Nat) : ∀ (As : List tw_v) (k i : Nat) (v : tw_v), As[i]? = some v → (k + i, tw_cv ad v) ∈ lv_args k (As.map (tw_cv ad))
  | [], _, i, v, h => by simp at h
  | a :: l, k, i, v, h => by
    have hc : ¬ (tw_cv ad a).category = 2 := by rw [tw_cat]; decide
    show _ ∈ (k, tw_cv ad a) :: lv_args (if (tw_cv ad a).category = 2 then k + 2 else k + 1) (l.map (tw_cv ad))
    rw [if_neg hc]
    cases i with
    | zero =>
      simp at h
      subst h
      exact List.mem_cons_self
    | succ i =>
      have := tw_args ad l (k + 1) i v (by simpa using h)
      rw [show k + (i + 1) = k + 1 + i by omega]
      exact List.mem_cons_of_mem _ this
/-- from the walk of the body to the contract -/
theorem tw_of {Y : tw_Y} {y : MethodName} {cc : ByteArray} {nL d : Nat} {ret : Option FieldType} {Wg : List Cond} {As : List tw_v} {mem : List tw_c} {Post : tw_P} {own : String} {L0 : List (Option tw_v)}
    (hy : plainName y.cls = true) (hown : y.cls = own) (hL0 : As.map some ++ List.replicate (nL - As.length) none = L0) (hn : As.length ≤ nL)
    (body : ∀ Z : tw_Z, tw_cx Y Z cc own Wg ret d nL → tw_rn Y Z Post 0 L0 [] mem) : tw_ct Y y (Cond.code y cc nL ret :: Wg) d As mem Post := by
  obtain ⟨l, D, cl, ad, N, cI, cZ, Ns⟩ := Y
  intro hAs hM hN sz
  refine Met.ofW (cc := cc) (maxL := nL) (ret := ret) hy rfl ?_
  intro p e s m args below meth c s₁ B hml hv
  obtain ⟨rfl, hsz, hP, hK, hD0, hNs⟩ := hv
  have hx := B.exec
  have hb := B.bytes
  have hr := B.returns
  have hts := atoms_spec (ws := Cond.code y cc nL ret :: Wg) B.pre
  have ho : s.vm.findClass y.cls = some m.cls := findClass_of_methodNamed B.named
  rw [hown] at ho
  have hlocks := B.notSynchronized
  subst hsz
  have hD : va_D (tw_A ad N s.heap.size) (tw_wl ad cI cZ mem) := hD0.weaken (fun k q hq _ => by
    obtain ⟨h1, h2⟩ := tw_wl_mem hq
    exact Or.inl ⟨k, by rw [← hN]; exact h1, h2⟩)
  have hlen : (lg_sl (As.map (tw_cv ad))).length = As.length := by rw [tw_sl]; simp
  have hl := lv_entry (As.map (tw_cv ad)) (n := nL) (by rw [hlen]; exact hn)
  rw [lg_entry_eq]
  generalize (lg_sl (As.map (tw_cv ad)) ++ List.replicate (nL - (lg_sl (As.map (tw_cv ad))).length) Slot.unset).toArray = ls at hl ⊢
  have hat : ∀ (i : Nat) (v : tw_v), L0[i]? = some (some v) → As[i]? = some v := fun i v h => by
    rw [← hL0] at h
    by_cases hi : i < As.length
    · rw [List.getElem?_append_left (by simpa using hi)] at h
      simpa using h
    · rw [List.getElem?_append_right (by simpa using hi)] at h
      have := List.eq_of_mem_replicate (List.mem_of_getElem? h)
      cases this
  have hlr : tw_lr ad ls c.maxLocals L0 := ⟨by rw [hml]; exact hl.1, hl.2.1, fun i v h => by
    have h2 := tw_args ad As 0 i v (hat i v h)
    rw [Nat.zero_add] at h2
    exact hl.2.2 _ h2⟩
  have hB := body (p, e, (headSpec (Cond.code y cc nL ret :: Wg) (tw_rm d)).room, s, m, (As.map (tw_cv ad)).toArray, below, meth, c) ⟨hx, hb, ho, fun w h => hts w (List.mem_cons_of_mem _ h), hK, hr, hlocks, rfl, hml, hNs⟩
  exact hB (fun i v h => hAs v (List.mem_of_getElem? (hat i v h))) (fun v h => by cases h) hM hN s.heap [] ls hP hD va_S.rf hlr
theorem tw_le_0 {b : List (Option tw_v)} : tw_le [] b := trivial
theorem tw_le_n {a b : List (Option tw_v)} {x : Option tw_v} (h : tw_le a b) : tw_le (none :: a) (x :: b) := h
theorem tw_le_s {a b : List (Option tw_v)} {v : tw_v} (h : tw_le a b) : tw_le (some v :: a) (some v :: b) := ⟨rfl, h⟩
end
section
section TWROWS
variable {Y : tw_Y} {Z : tw_Z} {Post : tw_P} {pc : Nat} {L L' : List (Option tw_v)} {S : List tw_v} {mem mem' : List tw_c} {cc : ByteArray} {own : String} {Ts : List Cond} {ret : Option FieldType} {d nL : Nat}
theorem tw_iconst {n : Int} (hX : tw_cx Y Z cc own Ts ret d nL) (hd : decode cc pc = .ok (.iconst n, 1)) (hn : tw_rg n) (k : tw_rn Y Z Post (pc + 1) L (.inl n :: S) mem) : tw_rn Y Z Post pc L (S) mem := by
  obtain ⟨l, D, cl, ad, N, cI, cZ, Ns⟩ := Y
  obtain ⟨p, e, R, s, m, args, below, meth, c⟩ := Z
  obtain ⟨hx, hb, ho, hts, hK, hret, hlk, hR, hnL, hNs⟩ := hX
  intro hL hS hM hN H locs ls hP hD hSt hl
  exact lv_iconst hx hb hd rfl (k hL (List.forall_mem_cons.mpr ⟨hn, hS⟩) hM hN H locs ls hP hD hSt hl)
theorem tw_bipush {n : Int} (hX : tw_cx Y Z cc own Ts ret d nL) (hd : decode cc pc = .ok (.bipush n, 2)) (hv : (Int8.ofInt n).toInt32 = tw_I n) (hn : tw_rg n) (k : tw_rn Y Z Post (pc + 2) L (.inl n :: S) mem) : tw_rn Y Z Post pc L (S) mem := by
  obtain ⟨l, D, cl, ad, N, cI, cZ, Ns⟩ := Y
  obtain ⟨p, e, R, s, m, args, below, meth, c⟩ := Z
  obtain ⟨hx, hb, ho, hts, hK, hret, hlk, hR, hnL, hNs⟩ := hX
  intro hL hS hM hN H locs ls hP hD hSt hl
  exact lv_bipush hx hb hd hv (k hL (List.forall_mem_cons.mpr ⟨hn, hS⟩) hM hN H locs ls hP hD hSt hl)
theorem tw_iload_n {j : Fin 4} {i : Nat} {z : Int} (hX : tw_cx Y Z cc own Ts ret d nL) (hd : decode cc pc = .ok (.iload_n j, 1)) (hi : (j : Nat) = i) (h0 : L[i]? = some (some (.inl z))) (k : tw_rn Y Z Post (pc + 1) L (.inl z :: S) mem) : tw_rn Y Z Post pc L (S) mem := by
  obtain ⟨l, D, cl, ad, N, cI, cZ, Ns⟩ := Y
  obtain ⟨p, e, R, s, m, args, below, meth, c⟩ := Z
  obtain ⟨hx, hb, ho, hts, hK, hret, hlk, hR, hnL, hNs⟩ := hX
  intro hL hS hM hN H locs ls hP hD hSt hl
  exact lv_iload_n hx hb hd hi (hl.2.2 i (.inl z) h0) (k hL (List.forall_mem_cons.mpr ⟨hL i _ h0, hS⟩) hM hN H locs ls hP hD hSt hl)
theorem tw_iload {i : Nat} {z : Int} (hX : tw_cx Y Z cc own Ts ret d nL) (hd : decode cc pc = .ok (.iload i, 2)) (h0 : L[i]? = some (some (.inl z))) (k : tw_rn Y Z Post (pc + 2) L (.inl z :: S) mem) : tw_rn Y Z Post pc L (S) mem := by
  obtain ⟨l, D, cl, ad, N, cI, cZ, Ns⟩ := Y
  obtain ⟨p, e, R, s, m, args, below, meth, c⟩ := Z
  obtain ⟨hx, hb, ho, hts, hK, hret, hlk, hR, hnL, hNs⟩ := hX
  intro hL hS hM hN H locs ls hP hD hSt hl
  exact lv_iload hx hb hd (hl.2.2 i (.inl z) h0) (k hL (List.forall_mem_cons.mpr ⟨hL i _ h0, hS⟩) hM hN H locs ls hP hD hSt hl)
theorem tw_aload_n {j : Fin 4} {i : Nat} {z : Nat} (hX : tw_cx Y Z cc own Ts ret d nL) (hd : decode cc pc = .ok (.aload_n j, 1)) (hi : (j : Nat) = i) (h0 : L[i]? = some (some (.inr z))) (k : tw_rn Y Z Post (pc + 1) L (.inr z :: S) mem) : tw_rn Y Z Post pc L (S) mem := by
  obtain ⟨l, D, cl, ad, N, cI, cZ, Ns⟩ := Y
  obtain ⟨p, e, R, s, m, args, below, meth, c⟩ := Z
  obtain ⟨hx, hb, ho, hts, hK, hret, hlk, hR, hnL, hNs⟩ := hX
  intro hL hS hM hN H locs ls hP hD hSt hl
  exact lv_aload_n hx hb hd hi (hl.2.2 i (.inr z) h0) (k hL (List.forall_mem_cons.mpr ⟨hL i _ h0, hS⟩) hM hN H locs ls hP hD hSt hl)
theorem tw_aload {i : Nat} {z : Nat} (hX : tw_cx Y Z cc own Ts ret d nL) (hd : decode cc pc = .ok (.aload i, 2)) (h0 : L[i]? = some (some (.inr z))) (k : tw_rn Y Z Post (pc + 2) L (.inr z :: S) mem) : tw_rn Y Z Post pc L (S) mem := by
  obtain ⟨l, D, cl, ad, N, cI, cZ, Ns⟩ := Y
  obtain ⟨p, e, R, s, m, args, below, meth, c⟩ := Z
  obtain ⟨hx, hb, ho, hts, hK, hret, hlk, hR, hnL, hNs⟩ := hX
  intro hL hS hM hN H locs ls hP hD hSt hl
  exact lv_aload hx hb hd (hl.2.2 i (.inr z) h0) (k hL (List.forall_mem_cons.mpr ⟨hL i _ h0, hS⟩) hM hN H locs ls hP hD hSt hl)
theorem tw_setl_ok {i : Nat} {v : tw_v} (h : ∀ (i : Nat) (v : tw_v), L[i]? = some (some v) → tw_okv v) (hv : tw_okv v) : ∀ (j : Nat) (w : tw_v), (L.set i (some v))[j]? = some (some w) → tw_okv w := fun j w hj => by
  rw [List.getElem?_set] at hj
  by_cases hij : i = j
  · rw [if_pos hij] at hj
    split at hj
    · cases hj; exact hv
    · cases hj
  · rw [if_neg hij] at hj
    exact h j w hj
theorem tw_istore_n {j : Fin 4} {i : Nat} {z : Int} (hX : tw_cx Y Z cc own Ts ret d nL) (hd : decode cc pc = .ok (.istore_n j, 1)) (hi : (j : Nat) = i) (hn : i < nL) (hL' : L.set i (some (.inl z)) = L') (k : tw_rn Y Z Post (pc + 1) L' S mem) : tw_rn Y Z Post pc L (.inl z :: S) mem := by
  obtain ⟨l, D, cl, ad, N, cI, cZ, Ns⟩ := Y
  obtain ⟨p, e, R, s, m, args, below, meth, c⟩ := Z
  obtain ⟨hx, hb, ho, hts, hK, hret, hlk, hR, hnL, hNs⟩ := hX
  intro hL hS hM hN H locs ls hP hD hSt hl
  subst hL'
  obtain ⟨h1, h2⟩ := List.forall_mem_cons.mp hS
  exact lv_istore_n hx hb hd hi (tw_lr_has hl) (by rw [hnL]; exact hn) rfl (fun ls' h' => k (tw_setl_ok hL h1) h2 hM hN H locs ls' hP hD hSt (tw_lr_set h'))
theorem tw_istore {i : Nat} {z : Int} (hX : tw_cx Y Z cc own Ts ret d nL) (hd : decode cc pc = .ok (.istore i, 2)) (hn : i < nL) (hL' : L.set i (some (.inl z)) = L') (k : tw_rn Y Z Post (pc + 2) L' S mem) : tw_rn Y Z Post pc L (.inl z :: S) mem := by
  obtain ⟨l, D, cl, ad, N, cI, cZ, Ns⟩ := Y
  obtain ⟨p, e, R, s, m, args, below, meth, c⟩ := Z
  obtain ⟨hx, hb, ho, hts, hK, hret, hlk, hR, hnL, hNs⟩ := hX
  intro hL hS hM hN H locs ls hP hD hSt hl
  subst hL'
  obtain ⟨h1, h2⟩ := List.forall_mem_cons.mp hS
  exact lv_istore hx hb hd (tw_lr_has hl) (by rw [hnL]; exact hn) rfl (fun ls' h' => k (tw_setl_ok hL h1) h2 hM hN H locs ls' hP hD hSt (tw_lr_set h'))
theorem tw_astore_n {j : Fin 4} {i : Nat} {z : Nat} (hX : tw_cx Y Z cc own Ts ret d nL) (hd : decode cc pc = .ok (.astore_n j, 1)) (hi : (j : Nat) = i) (hn : i < nL) (hL' : L.set i (some (.inr z)) = L') (k : tw_rn Y Z Post (pc + 1) L' S mem) : tw_rn Y Z Post pc L (.inr z :: S) mem := by
  obtain ⟨l, D, cl, ad, N, cI, cZ, Ns⟩ := Y
  obtain ⟨p, e, R, s, m, args, below, meth, c⟩ := Z
  obtain ⟨hx, hb, ho, hts, hK, hret, hlk, hR, hnL, hNs⟩ := hX
  intro hL hS hM hN H locs ls hP hD hSt hl
  subst hL'
  obtain ⟨h1, h2⟩ := List.forall_mem_cons.mp hS
  exact lv_astore_n hx hb hd hi (tw_lr_has hl) (by rw [hnL]; exact hn) rfl (fun ls' h' => k (tw_setl_ok hL h1) h2 hM hN H locs ls' hP hD hSt (tw_lr_set h'))
theorem tw_astore {i : Nat} {z : Nat} (hX : tw_cx Y Z cc own Ts ret d nL) (hd : decode cc pc = .ok (.astore i, 2)) (hn : i < nL) (hL' : L.set i (some (.inr z)) = L') (k : tw_rn Y Z Post (pc + 2) L' S mem) : tw_rn Y Z Post pc L (.inr z :: S) mem := by
  obtain ⟨l, D, cl, ad, N, cI, cZ, Ns⟩ := Y
  obtain ⟨p, e, R, s, m, args, below, meth, c⟩ := Z
  obtain ⟨hx, hb, ho, hts, hK, hret, hlk, hR, hnL, hNs⟩ := hX
  intro hL hS hM hN H locs ls hP hD hSt hl
  subst hL'
  obtain ⟨h1, h2⟩ := List.forall_mem_cons.mp hS
  exact lv_astore hx hb hd (tw_lr_has hl) (by rw [hnL]; exact hn) rfl (fun ls' h' => k (tw_setl_ok hL h1) h2 hM hN H locs ls' hP hD hSt (tw_lr_set h'))
theorem tw_iinc {i : Nat} {n z : Int} (hX : tw_cx Y Z cc own Ts ret d nL) (hd : decode cc pc = .ok (.iinc i n, 3)) (h0 : L[i]? = some (some (.inl z))) (hn : i < nL) (hr : tw_rg (z + n)) (hL' : L.set i (some (.inl (z + n))) = L') (k : tw_rn Y Z Post (pc + 3) L' S mem) : tw_rn Y Z Post pc L S mem := by
  obtain ⟨l, D, cl, ad, N, cI, cZ, Ns⟩ := Y
  obtain ⟨p, e, R, s, m, args, below, meth, c⟩ := Z
  obtain ⟨hx, hb, ho, hts, hK, hret, hlk, hR, hnL, hNs⟩ := hX
  intro hL hS hM hN H locs ls hP hD hSt hl
  subst hL'
  obtain ⟨j, hj⟩ := List.getElem?_of_mem (tw_prs_mem (ad := ad) (q := (i, tw_cv ad (.inl z))).mpr ⟨.inl z, h0, rfl⟩)
  exact lv_iinc hx hb hd (tw_lr_has hl) hj (tw_I_add z n) (by rw [hnL]; exact hn) rfl (fun ls' h' => k (tw_setl_ok hL hr) hS hM hN H locs ls' hP hD hSt (tw_lr_set (v := .inl (z + n)) h'))
theorem tw_iadd {a b : Int} (hX : tw_cx Y Z cc own Ts ret d nL) (hd : decode cc pc = .ok (.iadd, 1)) (hr : tw_rg (a + b)) (k : tw_rn Y Z Post (pc + 1) L (.inl (a + b) :: S) mem) : tw_rn Y Z Post pc L (.inl b :: .inl a :: S) mem := by
  obtain ⟨l, D, cl, ad, N, cI, cZ, Ns⟩ := Y
  obtain ⟨p, e, R, s, m, args, below, meth, c⟩ := Z
  obtain ⟨hx, hb, ho, hts, hK, hret, hlk, hR, hnL, hNs⟩ := hX
  intro hL hS hM hN H locs ls hP hD hSt hl
  obtain ⟨rb, h1⟩ := List.forall_mem_cons.mp hS
  obtain ⟨ra, h2⟩ := List.forall_mem_cons.mp h1
  have rb : tw_rg b := rb
  have ra : tw_rg a := ra
  refine lv_iadd hx hb hd ?_
  rw [tw_I_add a b]
  exact k hL (List.forall_mem_cons.mpr ⟨hr, h2⟩) hM hN H locs ls hP hD hSt hl
theorem tw_isub {a b : Int} (hX : tw_cx Y Z cc own Ts ret d nL) (hd : decode cc pc = .ok (.isub, 1)) (hr : tw_rg (a - b)) (k : tw_rn Y Z Post (pc + 1) L (.inl (a - b) :: S) mem) : tw_rn Y Z Post pc L (.inl b :: .inl a :: S) mem := by
  obtain ⟨l, D, cl, ad, N, cI, cZ, Ns⟩ := Y
  obtain ⟨p, e, R, s, m, args, below, meth, c⟩ := Z
  obtain ⟨hx, hb, ho, hts, hK, hret, hlk, hR, hnL, hNs⟩ := hX
  intro hL hS hM hN H locs ls hP hD hSt hl
  obtain ⟨rb, h1⟩ := List.forall_mem_cons.mp hS
  obtain ⟨ra, h2⟩ := List.forall_mem_cons.mp h1
  have rb : tw_rg b := rb
  have ra : tw_rg a := ra
  refine lv_isub hx hb hd ?_
  rw [tw_I_sub a b]
  exact k hL (List.forall_mem_cons.mpr ⟨hr, h2⟩) hM hN H locs ls hP hD hSt hl
theorem tw_idiv {a b : Int} (hX : tw_cx Y Z cc own Ts ret d nL) (hd : decode cc pc = .ok (.idiv, 1)) (h0 : 0 ≤ a) (hp : 0 < b) (k : tw_rn Y Z Post (pc + 1) L (.inl (a / b) :: S) mem) : tw_rn Y Z Post pc L (.inl b :: .inl a :: S) mem := by
  obtain ⟨l, D, cl, ad, N, cI, cZ, Ns⟩ := Y
  obtain ⟨p, e, R, s, m, args, below, meth, c⟩ := Z
  obtain ⟨hx, hb, ho, hts, hK, hret, hlk, hR, hnL, hNs⟩ := hX
  intro hL hS hM hN H locs ls hP hD hSt hl
  obtain ⟨rb, h1⟩ := List.forall_mem_cons.mp hS
  obtain ⟨ra, h2⟩ := List.forall_mem_cons.mp h1
  have rb : tw_rg b := rb
  have ra : tw_rg a := ra
  refine lv_idiv hx hb hd (tw_I_ne0 rb hp) ?_
  rw [tw_I_div ra rb h0 hp]
  exact k hL (List.forall_mem_cons.mpr ⟨tw_rg_div ra h0 hp, h2⟩) hM hN H locs ls hP hD hSt hl
theorem tw_irem {a b : Int} (hX : tw_cx Y Z cc own Ts ret d nL) (hd : decode cc pc = .ok (.irem, 1)) (h0 : 0 ≤ a) (hp : 0 < b) (k : tw_rn Y Z Post (pc + 1) L (.inl (a % b) :: S) mem) : tw_rn Y Z Post pc L (.inl b :: .inl a :: S) mem := by
  obtain ⟨l, D, cl, ad, N, cI, cZ, Ns⟩ := Y
  obtain ⟨p, e, R, s, m, args, below, meth, c⟩ := Z
  obtain ⟨hx, hb, ho, hts, hK, hret, hlk, hR, hnL, hNs⟩ := hX
  intro hL hS hM hN H locs ls hP hD hSt hl
  obtain ⟨rb, h1⟩ := List.forall_mem_cons.mp hS
  obtain ⟨ra, h2⟩ := List.forall_mem_cons.mp h1
  have rb : tw_rg b := rb
  have ra : tw_rg a := ra
  refine lv_irem hx hb hd (tw_I_ne0 rb hp) ?_
  rw [tw_I_rem ra rb h0 hp]
  exact k hL (List.forall_mem_cons.mpr ⟨tw_rg_mod rb hp, h2⟩) hM hN H locs ls hP hD hSt hl
theorem tw_iand1 {a : Int} (hX : tw_cx Y Z cc own Ts ret d nL) (hd : decode cc pc = .ok (.iand, 1)) (h0 : 0 ≤ a) (k : tw_rn Y Z Post (pc + 1) L (.inl (a % 2) :: S) mem) : tw_rn Y Z Post pc L (.inl 1 :: .inl a :: S) mem := by
  obtain ⟨l, D, cl, ad, N, cI, cZ, Ns⟩ := Y
  obtain ⟨p, e, R, s, m, args, below, meth, c⟩ := Z
  obtain ⟨hx, hb, ho, hts, hK, hret, hlk, hR, hnL, hNs⟩ := hX
  intro hL hS hM hN H locs ls hP hD hSt hl
  obtain ⟨rb, h1⟩ := List.forall_mem_cons.mp hS
  obtain ⟨ra, h2⟩ := List.forall_mem_cons.mp h1
  have ra : tw_rg a := ra
  refine lv_iand hx hb hd ?_
  rw [tw_I_and1 ra h0]
  exact k hL (List.forall_mem_cons.mpr ⟨tw_rg_mod (b := 2) (by unfold tw_rg; omega) (by omega), h2⟩) hM hN H locs ls hP hD hSt hl
theorem tw_ineg {a : Int} (hX : tw_cx Y Z cc own Ts ret d nL) (hd : decode cc pc = .ok (.ineg, 1)) (hr : tw_rg (-a)) (k : tw_rn Y Z Post (pc + 1) L (.inl (-a) :: S) mem) : tw_rn Y Z Post pc L (.inl a :: S) mem := by
  obtain ⟨l, D, cl, ad, N, cI, cZ, Ns⟩ := Y
  obtain ⟨p, e, R, s, m, args, below, meth, c⟩ := Z
  obtain ⟨hx, hb, ho, hts, hK, hret, hlk, hR, hnL, hNs⟩ := hX
  intro hL hS hM hN H locs ls hP hD hSt hl
  obtain ⟨ra, h2⟩ := List.forall_mem_cons.mp hS
  refine lv_ineg hx hb hd ?_
  rw [tw_I_neg a]
  exact k hL (List.forall_mem_cons.mpr ⟨hr, h2⟩) hM hN H locs ls hP hD hSt hl
theorem tw_dup {x : tw_v} (hX : tw_cx Y Z cc own Ts ret d nL) (hd : decode cc pc = .ok (.dup, 1)) (k : tw_rn Y Z Post (pc + 1) L (x :: x :: S) mem) : tw_rn Y Z Post pc L (x :: S) mem := by
  obtain ⟨l, D, cl, ad, N, cI, cZ, Ns⟩ := Y
  obtain ⟨p, e, R, s, m, args, below, meth, c⟩ := Z
  obtain ⟨hx, hb, ho, hts, hK, hret, hlk, hR, hnL, hNs⟩ := hX
  intro hL hS hM hN H locs ls hP hD hSt hl
  obtain ⟨o0, h0⟩ := List.forall_mem_cons.mp hS
  exact lv_dup hx hb hd (tw_cat ad x) (k hL (List.forall_mem_cons.mpr ⟨o0, (List.forall_mem_cons.mpr ⟨o0, h0⟩)⟩) hM hN H locs ls hP hD hSt hl)
theorem tw_pop {x : tw_v} (hX : tw_cx Y Z cc own Ts ret d nL) (hd : decode cc pc = .ok (.pop, 1)) (k : tw_rn Y Z Post (pc + 1) L (S) mem) : tw_rn Y Z Post pc L (x :: S) mem := by
  obtain ⟨l, D, cl, ad, N, cI, cZ, Ns⟩ := Y
  obtain ⟨p, e, R, s, m, args, below, meth, c⟩ := Z
  obtain ⟨hx, hb, ho, hts, hK, hret, hlk, hR, hnL, hNs⟩ := hX
  intro hL hS hM hN H locs ls hP hD hSt hl
  obtain ⟨o0, h0⟩ := List.forall_mem_cons.mp hS
  exact lv_pop hx hb hd (tw_cat ad x) (k hL h0 hM hN H locs ls hP hD hSt hl)
theorem tw_dup_x1 {x y : tw_v} (hX : tw_cx Y Z cc own Ts ret d nL) (hd : decode cc pc = .ok (.dup_x1, 1)) (k : tw_rn Y Z Post (pc + 1) L (x :: y :: x :: S) mem) : tw_rn Y Z Post pc L (x :: y :: S) mem := by
  obtain ⟨l, D, cl, ad, N, cI, cZ, Ns⟩ := Y
  obtain ⟨p, e, R, s, m, args, below, meth, c⟩ := Z
  obtain ⟨hx, hb, ho, hts, hK, hret, hlk, hR, hnL, hNs⟩ := hX
  intro hL hS hM hN H locs ls hP hD hSt hl
  obtain ⟨o0, h0⟩ := List.forall_mem_cons.mp hS
  obtain ⟨o1, h1⟩ := List.forall_mem_cons.mp h0
  exact lv_dup_x1 hx hb hd (tw_cat ad x) (tw_cat ad y) (k hL (List.forall_mem_cons.mpr ⟨o0, (List.forall_mem_cons.mpr ⟨o1, (List.forall_mem_cons.mpr ⟨o0, h1⟩)⟩)⟩) hM hN H locs ls hP hD hSt hl)
theorem tw_dup2 {x y : tw_v} (hX : tw_cx Y Z cc own Ts ret d nL) (hd : decode cc pc = .ok (.dup2, 1)) (k : tw_rn Y Z Post (pc + 1) L (x :: y :: x :: y :: S) mem) : tw_rn Y Z Post pc L (x :: y :: S) mem := by
  obtain ⟨l, D, cl, ad, N, cI, cZ, Ns⟩ := Y
  obtain ⟨p, e, R, s, m, args, below, meth, c⟩ := Z
  obtain ⟨hx, hb, ho, hts, hK, hret, hlk, hR, hnL, hNs⟩ := hX
  intro hL hS hM hN H locs ls hP hD hSt hl
  obtain ⟨o0, h0⟩ := List.forall_mem_cons.mp hS
  obtain ⟨o1, h1⟩ := List.forall_mem_cons.mp h0
  exact lv_dup2_11 hx hb hd (tw_cat ad x) (tw_cat ad y) (k hL (List.forall_mem_cons.mpr ⟨o0, (List.forall_mem_cons.mpr ⟨o1, (List.forall_mem_cons.mpr ⟨o0, (List.forall_mem_cons.mpr ⟨o1, h1⟩)⟩)⟩)⟩) hM hN H locs ls hP hD hSt hl)
theorem tw_icmp_eq {a b off : Int} {tgt : Nat} (hX : tw_cx Y Z cc own Ts ret d nL) (hd : decode cc pc = .ok (.if_icmp .eq off, 3)) (ht : (pc : Int) + off = (tgt : Int)) (kt : a = b → tw_rn Y Z Post tgt L S mem) (kf : ¬ a = b → tw_rn Y Z Post (pc + 3) L S mem) : tw_rn Y Z Post pc L (.inl b :: .inl a :: S) mem := by
  obtain ⟨l, D, cl, ad, N, cI, cZ, Ns⟩ := Y
  obtain ⟨p, e, R, s, m, args, below, meth, c⟩ := Z
  obtain ⟨hx, hb, ho, hts, hK, hret, hlk, hR, hnL, hNs⟩ := hX
  intro hL hS hM hN H locs ls hP hD hSt hl
  obtain ⟨rb, h1⟩ := List.forall_mem_cons.mp hS
  obtain ⟨ra, h2⟩ := List.forall_mem_cons.mp h1
  have rb : tw_rg b := rb
  have ra : tw_rg a := ra
  exact lv_icmp_eq hx hb hd ht (fun h => kt ((tw_I_eq ra rb).mp h) hL h2 hM hN H locs ls hP hD hSt hl) (fun h => kf (fun q => h ((tw_I_eq ra rb).mpr q)) hL h2 hM hN H locs ls hP hD hSt hl)
theorem tw_icmp_ne {a b off : Int} {tgt : Nat} (hX : tw_cx Y Z cc own Ts ret d nL) (hd : decode cc pc = .ok (.if_icmp .ne off, 3)) (ht : (pc : Int) + off = (tgt : Int)) (kt : ¬ a = b → tw_rn Y Z Post tgt L S mem) (kf : a = b → tw_rn Y Z Post (pc + 3) L S mem) : tw_rn Y Z Post pc L (.inl b :: .inl a :: S) mem := by
  obtain ⟨l, D, cl, ad, N, cI, cZ, Ns⟩ := Y
  obtain ⟨p, e, R, s, m, args, below, meth, c⟩ := Z
  obtain ⟨hx, hb, ho, hts, hK, hret, hlk, hR, hnL, hNs⟩ := hX
  intro hL hS hM hN H locs ls hP hD hSt hl
  obtain ⟨rb, h1⟩ := List.forall_mem_cons.mp hS
  obtain ⟨ra, h2⟩ := List.forall_mem_cons.mp h1
  have rb : tw_rg b := rb
  have ra : tw_rg a := ra
  exact lv_icmp_ne hx hb hd ht (fun h => kt (fun q => h ((tw_I_eq ra rb).mpr q)) hL h2 hM hN H locs ls hP hD hSt hl) (fun h => kf ((tw_I_eq ra rb).mp h) hL h2 hM hN H locs ls hP hD hSt hl)
theorem tw_icmp_lt {a b off : Int} {tgt : Nat} (hX : tw_cx Y Z cc own Ts ret d nL) (hd : decode cc pc = .ok (.if_icmp .lt off, 3)) (ht : (pc : Int) + off = (tgt : Int)) (kt : a < b → tw_rn Y Z Post tgt L S mem) (kf : ¬ a < b → tw_rn Y Z Post (pc + 3) L S mem) : tw_rn Y Z Post pc L (.inl b :: .inl a :: S) mem := by
  obtain ⟨l, D, cl, ad, N, cI, cZ, Ns⟩ := Y
  obtain ⟨p, e, R, s, m, args, below, meth, c⟩ := Z
  obtain ⟨hx, hb, ho, hts, hK, hret, hlk, hR, hnL, hNs⟩ := hX
  intro hL hS hM hN H locs ls hP hD hSt hl
  obtain ⟨rb, h1⟩ := List.forall_mem_cons.mp hS
  obtain ⟨ra, h2⟩ := List.forall_mem_cons.mp h1
  have rb : tw_rg b := rb
  have ra : tw_rg a := ra
  exact lv_icmp_lt hx hb hd ht (fun h => kt ((tw_I_lt ra rb).mp h) hL h2 hM hN H locs ls hP hD hSt hl) (fun h => kf (fun q => h ((tw_I_lt ra rb).mpr q)) hL h2 hM hN H locs ls hP hD hSt hl)
theorem tw_icmp_ge {a b off : Int} {tgt : Nat} (hX : tw_cx Y Z cc own Ts ret d nL) (hd : decode cc pc = .ok (.if_icmp .ge off, 3)) (ht : (pc : Int) + off = (tgt : Int)) (kt : b ≤ a → tw_rn Y Z Post tgt L S mem) (kf : ¬ b ≤ a → tw_rn Y Z Post (pc + 3) L S mem) : tw_rn Y Z Post pc L (.inl b :: .inl a :: S) mem := by
  obtain ⟨l, D, cl, ad, N, cI, cZ, Ns⟩ := Y
  obtain ⟨p, e, R, s, m, args, below, meth, c⟩ := Z
  obtain ⟨hx, hb, ho, hts, hK, hret, hlk, hR, hnL, hNs⟩ := hX
  intro hL hS hM hN H locs ls hP hD hSt hl
  obtain ⟨rb, h1⟩ := List.forall_mem_cons.mp hS
  obtain ⟨ra, h2⟩ := List.forall_mem_cons.mp h1
  have rb : tw_rg b := rb
  have ra : tw_rg a := ra
  exact lv_icmp_ge hx hb hd ht (fun h => kt ((tw_I_le rb ra).mp h) hL h2 hM hN H locs ls hP hD hSt hl) (fun h => kf (fun q => h ((tw_I_le rb ra).mpr q)) hL h2 hM hN H locs ls hP hD hSt hl)
theorem tw_icmp_gt {a b off : Int} {tgt : Nat} (hX : tw_cx Y Z cc own Ts ret d nL) (hd : decode cc pc = .ok (.if_icmp .gt off, 3)) (ht : (pc : Int) + off = (tgt : Int)) (kt : b < a → tw_rn Y Z Post tgt L S mem) (kf : ¬ b < a → tw_rn Y Z Post (pc + 3) L S mem) : tw_rn Y Z Post pc L (.inl b :: .inl a :: S) mem := by
  obtain ⟨l, D, cl, ad, N, cI, cZ, Ns⟩ := Y
  obtain ⟨p, e, R, s, m, args, below, meth, c⟩ := Z
  obtain ⟨hx, hb, ho, hts, hK, hret, hlk, hR, hnL, hNs⟩ := hX
  intro hL hS hM hN H locs ls hP hD hSt hl
  obtain ⟨rb, h1⟩ := List.forall_mem_cons.mp hS
  obtain ⟨ra, h2⟩ := List.forall_mem_cons.mp h1
  have rb : tw_rg b := rb
  have ra : tw_rg a := ra
  exact lv_icmp_gt hx hb hd ht (fun h => kt ((tw_I_lt rb ra).mp h) hL h2 hM hN H locs ls hP hD hSt hl) (fun h => kf (fun q => h ((tw_I_lt rb ra).mpr q)) hL h2 hM hN H locs ls hP hD hSt hl)
theorem tw_icmp_le {a b off : Int} {tgt : Nat} (hX : tw_cx Y Z cc own Ts ret d nL) (hd : decode cc pc = .ok (.if_icmp .le off, 3)) (ht : (pc : Int) + off = (tgt : Int)) (kt : a ≤ b → tw_rn Y Z Post tgt L S mem) (kf : ¬ a ≤ b → tw_rn Y Z Post (pc + 3) L S mem) : tw_rn Y Z Post pc L (.inl b :: .inl a :: S) mem := by
  obtain ⟨l, D, cl, ad, N, cI, cZ, Ns⟩ := Y
  obtain ⟨p, e, R, s, m, args, below, meth, c⟩ := Z
  obtain ⟨hx, hb, ho, hts, hK, hret, hlk, hR, hnL, hNs⟩ := hX
  intro hL hS hM hN H locs ls hP hD hSt hl
  obtain ⟨rb, h1⟩ := List.forall_mem_cons.mp hS
  obtain ⟨ra, h2⟩ := List.forall_mem_cons.mp h1
  have rb : tw_rg b := rb
  have ra : tw_rg a := ra
  exact lv_icmp_le hx hb hd ht (fun h => kt ((tw_I_le ra rb).mp h) hL h2 hM hN H locs ls hP hD hSt hl) (fun h => kf (fun q => h ((tw_I_le ra rb).mpr q)) hL h2 hM hN H locs ls hP hD hSt hl)
theorem tw_if_eq {a off : Int} {tgt : Nat} (hX : tw_cx Y Z cc own Ts ret d nL) (hd : decode cc pc = .ok (.ifCond .eq off, 3)) (ht : (pc : Int) + off = (tgt : Int)) (kt : a = 0 → tw_rn Y Z Post tgt L S mem) (kf : ¬ a = 0 → tw_rn Y Z Post (pc + 3) L S mem) : tw_rn Y Z Post pc L (.inl a :: S) mem := by
  obtain ⟨l, D, cl, ad, N, cI, cZ, Ns⟩ := Y
  obtain ⟨p, e, R, s, m, args, below, meth, c⟩ := Z
  obtain ⟨hx, hb, ho, hts, hK, hret, hlk, hR, hnL, hNs⟩ := hX
  intro hL hS hM hN H locs ls hP hD hSt hl
  obtain ⟨ra, h2⟩ := List.forall_mem_cons.mp hS
  have ra : tw_rg a := ra
  exact lv_if_eq hx hb hd ht (fun h => kt ((tw_I_eq0 ra).mp h) hL h2 hM hN H locs ls hP hD hSt hl) (fun h => kf (fun q => h ((tw_I_eq0 ra).mpr q)) hL h2 hM hN H locs ls hP hD hSt hl)
theorem tw_if_ne {a off : Int} {tgt : Nat} (hX : tw_cx Y Z cc own Ts ret d nL) (hd : decode cc pc = .ok (.ifCond .ne off, 3)) (ht : (pc : Int) + off = (tgt : Int)) (kt : ¬ a = 0 → tw_rn Y Z Post tgt L S mem) (kf : a = 0 → tw_rn Y Z Post (pc + 3) L S mem) : tw_rn Y Z Post pc L (.inl a :: S) mem := by
  obtain ⟨l, D, cl, ad, N, cI, cZ, Ns⟩ := Y
  obtain ⟨p, e, R, s, m, args, below, meth, c⟩ := Z
  obtain ⟨hx, hb, ho, hts, hK, hret, hlk, hR, hnL, hNs⟩ := hX
  intro hL hS hM hN H locs ls hP hD hSt hl
  obtain ⟨ra, h2⟩ := List.forall_mem_cons.mp hS
  have ra : tw_rg a := ra
  exact lv_if_ne hx hb hd ht (fun h => kt (fun q => h ((tw_I_eq0 ra).mpr q)) hL h2 hM hN H locs ls hP hD hSt hl) (fun h => kf ((tw_I_eq0 ra).mp h) hL h2 hM hN H locs ls hP hD hSt hl)
theorem tw_if_lt {a off : Int} {tgt : Nat} (hX : tw_cx Y Z cc own Ts ret d nL) (hd : decode cc pc = .ok (.ifCond .lt off, 3)) (ht : (pc : Int) + off = (tgt : Int)) (kt : a < 0 → tw_rn Y Z Post tgt L S mem) (kf : ¬ a < 0 → tw_rn Y Z Post (pc + 3) L S mem) : tw_rn Y Z Post pc L (.inl a :: S) mem := by
  obtain ⟨l, D, cl, ad, N, cI, cZ, Ns⟩ := Y
  obtain ⟨p, e, R, s, m, args, below, meth, c⟩ := Z
  obtain ⟨hx, hb, ho, hts, hK, hret, hlk, hR, hnL, hNs⟩ := hX
  intro hL hS hM hN H locs ls hP hD hSt hl
  obtain ⟨ra, h2⟩ := List.forall_mem_cons.mp hS
  have ra : tw_rg a := ra
  exact lv_if_lt hx hb hd ht (fun h => kt ((tw_I_lt0 ra).mp h) hL h2 hM hN H locs ls hP hD hSt hl) (fun h => kf (fun q => h ((tw_I_lt0 ra).mpr q)) hL h2 hM hN H locs ls hP hD hSt hl)
theorem tw_if_ge {a off : Int} {tgt : Nat} (hX : tw_cx Y Z cc own Ts ret d nL) (hd : decode cc pc = .ok (.ifCond .ge off, 3)) (ht : (pc : Int) + off = (tgt : Int)) (kt : 0 ≤ a → tw_rn Y Z Post tgt L S mem) (kf : ¬ 0 ≤ a → tw_rn Y Z Post (pc + 3) L S mem) : tw_rn Y Z Post pc L (.inl a :: S) mem := by
  obtain ⟨l, D, cl, ad, N, cI, cZ, Ns⟩ := Y
  obtain ⟨p, e, R, s, m, args, below, meth, c⟩ := Z
  obtain ⟨hx, hb, ho, hts, hK, hret, hlk, hR, hnL, hNs⟩ := hX
  intro hL hS hM hN H locs ls hP hD hSt hl
  obtain ⟨ra, h2⟩ := List.forall_mem_cons.mp hS
  have ra : tw_rg a := ra
  exact lv_if_ge hx hb hd ht (fun h => kt ((tw_I_ge0 ra).mp h) hL h2 hM hN H locs ls hP hD hSt hl) (fun h => kf (fun q => h ((tw_I_ge0 ra).mpr q)) hL h2 hM hN H locs ls hP hD hSt hl)
theorem tw_if_gt {a off : Int} {tgt : Nat} (hX : tw_cx Y Z cc own Ts ret d nL) (hd : decode cc pc = .ok (.ifCond .gt off, 3)) (ht : (pc : Int) + off = (tgt : Int)) (kt : 0 < a → tw_rn Y Z Post tgt L S mem) (kf : ¬ 0 < a → tw_rn Y Z Post (pc + 3) L S mem) : tw_rn Y Z Post pc L (.inl a :: S) mem := by
  obtain ⟨l, D, cl, ad, N, cI, cZ, Ns⟩ := Y
  obtain ⟨p, e, R, s, m, args, below, meth, c⟩ := Z
  obtain ⟨hx, hb, ho, hts, hK, hret, hlk, hR, hnL, hNs⟩ := hX
  intro hL hS hM hN H locs ls hP hD hSt hl
  obtain ⟨ra, h2⟩ := List.forall_mem_cons.mp hS
  have ra : tw_rg a := ra
  exact lv_if_gt hx hb hd ht (fun h => kt ((tw_I_gt0 ra).mp h) hL h2 hM hN H locs ls hP hD hSt hl) (fun h => kf (fun q => h ((tw_I_gt0 ra).mpr q)) hL h2 hM hN H locs ls hP hD hSt hl)
theorem tw_if_le {a off : Int} {tgt : Nat} (hX : tw_cx Y Z cc own Ts ret d nL) (hd : decode cc pc = .ok (.ifCond .le off, 3)) (ht : (pc : Int) + off = (tgt : Int)) (kt : a ≤ 0 → tw_rn Y Z Post tgt L S mem) (kf : ¬ a ≤ 0 → tw_rn Y Z Post (pc + 3) L S mem) : tw_rn Y Z Post pc L (.inl a :: S) mem := by
  obtain ⟨l, D, cl, ad, N, cI, cZ, Ns⟩ := Y
  obtain ⟨p, e, R, s, m, args, below, meth, c⟩ := Z
  obtain ⟨hx, hb, ho, hts, hK, hret, hlk, hR, hnL, hNs⟩ := hX
  intro hL hS hM hN H locs ls hP hD hSt hl
  obtain ⟨ra, h2⟩ := List.forall_mem_cons.mp hS
  have ra : tw_rg a := ra
  exact lv_if_le hx hb hd ht (fun h => kt ((tw_I_le0 ra).mp h) hL h2 hM hN H locs ls hP hD hSt hl) (fun h => kf (fun q => h ((tw_I_le0 ra).mpr q)) hL h2 hM hN H locs ls hP hD hSt hl)
theorem tw_goto {off : Int} {tgt : Nat} (hX : tw_cx Y Z cc own Ts ret d nL) (hd : decode cc pc = .ok (.goto off, 3)) (ht : (pc : Int) + off = (tgt : Int)) (k : tw_rn Y Z Post tgt L S mem) : tw_rn Y Z Post pc L S mem := by
  obtain ⟨l, D, cl, ad, N, cI, cZ, Ns⟩ := Y
  obtain ⟨p, e, R, s, m, args, below, meth, c⟩ := Z
  obtain ⟨hx, hb, ho, hts, hK, hret, hlk, hR, hnL, hNs⟩ := hX
  intro hL hS hM hN H locs ls hP hD hSt hl
  exact lv_goto hx hb hd ht (k hL hS hM hN H locs ls hP hD hSt hl)
theorem tw_wk (h : tw_le L' L) (k : tw_rn Y Z Post pc L' S mem) : tw_rn Y Z Post pc L S mem := by
  obtain ⟨l, D, cl, ad, N, cI, cZ, Ns⟩ := Y
  obtain ⟨p, e, R, s, m, args, below, meth, c⟩ := Z
  intro hL hS hM hN H locs ls hP hD hSt hl
  exact k (fun i v hi => hL i v (tw_le_at L' L h i v hi)) hS hM hN H locs ls hP hD hSt ⟨hl.1, hl.2.1, fun i v hi => hl.2.2 i v (tw_le_at L' L h i v hi)⟩
/-- in range, from the walk's own start -/
theorem tw_rgs {a : Int} (k : tw_rg a → tw_rn Y Z Post pc L (.inl a :: S) mem) : tw_rn Y Z Post pc L (.inl a :: S) mem := by
  obtain ⟨l, D, cl, ad, N, cI, cZ, Ns⟩ := Y
  obtain ⟨p, e, R, s, m, args, below, meth, c⟩ := Z
  intro hL hS hM hN H locs ls hP hD hSt hl
  exact k (List.forall_mem_cons.mp hS).1 hL hS hM hN H locs ls hP hD hSt hl
theorem tw_iaload {i : Int} {q n : Nat} {f : Nat → Int} (hX : tw_cx Y Z cc own Ts ret d nL) (hd : decode cc pc = .ok (.iaload, 1)) (hq : mem[q]? = some (.inl (false, n, f))) (h0 : 0 ≤ i ∧ i < (n : Int)) (k : tw_rn Y Z Post (pc + 1) L (.inl (f i.toNat) :: S) mem) : tw_rn Y Z Post pc L (.inl i :: .inr q :: S) mem := by
  obtain ⟨l, D, cl, ad, N, cI, cZ, Ns⟩ := Y
  obtain ⟨p, e, R, s, m, args, below, meth, c⟩ := Z
  obtain ⟨hx, hb, ho, hts, hK, hret, hlk, hR, hnL, hNs⟩ := hX
  intro hL hS hM hN H locs ls hP hD hSt hl
  obtain ⟨ri, h1⟩ := List.forall_mem_cons.mp hS
  obtain ⟨-, h2⟩ := List.forall_mem_cons.mp h1
  have ri : tw_rg i := ri
  refine va_iald hx hb hK hP q 0 (tw_wl_at hq) rfl (tw_I_in ri h0.1 h0.2) hd ?_
  rw [tw_I_cl ri]
  have hf : tw_rg (f i.toNat) := hM _ (List.mem_of_getElem? hq) i.toNat
  exact k hL (List.forall_mem_cons.mpr ⟨hf, h2⟩) hM hN H locs ls hP hD hSt hl
theorem tw_baload {i : Int} {q n : Nat} {f : Nat → Int} (hX : tw_cx Y Z cc own Ts ret d nL) (hd : decode cc pc = .ok (.baload, 1)) (hq : mem[q]? = some (.inl (true, n, f))) (h0 : 0 ≤ i ∧ i < (n : Int)) (k : tw_rn Y Z Post (pc + 1) L (.inl (f i.toNat) :: S) mem) : tw_rn Y Z Post pc L (.inl i :: .inr q :: S) mem := by
  obtain ⟨l, D, cl, ad, N, cI, cZ, Ns⟩ := Y
  obtain ⟨p, e, R, s, m, args, below, meth, c⟩ := Z
  obtain ⟨hx, hb, ho, hts, hK, hret, hlk, hR, hnL, hNs⟩ := hX
  intro hL hS hM hN H locs ls hP hD hSt hl
  obtain ⟨ri, h1⟩ := List.forall_mem_cons.mp hS
  obtain ⟨-, h2⟩ := List.forall_mem_cons.mp h1
  have ri : tw_rg i := ri
  refine va_zald hx hb hK hP q 1 (tw_wl_at hq) rfl (tw_I_in ri h0.1 h0.2) hd ?_
  rw [tw_I_cl ri]
  have hf : tw_rg (f i.toNat) := hM _ (List.mem_of_getElem? hq) i.toNat
  exact k hL (List.forall_mem_cons.mpr ⟨hf, h2⟩) hM hN H locs ls hP hD hSt hl
theorem tw_iastore {i x : Int} {q n : Nat} {f : Nat → Int} (hX : tw_cx Y Z cc own Ts ret d nL) (hd : decode cc pc = .ok (.iastore, 1)) (hq : mem[q]? = some (.inl (false, n, f))) (h0 : 0 ≤ i ∧ i < (n : Int)) (hm : mem.set q (.inl (false, n, tw_up f i.toNat x)) = mem') (k : tw_rn Y Z Post (pc + 1) L S mem') : tw_rn Y Z Post pc L (.inl x :: .inl i :: .inr q :: S) mem := by
  obtain ⟨l, D, cl, ad, N, cI, cZ, Ns⟩ := Y
  obtain ⟨p, e, R, s, m, args, below, meth, c⟩ := Z
  obtain ⟨hx, hb, ho, hts, hK, hret, hlk, hR, hnL, hNs⟩ := hX
  intro hL hS hM hN H locs ls hP hD hSt hl
  subst hm
  obtain ⟨rx, h1⟩ := List.forall_mem_cons.mp hS
  obtain ⟨ri, h2⟩ := List.forall_mem_cons.mp h1
  obtain ⟨-, h3⟩ := List.forall_mem_cons.mp h2
  have ri : tw_rg i := ri
  have rx : tw_rg x := rx
  have hf : ∀ j, tw_rg (f j) := hM _ (List.mem_of_getElem? hq)
  refine va_iast hx hb hK hP hD hSt q 0 (tw_wl_at hq) rfl (tw_I_in ri h0.1 h0.2) hd (fun H1 locs1 hP1 hD1 hS1 => ?_)
  rw [tw_I_cl ri, tw_up_I] at hP1 hD1
  have e1 : (tw_wl ad cI cZ mem).set q (ad q, .inl (cI, n, .inl fun j => tw_I (tw_up f i.toNat x j))) = tw_wl ad cI cZ (mem.set q (.inl (false, n, tw_up f i.toNat x))) := tw_wl_set (c := .inl (false, n, tw_up f i.toNat x))
  have hP1 := e1 ▸ hP1
  have hD1 := e1 ▸ hD1
  exact k hL h3 (tw_set_ok hM (tw_up_ok hf rx)) (by rw [List.length_set]; exact hN) H1 locs1 ls hP1 hD1 hS1 hl
theorem tw_nz {x : Int} (h : 0 ≤ x ∧ x ≤ 1) : vp_nar .boolean (tw_I x) = tw_I x := by
  rcases (by omega : x = 0 ∨ x = 1) with rfl | rfl <;> rfl
theorem tw_bastore {i x : Int} {q n : Nat} {f : Nat → Int} (hX : tw_cx Y Z cc own Ts ret d nL) (hd : decode cc pc = .ok (.bastore, 1)) (hq : mem[q]? = some (.inl (true, n, f))) (h0 : 0 ≤ i ∧ i < (n : Int)) (hz : 0 ≤ x ∧ x ≤ 1) (hm : mem.set q (.inl (true, n, tw_up f i.toNat x)) = mem') (k : tw_rn Y Z Post (pc + 1) L S mem') : tw_rn Y Z Post pc L (.inl x :: .inl i :: .inr q :: S) mem := by
  obtain ⟨l, D, cl, ad, N, cI, cZ, Ns⟩ := Y
  obtain ⟨p, e, R, s, m, args, below, meth, c⟩ := Z
  obtain ⟨hx, hb, ho, hts, hK, hret, hlk, hR, hnL, hNs⟩ := hX
  intro hL hS hM hN H locs ls hP hD hSt hl
  subst hm
  obtain ⟨rx, h1⟩ := List.forall_mem_cons.mp hS
  obtain ⟨ri, h2⟩ := List.forall_mem_cons.mp h1
  obtain ⟨-, h3⟩ := List.forall_mem_cons.mp h2
  have ri : tw_rg i := ri
  have rx : tw_rg x := rx
  have hf : ∀ j, tw_rg (f j) := hM _ (List.mem_of_getElem? hq)
  refine va_zast hx hb hK hP hD hSt q 1 (tw_wl_at hq) rfl (tw_I_in ri h0.1 h0.2) hd (fun H1 locs1 hP1 hD1 hS1 => ?_)
  rw [tw_I_cl ri, tw_nz hz, tw_up_I] at hP1 hD1
  have e1 : (tw_wl ad cI cZ mem).set q (ad q, .inl (cZ, n, .inl fun j => tw_I (tw_up f i.toNat x j))) = tw_wl ad cI cZ (mem.set q (.inl (true, n, tw_up f i.toNat x))) := tw_wl_set (c := .inl (true, n, tw_up f i.toNat x))
  have hP1 := e1 ▸ hP1
  have hD1 := e1 ▸ hD1
  exact k hL h3 (tw_set_ok hM (tw_up_ok hf rx)) (by rw [List.length_set]; exact hN) H1 locs1 ls hP1 hD1 hS1 hl
theorem tw_ret {z : Int} (hX : tw_cx Y Z cc own Ts (some .int) d nL) (hd : decode cc pc = .ok (.ireturn, 1)) (k : Post (some z) mem) : tw_rn Y Z Post pc L [.inl z] mem := by
  obtain ⟨l, D, cl, ad, N, cI, cZ, Ns⟩ := Y
  obtain ⟨p, e, R, s, m, args, below, meth, c⟩ := Z
  obtain ⟨hx, hb, ho, hts, hK, hret, hlk, hR, hnL, hNs⟩ := hX
  intro hL hS hM hN H locs ls hP hD hSt hl
  obtain ⟨rz, -⟩ := List.forall_mem_cons.mp hS
  have rz : tw_rg z := rz
  exact W.iret (v := tw_I z) hx hb hret (fun t ht hW => ⟨⟨some z, mem, rfl, k, fun z' h => by cases h; exact rz, hM, hN, by rw [ht]; exact hP, va_K.moved hW.alike hK, hD⟩, hSt.F ht⟩) hSt.2.2 hd hlk
theorem tw_zret {z : Int} (hX : tw_cx Y Z cc own Ts (some .boolean) d nL) (hd : decode cc pc = .ok (.ireturn, 1)) (hz : 0 ≤ z ∧ z ≤ 1) (k : Post (some z) mem) : tw_rn Y Z Post pc L [.inl z] mem := by
  obtain ⟨l, D, cl, ad, N, cI, cZ, Ns⟩ := Y
  obtain ⟨p, e, R, s, m, args, below, meth, c⟩ := Z
  obtain ⟨hx, hb, ho, hts, hK, hret, hlk, hR, hnL, hNs⟩ := hX
  intro hL hS hM hN H locs ls hP hD hSt hl
  obtain ⟨rz, -⟩ := List.forall_mem_cons.mp hS
  have rz : tw_rg z := rz
  exact W.zret (v := tw_I z) hx hb hret (by rcases (by omega : z = 0 ∨ z = 1) with rfl | rfl <;> rfl) (fun t ht hW => ⟨⟨some z, mem, rfl, k, fun z' h => by cases h; exact rz, hM, hN, by rw [ht]; exact hP, va_K.moved hW.alike hK, hD⟩, hSt.F ht⟩) hSt.2.2 hd hlk
theorem tw_vret (hX : tw_cx Y Z cc own Ts none d nL) (hd : decode cc pc = .ok (.return_, 1)) (k : Post none mem) : tw_rn Y Z Post pc L [] mem := by
  obtain ⟨l, D, cl, ad, N, cI, cZ, Ns⟩ := Y
  obtain ⟨p, e, R, s, m, args, below, meth, c⟩ := Z
  obtain ⟨hx, hb, ho, hts, hK, hret, hlk, hR, hnL, hNs⟩ := hX
  intro hL hS hM hN H locs ls hP hD hSt hl
  exact W.vret hx hb hret (fun t ht hW => ⟨⟨none, mem, rfl, k, (fun z' h => by cases h), hM, hN, by rw [ht]; exact hP, va_K.moved hW.alike hK, hD⟩, hSt.F ht⟩) hSt.2.2 hd hlk
end TWROWS
end
section
section TWCALLS
variable {Y : tw_Y} {Z : tw_Z} {Post : tw_P} {pc : Nat} {L L' : List (Option tw_v)} {S : List tw_v} {mem mem' : List tw_c} {cc : ByteArray} {own : String} {Ts : List Cond} {ret : Option FieldType} {d nL : Nat}
def tw_cl (Y : tw_Y) : List vw_C := Y.2.2.1
def tw_ns (Y : tw_Y) : tw_N := Y.2.2.2.2.2.2.2
theorem tw_get {ref C : String} {T : u_T} {Nf ci index q kf : Nat} {fs : List tw_v} {v : tw_v} (hX : tw_cx Y Z cc own Ts ret d nL) (hd : decode cc pc = .ok (.getfield index, 3)) (hin : ∀ w ∈ u_ws C T Nf, w ∈ Ts) (hc : (tw_cl Y)[ci]? = some (C, T, Nf)) (hk : kf < Nf) (hlink : Cond.fieldLink own index ref (T kf).2.1 (T kf).2.2.1 ∈ Ts) (href : ref = (T kf).1) (hq : mem[q]? = some (.inr (ci, fs))) (hv : fs[kf]? = some v) (k : tw_rn Y Z Post (pc + 3) L (v :: S) mem) : tw_rn Y Z Post pc L (.inr q :: S) mem := by
  obtain ⟨l, D, cl, ad, N, cI, cZ, Ns⟩ := Y
  obtain ⟨p, e, R, s, m, args, below, meth, c⟩ := Z
  obtain ⟨hx, hb, ho, hts, hK, hret, hlk, hR, hnL, hNs⟩ := hX
  intro hL hS hM hN H locs ls hP hD hSt hl
  obtain ⟨-, h2⟩ := List.forall_mem_cons.mp hS
  have hc : cl[ci]? = some (C, T, Nf) := hc
  subst href
  have ov : tw_okv v := hM _ (List.mem_of_getElem? hq) v (List.mem_of_getElem? hv)
  exact va_get (v := tw_cv ad v) hx hb hts hin ho hK hP q (tw_wl_at hq) hc kf hk (hts _ hlink) (fun _ h => h) (by rw [List.getElem?_map, hv]; rfl) hd (k hL (List.forall_mem_cons.mpr ⟨ov, h2⟩) hM hN H locs ls hP hD hSt hl)
theorem tw_put {ref C : String} {T : u_T} {Nf ci index q kf : Nat} {fs : List tw_v} {x : Int} {ty : FieldType} (ty0 : Nat → FieldType) (hX : tw_cx Y Z cc own Ts ret d nL) (hd : decode cc pc = .ok (.putfield index, 3)) (hin : ∀ w ∈ u_ws C T Nf, w ∈ Ts) (hty : ∀ k, k < Nf → parseFieldDescriptor (T k).2.2.1 = some (ty0 k)) (hnm : ∀ a, a < Nf → ∀ b, b < Nf → a ≠ b → (T a).2.1 ≠ (T b).2.1) (hc : (tw_cl Y)[ci]? = some (C, T, Nf)) (hk : kf < Nf) (hlink : Cond.fieldLink own index ref (T kf).2.1 (T kf).2.2.1 ∈ Ts) (href : ref = (T kf).1) (hfin : (T kf).2.2.2 = false) (hdt : ty0 kf = ty) (hz : ty = .int ∨ (ty = .boolean ∧ 0 ≤ x ∧ x ≤ 1)) (hq : mem[q]? = some (.inr (ci, fs))) (hlf : kf < fs.length) (hm : mem.set q (.inr (ci, fs.set kf (.inl x))) = mem') (k : tw_rn Y Z Post (pc + 3) L S mem') : tw_rn Y Z Post pc L (.inl x :: .inr q :: S) mem := by
  obtain ⟨l, D, cl, ad, N, cI, cZ, Ns⟩ := Y
  obtain ⟨p, e, R, s, m, args, below, meth, c⟩ := Z
  obtain ⟨hx, hb, ho, hts, hK, hret, hlk, hR, hnL, hNs⟩ := hX
  intro hL hS hM hN H locs ls hP hD hSt hl
  obtain ⟨rx, h1⟩ := List.forall_mem_cons.mp hS
  obtain ⟨-, h2⟩ := List.forall_mem_cons.mp h1
  have hc : cl[ci]? = some (C, T, Nf) := hc
  subst href hm
  have of : ∀ v ∈ fs, tw_okv v := hM _ (List.mem_of_getElem? hq)
  have hn : narrow ty (.int (tw_I x)) = .int (tw_I x) ∧ fits ty (.int (tw_I x)) = true := by
    rcases hz with rfl | ⟨rfl, h3, h4⟩
    · exact ⟨rfl, rfl⟩
    · rcases (by omega : x = 0 ∨ x = 1) with rfl | rfl <;> exact ⟨rfl, rfl⟩
  refine va_put (v := .int (tw_I x)) hx hb hts hin ty0 hty hnm ho hK hP hD hSt q (tw_wl_at hq) hc kf hk (hts _ hlink) (fun _ h => h) hfin (by rw [hty kf hk, hdt]) hn.1 hn.2 (by rw [List.length_map]; exact hlf) hd (fun H1 locs1 hP1 hD1 hS1 => ?_)
  have e1 : (tw_wl ad cI cZ mem).set q (ad q, .inr (ci, (fs.map (tw_cv ad)).set kf (.int (tw_I x)))) = tw_wl ad cI cZ (mem.set q (.inr (ci, fs.set kf (.inl x)))) := by
    rw [← tw_wl_set]
    congr 3
    show _ = (ci, (fs.set kf (.inl x)).map (tw_cv ad))
    rw [List.map_set]
    rfl
  have hP1 := e1 ▸ hP1
  have hD1 := e1 ▸ hD1
  exact k hL h2 (tw_set_ok hM (tw_setv_ok of rx)) (by rw [List.length_set]; exact hN) H1 locs1 ls hP1 hD1 hS1 hl
/-- where a call goes on -/
abbrev tw_go (Y : tw_Y) (Z : tw_Z) (Post : tw_P) (pc : Nat) (L : List (Option tw_v)) (S : List tw_v) : tw_P := fun r mem => match r with
  | some z => tw_rn Y Z Post pc L (.inl z :: S) mem
  | none => tw_rn Y Z Post pc L S mem
theorem tw_cont {l : Launch} {D : va_G} {cl : List vw_C} {ad : Nat → Nat} {N : Nat} {cI cZ : ClassId} {Ns : tw_N} {p : Program} {e : Env} {R : Room} {s : State} {m : MethodId} {args a : Array Value} {below : List Frame} {meth : Method} {c : Code} {H : Heap} {locs : List Loc} {ls : Array Slot} {st0 : List Value}
    (hL : ∀ (i : Nat) (v : tw_v), L[i]? = some (some v) → tw_okv v) (hS : ∀ v ∈ S, tw_okv v) (hSt : va_S (tw_A ad N s.heap.size) s.heap H locs) (hl : tw_lr ad ls c.maxLocals L)
    (hr : va_Run p l e R s m args below meth c H locs 0 0 0 0 (F0 m pc ls st0) (S.map (tw_cv ad)) (tw_Qc (l, D, cl, ad, N, cI, cZ, Ns) H.size (tw_go (l, D, cl, ad, N, cI, cZ, Ns) (p, e, R, s, m, args, below, meth, c) Post (pc + 3) L S) a) (tw_A ad N H.size)) :
    W p l e R s m args below meth c H locs 0 0 (MQ below (tw_Qc (l, D, cl, ad, N, cI, cZ, Ns) s.heap.size Post) args s 0 0 (tw_A ad N s.heap.size)) (F0 m pc ls st0) := by
  intro T hT X
  obtain ⟨v, st₀, t, T', L1, h0, X', hL1, e1, e2, ⟨⟨r, mem', hv, hp, hrr, hmo, hml, hPm, hKm, hDm⟩, hz, hk⟩, st⟩ := hr T hT X
  rw [h0] at hz hk
  have hsub : ∀ q, tw_A ad N H.size q → tw_A ad N s.heap.size q := fun q h => by
    rcases h with h | h
    · exact Or.inl h
    · exact Or.inr (Nat.le_trans hSt.1 h)
  have hD' : va_D (tw_A ad N s.heap.size) (tw_wl ad cI cZ mem') := hDm.weaken (fun k q _ h => hsub _ h)
  have hP' : va_P D cl (tw_wl ad cI cZ mem') T'.heap := by rw [e1]; exact hPm
  have hS' : va_S (tw_A ad N s.heap.size) s.heap T'.heap (locs ++ L1) := ⟨Nat.le_trans hSt.1 (by rw [e1]; exact hz), fun q h1 h2 => by rw [e1, hk q (Nat.lt_of_lt_of_le h1 hSt.1) (fun z => h2 (hsub q z))]; exact hSt.2.1 q h1 h2, fun q hq => by
    rcases List.mem_append.mp hq with h | h
    · exact hSt.2.2 q h
    · exact hsub _ (hL1 q h)⟩
  cases r with
  | none =>
    have hv : v = none := by injection hv
    subst hv
    have hp : tw_rn (l, D, cl, ad, N, cI, cZ, Ns) (p, e, R, s, m, args, below, meth, c) Post (pc + 3) L S mem' := hp
    obtain ⟨t2, a1, b1⟩ := hp hL hS hmo hml T'.heap (locs ++ L1) ls hP' hD' hS' hl T' rfl X'
    exact ⟨t2, st t2 a1, b1⟩
  | some z =>
    have hv : v = some (.int (tw_I z)) := by injection hv
    subst hv
    have hp : tw_rn (l, D, cl, ad, N, cI, cZ, Ns) (p, e, R, s, m, args, below, meth, c) Post (pc + 3) L (.inl z :: S) mem' := hp
    obtain ⟨t2, a1, b1⟩ := hp hL (List.forall_mem_cons.mpr ⟨hrr z rfl, hS⟩) hmo hml T'.heap (locs ++ L1) ls hP' hD' hS' hl T' rfl X'
    exact ⟨t2, st t2 a1, b1⟩
/-- the words: one list for all -/
theorem tw_gi {w0 : Cond} (h : ∀ w ∈ Ts, goodWord w = true) (h0 : w0 ∈ Ts) : GoodIn Ts (w0 :: Ts) := fun w hw => by
  rcases List.mem_cons.mp hw with rfl | hw
  · exact ⟨h0, good_of_word (h _ h0)⟩
  · exact ⟨hw, good_of_word (h _ hw)⟩
theorem tw_blind {ad : Nat → Nat} {D : va_G} {cl : List vw_C} {cI cZ : ClassId} {Ns : tw_N} {As : List tw_v} {sz : Nat} : FrameBlind (va_Pc (As.map (tw_cv ad)) (fun U => U.heap.size = sz ∧ va_P D cl (tw_wl ad cI cZ mem) U.heap ∧ va_K D cl (tw_ty cI cZ) U ∧ va_D (fun _ => True) (tw_wl ad cI cZ mem) ∧ tw_nw Ns U)) := fun a U g mk q => by
  obtain ⟨q0, q1, qP, qK, qD, qN⟩ := q
  exact ⟨q0, q1, qP, va_K.moved (u := U) (U := U.calling g mk a) (Vm.Alike.refl U.vm) qK, qD, tw_nw.same rfl qN⟩
variable {y : MethodName} {bytes : ByteArray} {maxL d' index n : Nat} {rt : Option FieldType} {As : List tw_v}
/-- what a call needs besides its words -/
def tw_dc (y : MethodName) (n : Nat) : Prop := y.cls ≠ "java/lang/invoke/MethodHandle" ∧ y.cls ≠ "java/lang/invoke/VarHandle" ∧ (parseMethodDescriptor y.desc).map (fun d => d.parameters.length) = some n
theorem tw_callS (hX : tw_cx Y Z cc own Ts ret d nL) (hd : decode cc pc = .ok (.invokestatic index, 3)) (hw : ∀ w ∈ Ts, goodWord w = true) (hcode : Cond.code y bytes maxL rt ∈ Ts) (hlink : Cond.methodLink own index y ∈ Ts) (hstat : Cond.static y ∈ Ts) (hini : Cond.initialized y.cls ∈ Ts) (hdc : tw_dc y n) (hroom : d' + 1 ≤ d ∧ maxL ≤ 21) (hn : As.length = n) (hS8 : S.length ≤ 8)
    (hct : tw_ct Y y (Cond.code y bytes maxL rt :: Ts) d' As mem (tw_go Y Z Post (pc + 3) L S)) : tw_rn Y Z Post pc L (As.reverse ++ S) mem := by
  obtain ⟨l, D, cl, ad, N, cI, cZ, Ns⟩ := Y
  obtain ⟨p, e, R, s, m, args, below, meth, c⟩ := Z
  obtain ⟨hx, hb, ho, hts, hK, hret, hlk, hR, hnL, hNs⟩ := hX
  intro hL hS hM hN H locs ls hP hD hSt hl
  have hA : ∀ v ∈ As, tw_okv v := fun v h => hS v (List.mem_append_left _ (List.mem_reverse.mpr h))
  have hS2 : ∀ v ∈ S, tw_okv v := fun v h => hS v (List.mem_append_right _ h)
  have hcat : ((S.map (tw_cv ad)).map fun v => v.category).sum ≤ 8 := by
    have : (S.map (tw_cv ad)).map (fun v => v.category) = List.replicate S.length 1 := by
      rw [List.map_map, List.eq_replicate_iff]
      simp [tw_cat]
    rw [this]
    simp
    exact hS8
  refine tw_cont hL hS2 hSt hl (va_runS (As := As.map (tw_cv ad)) (n := n) ⟨hx, hb, rfl, ho, hts⟩ (hct hA hM hN H.size) (bytes := bytes) (maxL := maxL) (ret := rt)
    ⟨callB_of n hts (tw_gi hw hcode) rfl rfl rfl (hts _ hini) (hts _ hlink) hdc (by rw [hR]; exact ⟨hroom.1, by show 8 + (maxL + 11) + 40 * d' ≤ 40 * d; omega⟩), hts _ hstat⟩
    ⟨tw_blind, fun U hU hW => ⟨rfl, by rw [hU], by rw [hU]; exact hP, va_K.moved hW.alike hK, hD.weaken (fun _ _ _ _ => trivial), tw_nw.warm hW hNs⟩⟩ rfl (by rw [List.length_map]; exact hn) hl.1 ?_ (lv_room hcat) hd ⟨Nat.zero_le _, Nat.zero_le _⟩)
  show List.map (tw_cv ad) (As.reverse ++ S) = _
  rw [List.map_append, List.map_reverse]
theorem tw_callSN {host : String} (hX : tw_cx Y Z cc own Ts ret d nL) (hd : decode cc pc = .ok (.invokestatic index, 3)) (hw : ∀ w ∈ Ts, goodWord w = true) (hcode : Cond.code y bytes maxL rt ∈ Ts) (hlink : (own, index, y, host) ∈ tw_ns Y) (hstat : Cond.static y ∈ Ts) (hini : Cond.initialized y.cls ∈ Ts) (hdc : tw_dc y n) (hroom : d' + 1 ≤ d ∧ maxL ≤ 21) (hn : As.length = n) (hS8 : S.length ≤ 8)
    (hct : tw_ct Y y (Cond.code y bytes maxL rt :: Ts) d' As mem (tw_go Y Z Post (pc + 3) L S)) : tw_rn Y Z Post pc L (As.reverse ++ S) mem := by
  obtain ⟨l, D, cl, ad, N, cI, cZ, Ns⟩ := Y
  obtain ⟨p, e, R, s, m, args, below, meth, c⟩ := Z
  obtain ⟨hx, hb, ho, hts, hK, hret, hlk, hR, hnL, hNs⟩ := hX
  intro hL hS hM hN H locs ls hP hD hSt hl
  have hA : ∀ v ∈ As, tw_okv v := fun v h => hS v (List.mem_append_left _ (List.mem_reverse.mpr h))
  have hS2 : ∀ v ∈ S, tw_okv v := fun v h => hS v (List.mem_append_right _ h)
  have hcat : ((S.map (tw_cv ad)).map fun v => v.category).sum ≤ 8 := by
    have : (S.map (tw_cv ad)).map (fun v => v.category) = List.replicate S.length 1 := by
      rw [List.map_map, List.eq_replicate_iff]
      simp [tw_cat]
    rw [this]
    simp
    exact hS8
  refine tw_cont hL hS2 hSt hl (va_runSN (As := As.map (tw_cv ad)) (n := n) (host := host) ⟨hx, hb, rfl, ho, hts⟩ (hct hA hM hN H.size) (bytes := bytes) (maxL := maxL) (ret := rt)
    ⟨va_cnB n hts (tw_gi hw hcode) rfl rfl rfl (hNs _ hlink) (hts _ hini) hdc (by rw [hR]; exact ⟨hroom.1, by show 8 + (maxL + 11) + 40 * d' ≤ 40 * d; omega⟩), hts _ hstat, trivial⟩
    ⟨tw_blind, fun U hU hW => ⟨rfl, by rw [hU], by rw [hU]; exact hP, va_K.moved hW.alike hK, hD.weaken (fun _ _ _ _ => trivial), tw_nw.warm hW hNs⟩⟩ rfl (by rw [List.length_map]; exact hn) hl.1 ?_ (lv_room hcat) hd ⟨Nat.zero_le _, Nat.zero_le _⟩)
  show List.map (tw_cv ad) (As.reverse ++ S) = _
  rw [List.map_append, List.map_reverse]
theorem tw_callV {q ci : Nat} {fs : List tw_v} {T : u_T} {Nf : Nat} (hX : tw_cx Y Z cc own Ts ret d nL) (hd : decode cc pc = .ok (.invokevirtual index, 3)) (hw : ∀ w ∈ Ts, goodWord w = true) (hcode : Cond.code y bytes maxL rt ∈ Ts) (hlink : Cond.methodLink own index y ∈ Ts) (hinst : Cond.instanceMethod y ∈ Ts) (hsel : Cond.selects y.cls y y ∈ Ts) (hini : Cond.initialized y.cls ∈ Ts) (hdc : tw_dc y n) (hc : (tw_cl Y)[ci]? = some (y.cls, T, Nf)) (hq : mem[q]? = some (.inr (ci, fs))) (hroom : d' + 1 ≤ d ∧ maxL ≤ 21) (hn : As.length = n) (hS8 : S.length ≤ 8)
    (hct : tw_ct Y y (Cond.code y bytes maxL rt :: Ts) d' (.inr q :: As) mem (tw_go Y Z Post (pc + 3) L S)) : tw_rn Y Z Post pc L (As.reverse ++ .inr q :: S) mem := by
  obtain ⟨l, D, cl, ad, N, cI, cZ, Ns⟩ := Y
  obtain ⟨p, e, R, s, m, args, below, meth, c⟩ := Z
  obtain ⟨hx, hb, ho, hts, hK, hret, hlk, hR, hnL, hNs⟩ := hX
  intro hL hS hM hN H locs ls hP hD hSt hl
  have hA : ∀ v ∈ (.inr q :: As : List tw_v), tw_okv v := fun v h => by
    rcases List.mem_cons.mp h with rfl | h
    · exact trivial
    · exact hS v (List.mem_append_left _ (List.mem_reverse.mpr h))
  have hS2 : ∀ v ∈ S, tw_okv v := fun v h => hS v (List.mem_append_right _ (List.mem_cons_of_mem _ h))
  have hc : cl[ci]? = some (y.cls, T, Nf) := hc
  have hcat : ((S.map (tw_cv ad)).map fun v => v.category).sum ≤ 8 := by
    have : (S.map (tw_cv ad)).map (fun v => v.category) = List.replicate S.length 1 := by
      rw [List.map_map, List.eq_replicate_iff]
      simp [tw_cat]
    rw [this]
    simp
    exact hS8
  refine tw_cont hL hS2 hSt hl (va_runV (As := As.map (tw_cv ad)) (n := n) (b := ad q) (C := y.cls) ⟨hx, hb, rfl, ho, hts⟩ (hct hA hM hN H.size) (bytes := bytes) (maxL := maxL) (ret := rt)
    ⟨callB_of n hts (tw_gi hw hcode) rfl rfl rfl (hts _ hini) (hts _ hlink) hdc (by rw [hR]; exact ⟨hroom.1, by show 8 + (maxL + 11) + 40 * d' ≤ 40 * d; omega⟩), hts _ hinst, hts _ hsel⟩
    ⟨tw_blind (As := .inr q :: As), va_recv hK hP hc (tw_wl_at hq), fun U hU hW => ⟨rfl, by rw [hU], by rw [hU]; exact hP, va_K.moved hW.alike hK, hD.weaken (fun _ _ _ _ => trivial), tw_nw.warm hW hNs⟩⟩ rfl (by rw [List.length_map]; exact hn) hl.1 ?_ (lv_room hcat) hd ⟨Nat.zero_le _, Nat.zero_le _⟩)
  show List.map (tw_cv ad) (As.reverse ++ .inr q :: S) = _
  rw [List.map_append, List.map_reverse]
  rfl
theorem tw_max {a b : Int} (hX : tw_cx Y Z cc own Ts ret d nL) (hd : decode cc pc = .ok (.invokestatic index, 3)) (hlink : Cond.methodLink own index Lib.Math.max.name ∈ Ts) (hstat : Cond.static Lib.Math.max.name ∈ Ts) (hini : Cond.initialized "java/lang/Math" ∈ Ts) (hcode : Cond.code Lib.Math.max.name Lib.Math.max.code 2 (some .int) ∈ Ts) (hroom : 1 ≤ d) (hS8 : S.length ≤ 8) (k : tw_rn Y Z Post (pc + 3) L (.inl (if a < b then b else a) :: S) mem) : tw_rn Y Z Post pc L (.inl b :: .inl a :: S) mem := by
  obtain ⟨l, D, cl, ad, N, cI, cZ, Ns⟩ := Y
  obtain ⟨p, e, R, s, m, args, below, meth, c⟩ := Z
  obtain ⟨hx, hb, ho, hts, hK, hret, hlk, hR, hnL, hNs⟩ := hX
  intro hL hS hM hN H locs ls hP hD hSt hl
  obtain ⟨rb, h1⟩ := List.forall_mem_cons.mp hS
  obtain ⟨ra, h2⟩ := List.forall_mem_cons.mp h1
  have rb : tw_rg b := rb
  have ra : tw_rg a := ra
  have hcat : ((S.map (tw_cv ad)).map fun v => v.category).sum ≤ 8 := by
    have : (S.map (tw_cv ad)).map (fun v => v.category) = List.replicate S.length 1 := by
      rw [List.map_map, List.eq_replicate_iff]
      simp [tw_cat]
    rw [this]
    simp
    exact hS8
  refine va_mmax hx hb hl.1.symm ho (hts _ hlink) (hts _ hstat) (hts _ hini) (hts _ hcode) (by rw [hR]; exact hroom) (by rw [hR]; show _ ≤ 40 * d; omega) (by rw [hR]; exact Nat.zero_le _) (by rw [hR]; exact Nat.zero_le _) hd ?_
  have e1 : (if tw_I a < tw_I b then tw_I b else tw_I a) = tw_I (if a < b then b else a) := by
    by_cases h : a < b
    · rw [if_pos h, if_pos ((tw_I_lt ra rb).mpr h)]
    · rw [if_neg h, if_neg (fun q => h ((tw_I_lt ra rb).mp q))]
  rw [e1]
  have rm : tw_rg (if a < b then b else a) := by split <;> assumption
  exact k hL (List.forall_mem_cons.mpr ⟨rm, h2⟩) hM hN H locs ls hP hD hSt hl
end TWCALLS
end
