section
-- ===== PART A: goes FIRST, ahead of the names: the tables' words, and 'selects' of the private methods out of them =====
/-- a private method of a class that the tables say can be made, by its rows of tables_1 -/
def lw_okq (q : MethodName × Nat) : Prop := (q.1.cls ≠ "java/lang/invoke/MethodHandle" ∧ q.1.cls ≠ "java/lang/invoke/VarHandle") ∧ Cond.instantiable q.1.cls q.2 ∈ tables_1 ∧ Cond.privateMethod q.1 ∈ tables_1 ∧ Cond.instanceMethod q.1 ∈ tables_1
theorem lw_p0 : lw_okq (⟨"TwoWayLines", "layOut", "()V"⟩, 6) := ⟨⟨by decide +kernel, by decide +kernel⟩, List.mem_of_getElem? (i := 13) (by decide +kernel), List.mem_of_getElem? (i := 305) (by decide +kernel), List.mem_of_getElem? (i := 306) (by decide +kernel)⟩
theorem lw_p1 : lw_okq (⟨"TwoWayLines$Explicit", "begin", "(I)V"⟩, 9) := ⟨⟨by decide +kernel, by decide +kernel⟩, List.mem_of_getElem? (i := 85) (by decide +kernel), List.mem_of_getElem? (i := 328) (by decide +kernel), List.mem_of_getElem? (i := 329) (by decide +kernel)⟩
theorem lw_p2 : lw_okq (⟨"TwoWayLines$Explicit", "endIsolate", "()V"⟩, 9) := ⟨⟨by decide +kernel, by decide +kernel⟩, List.mem_of_getElem? (i := 85) (by decide +kernel), List.mem_of_getElem? (i := 332) (by decide +kernel), List.mem_of_getElem? (i := 333) (by decide +kernel)⟩
theorem lw_p3 : lw_okq (⟨"TwoWayLines$Explicit", "endEmbedding", "()V"⟩, 9) := ⟨⟨by decide +kernel, by decide +kernel⟩, List.mem_of_getElem? (i := 85) (by decide +kernel), List.mem_of_getElem? (i := 336) (by decide +kernel), List.mem_of_getElem? (i := 337) (by decide +kernel)⟩
theorem lw_p4 : lw_okq (⟨"TwoWayLines$Explicit", "beginEmbedding", "(I)V"⟩, 9) := ⟨⟨by decide +kernel, by decide +kernel⟩, List.mem_of_getElem? (i := 85) (by decide +kernel), List.mem_of_getElem? (i := 343) (by decide +kernel), List.mem_of_getElem? (i := 344) (by decide +kernel)⟩
theorem lw_p5 : lw_okq (⟨"TwoWayLines$Explicit", "nextLevel", "(Z)I"⟩, 9) := ⟨⟨by decide +kernel, by decide +kernel⟩, List.mem_of_getElem? (i := 85) (by decide +kernel), List.mem_of_getElem? (i := 347) (by decide +kernel), List.mem_of_getElem? (i := 348) (by decide +kernel)⟩
theorem lw_p6 : lw_okq (⟨"TwoWayLines$Explicit", "fits", "(I)Z"⟩, 9) := ⟨⟨by decide +kernel, by decide +kernel⟩, List.mem_of_getElem? (i := 85) (by decide +kernel), List.mem_of_getElem? (i := 354) (by decide +kernel), List.mem_of_getElem? (i := 355) (by decide +kernel)⟩
theorem lw_p7 : lw_okq (⟨"TwoWayLines$Explicit", "push", "(IIZ)V"⟩, 9) := ⟨⟨by decide +kernel, by decide +kernel⟩, List.mem_of_getElem? (i := 85) (by decide +kernel), List.mem_of_getElem? (i := 361) (by decide +kernel), List.mem_of_getElem? (i := 362) (by decide +kernel)⟩
theorem lw_p8 : lw_okq (⟨"TwoWayLines$Explicit", "give", "(II)V"⟩, 9) := ⟨⟨by decide +kernel, by decide +kernel⟩, List.mem_of_getElem? (i := 85) (by decide +kernel), List.mem_of_getElem? (i := 365) (by decide +kernel), List.mem_of_getElem? (i := 366) (by decide +kernel)⟩
theorem lw_p9 : lw_okq (⟨"TwoWayLines$Explicit", "wantsOdd", "(LTwoWayLines$Paragraph;LTwoWayLines$Matches;I)Z"⟩, 9) := ⟨⟨by decide +kernel, by decide +kernel⟩, List.mem_of_getElem? (i := 85) (by decide +kernel), List.mem_of_getElem? (i := 370) (by decide +kernel), List.mem_of_getElem? (i := 371) (by decide +kernel)⟩
theorem lw_p10 : lw_okq (⟨"TwoWayLines$Explicit", "beginIsolate", "(Z)V"⟩, 9) := ⟨⟨by decide +kernel, by decide +kernel⟩, List.mem_of_getElem? (i := 85) (by decide +kernel), List.mem_of_getElem? (i := 375) (by decide +kernel), List.mem_of_getElem? (i := 376) (by decide +kernel)⟩
theorem lw_p11 : lw_okq (⟨"TwoWayLines$Levels", "beginsSequence", "(LTwoWayLines$Paragraph;I)Z"⟩, 8) := ⟨⟨by decide +kernel, by decide +kernel⟩, List.mem_of_getElem? (i := 63) (by decide +kernel), List.mem_of_getElem? (i := 383) (by decide +kernel), List.mem_of_getElem? (i := 384) (by decide +kernel)⟩
theorem lw_p12 : lw_okq (⟨"TwoWayLines$Levels", "visibleBefore", "(LTwoWayLines$Paragraph;I)I"⟩, 8) := ⟨⟨by decide +kernel, by decide +kernel⟩, List.mem_of_getElem? (i := 63) (by decide +kernel), List.mem_of_getElem? (i := 388) (by decide +kernel), List.mem_of_getElem? (i := 389) (by decide +kernel)⟩
theorem lw_p13 : lw_okq (⟨"TwoWayLines$Levels", "gather", "(LTwoWayLines$Paragraph;I)V"⟩, 8) := ⟨⟨by decide +kernel, by decide +kernel⟩, List.mem_of_getElem? (i := 63) (by decide +kernel), List.mem_of_getElem? (i := 392) (by decide +kernel), List.mem_of_getElem? (i := 393) (by decide +kernel)⟩
theorem lw_p14 : lw_okq (⟨"TwoWayLines$Levels", "takeRun", "(LTwoWayLines$Paragraph;I)I"⟩, 8) := ⟨⟨by decide +kernel, by decide +kernel⟩, List.mem_of_getElem? (i := 63) (by decide +kernel), List.mem_of_getElem? (i := 396) (by decide +kernel), List.mem_of_getElem? (i := 397) (by decide +kernel)⟩
theorem lw_p15 : lw_okq (⟨"TwoWayLines$Levels", "setSides", "(LTwoWayLines$Paragraph;)V"⟩, 8) := ⟨⟨by decide +kernel, by decide +kernel⟩, List.mem_of_getElem? (i := 63) (by decide +kernel), List.mem_of_getElem? (i := 405) (by decide +kernel), List.mem_of_getElem? (i := 406) (by decide +kernel)⟩
def lw_privs_1 : List (MethodName × Nat) := [(⟨"TwoWayLines", "layOut", "()V"⟩, 6), (⟨"TwoWayLines$Explicit", "begin", "(I)V"⟩, 9), (⟨"TwoWayLines$Explicit", "endIsolate", "()V"⟩, 9), (⟨"TwoWayLines$Explicit", "endEmbedding", "()V"⟩, 9), (⟨"TwoWayLines$Explicit", "beginEmbedding", "(I)V"⟩, 9), (⟨"TwoWayLines$Explicit", "nextLevel", "(Z)I"⟩, 9), (⟨"TwoWayLines$Explicit", "fits", "(I)Z"⟩, 9), (⟨"TwoWayLines$Explicit", "push", "(IIZ)V"⟩, 9), (⟨"TwoWayLines$Explicit", "give", "(II)V"⟩, 9), (⟨"TwoWayLines$Explicit", "wantsOdd", "(LTwoWayLines$Paragraph;LTwoWayLines$Matches;I)Z"⟩, 9), (⟨"TwoWayLines$Explicit", "beginIsolate", "(Z)V"⟩, 9), (⟨"TwoWayLines$Levels", "beginsSequence", "(LTwoWayLines$Paragraph;I)Z"⟩, 8), (⟨"TwoWayLines$Levels", "visibleBefore", "(LTwoWayLines$Paragraph;I)I"⟩, 8), (⟨"TwoWayLines$Levels", "gather", "(LTwoWayLines$Paragraph;I)V"⟩, 8), (⟨"TwoWayLines$Levels", "takeRun", "(LTwoWayLines$Paragraph;I)I"⟩, 8), (⟨"TwoWayLines$Levels", "setSides", "(LTwoWayLines$Paragraph;)V"⟩, 8)]
theorem lw_r1 : ∀ q ∈ lw_privs_1, lw_okq q := List.forall_mem_cons.mpr ⟨lw_p0, List.forall_mem_cons.mpr ⟨lw_p1, List.forall_mem_cons.mpr ⟨lw_p2, List.forall_mem_cons.mpr ⟨lw_p3, List.forall_mem_cons.mpr ⟨lw_p4, List.forall_mem_cons.mpr ⟨lw_p5, List.forall_mem_cons.mpr ⟨lw_p6, List.forall_mem_cons.mpr ⟨lw_p7, List.forall_mem_cons.mpr ⟨lw_p8, List.forall_mem_cons.mpr ⟨lw_p9, List.forall_mem_cons.mpr ⟨lw_p10, List.forall_mem_cons.mpr ⟨lw_p11, List.forall_mem_cons.mpr ⟨lw_p12, List.forall_mem_cons.mpr ⟨lw_p13, List.forall_mem_cons.mpr ⟨lw_p14, List.forall_mem_cons.mpr ⟨lw_p15, fun _ h => absurd h List.not_mem_nil⟩⟩⟩⟩⟩⟩⟩⟩⟩⟩⟩⟩⟩⟩⟩⟩
theorem lw_p16 : lw_okq (⟨"TwoWayLines$Levels", "visibleBehind", "(LTwoWayLines$Paragraph;I)I"⟩, 8) := ⟨⟨by decide +kernel, by decide +kernel⟩, List.mem_of_getElem? (i := 63) (by decide +kernel), List.mem_of_getElem? (i := 409) (by decide +kernel), List.mem_of_getElem? (i := 410) (by decide +kernel)⟩
theorem lw_p17 : lw_okq (⟨"TwoWayLines$Levels", "levelBeside", "(I)I"⟩, 8) := ⟨⟨by decide +kernel, by decide +kernel⟩, List.mem_of_getElem? (i := 63) (by decide +kernel), List.mem_of_getElem? (i := 417) (by decide +kernel), List.mem_of_getElem? (i := 418) (by decide +kernel)⟩
theorem lw_p18 : lw_okq (⟨"TwoWayLines$Sequence", "joinMarks", "()V"⟩, 7) := ⟨⟨by decide +kernel, by decide +kernel⟩, List.mem_of_getElem? (i := 122) (by decide +kernel), List.mem_of_getElem? (i := 428) (by decide +kernel), List.mem_of_getElem? (i := 429) (by decide +kernel)⟩
theorem lw_p19 : lw_okq (⟨"TwoWayLines$Sequence", "turnArabicNumbers", "()V"⟩, 7) := ⟨⟨by decide +kernel, by decide +kernel⟩, List.mem_of_getElem? (i := 122) (by decide +kernel), List.mem_of_getElem? (i := 435) (by decide +kernel), List.mem_of_getElem? (i := 436) (by decide +kernel)⟩
theorem lw_p20 : lw_okq (⟨"TwoWayLines$Sequence", "turnSeparators", "()V"⟩, 7) := ⟨⟨by decide +kernel, by decide +kernel⟩, List.mem_of_getElem? (i := 122) (by decide +kernel), List.mem_of_getElem? (i := 439) (by decide +kernel), List.mem_of_getElem? (i := 440) (by decide +kernel)⟩
theorem lw_p21 : lw_okq (⟨"TwoWayLines$Sequence", "turnTerminators", "()V"⟩, 7) := ⟨⟨by decide +kernel, by decide +kernel⟩, List.mem_of_getElem? (i := 122) (by decide +kernel), List.mem_of_getElem? (i := 443) (by decide +kernel), List.mem_of_getElem? (i := 444) (by decide +kernel)⟩
theorem lw_p22 : lw_okq (⟨"TwoWayLines$Sequence", "freeLeftovers", "()V"⟩, 7) := ⟨⟨by decide +kernel, by decide +kernel⟩, List.mem_of_getElem? (i := 122) (by decide +kernel), List.mem_of_getElem? (i := 447) (by decide +kernel), List.mem_of_getElem? (i := 448) (by decide +kernel)⟩
theorem lw_p23 : lw_okq (⟨"TwoWayLines$Sequence", "turnLatinNumbers", "()V"⟩, 7) := ⟨⟨by decide +kernel, by decide +kernel⟩, List.mem_of_getElem? (i := 122) (by decide +kernel), List.mem_of_getElem? (i := 451) (by decide +kernel), List.mem_of_getElem? (i := 452) (by decide +kernel)⟩
theorem lw_p24 : lw_okq (⟨"TwoWayLines$Brackets", "pairUp", "(LTwoWayLines$Paragraph;LTwoWayLines$Sequence;)V"⟩, 2) := ⟨⟨by decide +kernel, by decide +kernel⟩, List.mem_of_getElem? (i := 162) (by decide +kernel), List.mem_of_getElem? (i := 459) (by decide +kernel), List.mem_of_getElem? (i := 460) (by decide +kernel)⟩
theorem lw_p25 : lw_okq (⟨"TwoWayLines$Brackets", "close", "(LTwoWayLines$Paragraph;LTwoWayLines$Sequence;II)I"⟩, 2) := ⟨⟨by decide +kernel, by decide +kernel⟩, List.mem_of_getElem? (i := 162) (by decide +kernel), List.mem_of_getElem? (i := 463) (by decide +kernel), List.mem_of_getElem? (i := 464) (by decide +kernel)⟩
theorem lw_p26 : lw_okq (⟨"TwoWayLines$Brackets", "settle", "(LTwoWayLines$Sequence;II)V"⟩, 2) := ⟨⟨by decide +kernel, by decide +kernel⟩, List.mem_of_getElem? (i := 162) (by decide +kernel), List.mem_of_getElem? (i := 467) (by decide +kernel), List.mem_of_getElem? (i := 468) (by decide +kernel)⟩
theorem lw_p27 : lw_okq (⟨"TwoWayLines$Brackets", "strongBetween", "(LTwoWayLines$Sequence;II)I"⟩, 2) := ⟨⟨by decide +kernel, by decide +kernel⟩, List.mem_of_getElem? (i := 162) (by decide +kernel), List.mem_of_getElem? (i := 471) (by decide +kernel), List.mem_of_getElem? (i := 472) (by decide +kernel)⟩
theorem lw_p28 : lw_okq (⟨"TwoWayLines$Brackets", "strongBefore", "(LTwoWayLines$Sequence;I)I"⟩, 2) := ⟨⟨by decide +kernel, by decide +kernel⟩, List.mem_of_getElem? (i := 162) (by decide +kernel), List.mem_of_getElem? (i := 479) (by decide +kernel), List.mem_of_getElem? (i := 480) (by decide +kernel)⟩
theorem lw_p29 : lw_okq (⟨"TwoWayLines$Brackets", "give", "(LTwoWayLines$Sequence;II)V"⟩, 2) := ⟨⟨by decide +kernel, by decide +kernel⟩, List.mem_of_getElem? (i := 162) (by decide +kernel), List.mem_of_getElem? (i := 483) (by decide +kernel), List.mem_of_getElem? (i := 484) (by decide +kernel)⟩
theorem lw_p30 : lw_okq (⟨"TwoWayLines$Sequence", "fillTypes", "(III)V"⟩, 7) := ⟨⟨by decide +kernel, by decide +kernel⟩, List.mem_of_getElem? (i := 122) (by decide +kernel), List.mem_of_getElem? (i := 492) (by decide +kernel), List.mem_of_getElem? (i := 493) (by decide +kernel)⟩
theorem lw_p31 : lw_okq (⟨"TwoWayLines$Levels", "keep", "()V"⟩, 8) := ⟨⟨by decide +kernel, by decide +kernel⟩, List.mem_of_getElem? (i := 63) (by decide +kernel), List.mem_of_getElem? (i := 496) (by decide +kernel), List.mem_of_getElem? (i := 497) (by decide +kernel)⟩
def lw_privs_2 : List (MethodName × Nat) := [(⟨"TwoWayLines$Levels", "visibleBehind", "(LTwoWayLines$Paragraph;I)I"⟩, 8), (⟨"TwoWayLines$Levels", "levelBeside", "(I)I"⟩, 8), (⟨"TwoWayLines$Sequence", "joinMarks", "()V"⟩, 7), (⟨"TwoWayLines$Sequence", "turnArabicNumbers", "()V"⟩, 7), (⟨"TwoWayLines$Sequence", "turnSeparators", "()V"⟩, 7), (⟨"TwoWayLines$Sequence", "turnTerminators", "()V"⟩, 7), (⟨"TwoWayLines$Sequence", "freeLeftovers", "()V"⟩, 7), (⟨"TwoWayLines$Sequence", "turnLatinNumbers", "()V"⟩, 7), (⟨"TwoWayLines$Brackets", "pairUp", "(LTwoWayLines$Paragraph;LTwoWayLines$Sequence;)V"⟩, 2), (⟨"TwoWayLines$Brackets", "close", "(LTwoWayLines$Paragraph;LTwoWayLines$Sequence;II)I"⟩, 2), (⟨"TwoWayLines$Brackets", "settle", "(LTwoWayLines$Sequence;II)V"⟩, 2), (⟨"TwoWayLines$Brackets", "strongBetween", "(LTwoWayLines$Sequence;II)I"⟩, 2), (⟨"TwoWayLines$Brackets", "strongBefore", "(LTwoWayLines$Sequence;I)I"⟩, 2), (⟨"TwoWayLines$Brackets", "give", "(LTwoWayLines$Sequence;II)V"⟩, 2), (⟨"TwoWayLines$Sequence", "fillTypes", "(III)V"⟩, 7), (⟨"TwoWayLines$Levels", "keep", "()V"⟩, 8)]
theorem lw_r2 : ∀ q ∈ lw_privs_2, lw_okq q := List.forall_mem_cons.mpr ⟨lw_p16, List.forall_mem_cons.mpr ⟨lw_p17, List.forall_mem_cons.mpr ⟨lw_p18, List.forall_mem_cons.mpr ⟨lw_p19, List.forall_mem_cons.mpr ⟨lw_p20, List.forall_mem_cons.mpr ⟨lw_p21, List.forall_mem_cons.mpr ⟨lw_p22, List.forall_mem_cons.mpr ⟨lw_p23, List.forall_mem_cons.mpr ⟨lw_p24, List.forall_mem_cons.mpr ⟨lw_p25, List.forall_mem_cons.mpr ⟨lw_p26, List.forall_mem_cons.mpr ⟨lw_p27, List.forall_mem_cons.mpr ⟨lw_p28, List.forall_mem_cons.mpr ⟨lw_p29, List.forall_mem_cons.mpr ⟨lw_p30, List.forall_mem_cons.mpr ⟨lw_p31, fun _ h => absurd h List.not_mem_nil⟩⟩⟩⟩⟩⟩⟩⟩⟩⟩⟩⟩⟩⟩⟩⟩
theorem lw_p32 : lw_okq (⟨"TwoWayLines$Filling", "findGroups", "(LTwoWayLines$Paragraph;)V"⟩, 5) := ⟨⟨by decide +kernel, by decide +kernel⟩, List.mem_of_getElem? (i := 208) (by decide +kernel), List.mem_of_getElem? (i := 512) (by decide +kernel), List.mem_of_getElem? (i := 513) (by decide +kernel)⟩
theorem lw_p33 : lw_okq (⟨"TwoWayLines$Filling", "findBreaks", "(LTwoWayLines$Paragraph;)V"⟩, 5) := ⟨⟨by decide +kernel, by decide +kernel⟩, List.mem_of_getElem? (i := 208) (by decide +kernel), List.mem_of_getElem? (i := 516) (by decide +kernel), List.mem_of_getElem? (i := 517) (by decide +kernel)⟩
theorem lw_p34 : lw_okq (⟨"TwoWayLines$Filling", "endOfLine", "(LTwoWayLines$Paragraph;II)I"⟩, 5) := ⟨⟨by decide +kernel, by decide +kernel⟩, List.mem_of_getElem? (i := 208) (by decide +kernel), List.mem_of_getElem? (i := 523) (by decide +kernel), List.mem_of_getElem? (i := 524) (by decide +kernel)⟩
theorem lw_p35 : lw_okq (⟨"TwoWayLines$Filling", "extentOf", "(LTwoWayLines$Paragraph;II)I"⟩, 5) := ⟨⟨by decide +kernel, by decide +kernel⟩, List.mem_of_getElem? (i := 208) (by decide +kernel), List.mem_of_getElem? (i := 527) (by decide +kernel), List.mem_of_getElem? (i := 528) (by decide +kernel)⟩
theorem lw_p36 : lw_okq (⟨"TwoWayLines$Showing", "setLevels", "(LTwoWayLines$Paragraph;LTwoWayLines$Levels;II)V"⟩, 2) := ⟨⟨by decide +kernel, by decide +kernel⟩, List.mem_of_getElem? (i := 236) (by decide +kernel), List.mem_of_getElem? (i := 535) (by decide +kernel), List.mem_of_getElem? (i := 536) (by decide +kernel)⟩
theorem lw_p37 : lw_okq (⟨"TwoWayLines$Showing", "setOrder", "(II)V"⟩, 2) := ⟨⟨by decide +kernel, by decide +kernel⟩, List.mem_of_getElem? (i := 236) (by decide +kernel), List.mem_of_getElem? (i := 541) (by decide +kernel), List.mem_of_getElem? (i := 542) (by decide +kernel)⟩
theorem lw_p38 : lw_okq (⟨"TwoWayLines$Showing", "turnRows", "(III)V"⟩, 2) := ⟨⟨by decide +kernel, by decide +kernel⟩, List.mem_of_getElem? (i := 236) (by decide +kernel), List.mem_of_getElem? (i := 546) (by decide +kernel), List.mem_of_getElem? (i := 547) (by decide +kernel)⟩
theorem lw_p39 : lw_okq (⟨"TwoWayLines$Showing", "turn", "(II)V"⟩, 2) := ⟨⟨by decide +kernel, by decide +kernel⟩, List.mem_of_getElem? (i := 236) (by decide +kernel), List.mem_of_getElem? (i := 550) (by decide +kernel), List.mem_of_getElem? (i := 551) (by decide +kernel)⟩
theorem lw_p40 : lw_okq (⟨"TwoWayLinesModel", "opener", "(I)Z"⟩, 31) := ⟨⟨by decide +kernel, by decide +kernel⟩, List.mem_of_getElem? (i := 606) (by decide +kernel), List.mem_of_getElem? (i := 734) (by decide +kernel), List.mem_of_getElem? (i := 735) (by decide +kernel)⟩
theorem lw_p41 : lw_okq (⟨"TwoWayLinesModel", "closing", "(I)I"⟩, 31) := ⟨⟨by decide +kernel, by decide +kernel⟩, List.mem_of_getElem? (i := 606) (by decide +kernel), List.mem_of_getElem? (i := 738) (by decide +kernel), List.mem_of_getElem? (i := 739) (by decide +kernel)⟩
theorem lw_p42 : lw_okq (⟨"TwoWayLinesModel", "groupOf", "(I)I"⟩, 31) := ⟨⟨by decide +kernel, by decide +kernel⟩, List.mem_of_getElem? (i := 606) (by decide +kernel), List.mem_of_getElem? (i := 746) (by decide +kernel), List.mem_of_getElem? (i := 747) (by decide +kernel)⟩
theorem lw_p43 : lw_okq (⟨"TwoWayLinesModel", "work", "()V"⟩, 31) := ⟨⟨by decide +kernel, by decide +kernel⟩, List.mem_of_getElem? (i := 606) (by decide +kernel), List.mem_of_getElem? (i := 754) (by decide +kernel), List.mem_of_getElem? (i := 755) (by decide +kernel)⟩
theorem lw_p44 : lw_okq (⟨"TwoWayLinesModel", "explicit", "()V"⟩, 31) := ⟨⟨by decide +kernel, by decide +kernel⟩, List.mem_of_getElem? (i := 606) (by decide +kernel), List.mem_of_getElem? (i := 758) (by decide +kernel), List.mem_of_getElem? (i := 759) (by decide +kernel)⟩
theorem lw_p45 : lw_okq (⟨"TwoWayLinesModel", "direction", "(II)I"⟩, 31) := ⟨⟨by decide +kernel, by decide +kernel⟩, List.mem_of_getElem? (i := 606) (by decide +kernel), List.mem_of_getElem? (i := 762) (by decide +kernel), List.mem_of_getElem? (i := 763) (by decide +kernel)⟩
theorem lw_p46 : lw_okq (⟨"TwoWayLinesModel", "put", "(IIZ)V"⟩, 31) := ⟨⟨by decide +kernel, by decide +kernel⟩, List.mem_of_getElem? (i := 606) (by decide +kernel), List.mem_of_getElem? (i := 766) (by decide +kernel), List.mem_of_getElem? (i := 767) (by decide +kernel)⟩
theorem lw_p47 : lw_okq (⟨"TwoWayLinesModel", "embed", "(I)V"⟩, 31) := ⟨⟨by decide +kernel, by decide +kernel⟩, List.mem_of_getElem? (i := 606) (by decide +kernel), List.mem_of_getElem? (i := 770) (by decide +kernel), List.mem_of_getElem? (i := 771) (by decide +kernel)⟩
def lw_privs_3 : List (MethodName × Nat) := [(⟨"TwoWayLines$Filling", "findGroups", "(LTwoWayLines$Paragraph;)V"⟩, 5), (⟨"TwoWayLines$Filling", "findBreaks", "(LTwoWayLines$Paragraph;)V"⟩, 5), (⟨"TwoWayLines$Filling", "endOfLine", "(LTwoWayLines$Paragraph;II)I"⟩, 5), (⟨"TwoWayLines$Filling", "extentOf", "(LTwoWayLines$Paragraph;II)I"⟩, 5), (⟨"TwoWayLines$Showing", "setLevels", "(LTwoWayLines$Paragraph;LTwoWayLines$Levels;II)V"⟩, 2), (⟨"TwoWayLines$Showing", "setOrder", "(II)V"⟩, 2), (⟨"TwoWayLines$Showing", "turnRows", "(III)V"⟩, 2), (⟨"TwoWayLines$Showing", "turn", "(II)V"⟩, 2), (⟨"TwoWayLinesModel", "opener", "(I)Z"⟩, 31), (⟨"TwoWayLinesModel", "closing", "(I)I"⟩, 31), (⟨"TwoWayLinesModel", "groupOf", "(I)I"⟩, 31), (⟨"TwoWayLinesModel", "work", "()V"⟩, 31), (⟨"TwoWayLinesModel", "explicit", "()V"⟩, 31), (⟨"TwoWayLinesModel", "direction", "(II)I"⟩, 31), (⟨"TwoWayLinesModel", "put", "(IIZ)V"⟩, 31), (⟨"TwoWayLinesModel", "embed", "(I)V"⟩, 31)]
theorem lw_r3 : ∀ q ∈ lw_privs_3, lw_okq q := List.forall_mem_cons.mpr ⟨lw_p32, List.forall_mem_cons.mpr ⟨lw_p33, List.forall_mem_cons.mpr ⟨lw_p34, List.forall_mem_cons.mpr ⟨lw_p35, List.forall_mem_cons.mpr ⟨lw_p36, List.forall_mem_cons.mpr ⟨lw_p37, List.forall_mem_cons.mpr ⟨lw_p38, List.forall_mem_cons.mpr ⟨lw_p39, List.forall_mem_cons.mpr ⟨lw_p40, List.forall_mem_cons.mpr ⟨lw_p41, List.forall_mem_cons.mpr ⟨lw_p42, List.forall_mem_cons.mpr ⟨lw_p43, List.forall_mem_cons.mpr ⟨lw_p44, List.forall_mem_cons.mpr ⟨lw_p45, List.forall_mem_cons.mpr ⟨lw_p46, List.forall_mem_cons.mpr ⟨lw_p47, fun _ h => absurd h List.not_mem_nil⟩⟩⟩⟩⟩⟩⟩⟩⟩⟩⟩⟩⟩⟩⟩⟩
theorem lw_p48 : lw_okq (⟨"TwoWayLinesModel", "next", "(Z)I"⟩, 31) := ⟨⟨by decide +kernel, by decide +kernel⟩, List.mem_of_getElem? (i := 606) (by decide +kernel), List.mem_of_getElem? (i := 774) (by decide +kernel), List.mem_of_getElem? (i := 775) (by decide +kernel)⟩
theorem lw_p49 : lw_okq (⟨"TwoWayLinesModel", "fits", "(I)Z"⟩, 31) := ⟨⟨by decide +kernel, by decide +kernel⟩, List.mem_of_getElem? (i := 606) (by decide +kernel), List.mem_of_getElem? (i := 778) (by decide +kernel), List.mem_of_getElem? (i := 779) (by decide +kernel)⟩
theorem lw_p50 : lw_okq (⟨"TwoWayLinesModel", "pop", "()V"⟩, 31) := ⟨⟨by decide +kernel, by decide +kernel⟩, List.mem_of_getElem? (i := 606) (by decide +kernel), List.mem_of_getElem? (i := 782) (by decide +kernel), List.mem_of_getElem? (i := 783) (by decide +kernel)⟩
theorem lw_p51 : lw_okq (⟨"TwoWayLinesModel", "isolateAt", "(I)V"⟩, 31) := ⟨⟨by decide +kernel, by decide +kernel⟩, List.mem_of_getElem? (i := 606) (by decide +kernel), List.mem_of_getElem? (i := 786) (by decide +kernel), List.mem_of_getElem? (i := 787) (by decide +kernel)⟩
theorem lw_p52 : lw_okq (⟨"TwoWayLinesModel", "settle", "(I)V"⟩, 31) := ⟨⟨by decide +kernel, by decide +kernel⟩, List.mem_of_getElem? (i := 606) (by decide +kernel), List.mem_of_getElem? (i := 790) (by decide +kernel), List.mem_of_getElem? (i := 791) (by decide +kernel)⟩
theorem lw_p53 : lw_okq (⟨"TwoWayLinesModel", "leave", "(I)V"⟩, 31) := ⟨⟨by decide +kernel, by decide +kernel⟩, List.mem_of_getElem? (i := 606) (by decide +kernel), List.mem_of_getElem? (i := 794) (by decide +kernel), List.mem_of_getElem? (i := 795) (by decide +kernel)⟩
theorem lw_p54 : lw_okq (⟨"TwoWayLinesModel", "sequences", "()V"⟩, 31) := ⟨⟨by decide +kernel, by decide +kernel⟩, List.mem_of_getElem? (i := 606) (by decide +kernel), List.mem_of_getElem? (i := 798) (by decide +kernel), List.mem_of_getElem? (i := 799) (by decide +kernel)⟩
theorem lw_p55 : lw_okq (⟨"TwoWayLinesModel", "hidden", "(I)Z"⟩, 31) := ⟨⟨by decide +kernel, by decide +kernel⟩, List.mem_of_getElem? (i := 606) (by decide +kernel), List.mem_of_getElem? (i := 802) (by decide +kernel), List.mem_of_getElem? (i := 803) (by decide +kernel)⟩
theorem lw_p56 : lw_okq (⟨"TwoWayLinesModel", "beginsRun", "(I)Z"⟩, 31) := ⟨⟨by decide +kernel, by decide +kernel⟩, List.mem_of_getElem? (i := 606) (by decide +kernel), List.mem_of_getElem? (i := 806) (by decide +kernel), List.mem_of_getElem? (i := 807) (by decide +kernel)⟩
theorem lw_p57 : lw_okq (⟨"TwoWayLinesModel", "seen", "(II)I"⟩, 31) := ⟨⟨by decide +kernel, by decide +kernel⟩, List.mem_of_getElem? (i := 606) (by decide +kernel), List.mem_of_getElem? (i := 810) (by decide +kernel), List.mem_of_getElem? (i := 811) (by decide +kernel)⟩
theorem lw_p58 : lw_okq (⟨"TwoWayLinesModel", "addRun", "(I)V"⟩, 31) := ⟨⟨by decide +kernel, by decide +kernel⟩, List.mem_of_getElem? (i := 606) (by decide +kernel), List.mem_of_getElem? (i := 815) (by decide +kernel), List.mem_of_getElem? (i := 816) (by decide +kernel)⟩
theorem lw_p59 : lw_okq (⟨"TwoWayLinesModel", "bounds", "()V"⟩, 31) := ⟨⟨by decide +kernel, by decide +kernel⟩, List.mem_of_getElem? (i := 606) (by decide +kernel), List.mem_of_getElem? (i := 819) (by decide +kernel), List.mem_of_getElem? (i := 820) (by decide +kernel)⟩
theorem lw_p60 : lw_okq (⟨"TwoWayLinesModel", "weak", "()V"⟩, 31) := ⟨⟨by decide +kernel, by decide +kernel⟩, List.mem_of_getElem? (i := 606) (by decide +kernel), List.mem_of_getElem? (i := 823) (by decide +kernel), List.mem_of_getElem? (i := 824) (by decide +kernel)⟩
theorem lw_p61 : lw_okq (⟨"TwoWayLinesModel", "at", "(I)I"⟩, 31) := ⟨⟨by decide +kernel, by decide +kernel⟩, List.mem_of_getElem? (i := 606) (by decide +kernel), List.mem_of_getElem? (i := 827) (by decide +kernel), List.mem_of_getElem? (i := 828) (by decide +kernel)⟩
theorem lw_p62 : lw_okq (⟨"TwoWayLinesModel", "set", "(II)V"⟩, 31) := ⟨⟨by decide +kernel, by decide +kernel⟩, List.mem_of_getElem? (i := 606) (by decide +kernel), List.mem_of_getElem? (i := 831) (by decide +kernel), List.mem_of_getElem? (i := 832) (by decide +kernel)⟩
theorem lw_p63 : lw_okq (⟨"TwoWayLinesModel", "terminators", "()V"⟩, 31) := ⟨⟨by decide +kernel, by decide +kernel⟩, List.mem_of_getElem? (i := 606) (by decide +kernel), List.mem_of_getElem? (i := 835) (by decide +kernel), List.mem_of_getElem? (i := 836) (by decide +kernel)⟩
def lw_privs_4 : List (MethodName × Nat) := [(⟨"TwoWayLinesModel", "next", "(Z)I"⟩, 31), (⟨"TwoWayLinesModel", "fits", "(I)Z"⟩, 31), (⟨"TwoWayLinesModel", "pop", "()V"⟩, 31), (⟨"TwoWayLinesModel", "isolateAt", "(I)V"⟩, 31), (⟨"TwoWayLinesModel", "settle", "(I)V"⟩, 31), (⟨"TwoWayLinesModel", "leave", "(I)V"⟩, 31), (⟨"TwoWayLinesModel", "sequences", "()V"⟩, 31), (⟨"TwoWayLinesModel", "hidden", "(I)Z"⟩, 31), (⟨"TwoWayLinesModel", "beginsRun", "(I)Z"⟩, 31), (⟨"TwoWayLinesModel", "seen", "(II)I"⟩, 31), (⟨"TwoWayLinesModel", "addRun", "(I)V"⟩, 31), (⟨"TwoWayLinesModel", "bounds", "()V"⟩, 31), (⟨"TwoWayLinesModel", "weak", "()V"⟩, 31), (⟨"TwoWayLinesModel", "at", "(I)I"⟩, 31), (⟨"TwoWayLinesModel", "set", "(II)V"⟩, 31), (⟨"TwoWayLinesModel", "terminators", "()V"⟩, 31)]
theorem lw_r4 : ∀ q ∈ lw_privs_4, lw_okq q := List.forall_mem_cons.mpr ⟨lw_p48, List.forall_mem_cons.mpr ⟨lw_p49, List.forall_mem_cons.mpr ⟨lw_p50, List.forall_mem_cons.mpr ⟨lw_p51, List.forall_mem_cons.mpr ⟨lw_p52, List.forall_mem_cons.mpr ⟨lw_p53, List.forall_mem_cons.mpr ⟨lw_p54, List.forall_mem_cons.mpr ⟨lw_p55, List.forall_mem_cons.mpr ⟨lw_p56, List.forall_mem_cons.mpr ⟨lw_p57, List.forall_mem_cons.mpr ⟨lw_p58, List.forall_mem_cons.mpr ⟨lw_p59, List.forall_mem_cons.mpr ⟨lw_p60, List.forall_mem_cons.mpr ⟨lw_p61, List.forall_mem_cons.mpr ⟨lw_p62, List.forall_mem_cons.mpr ⟨lw_p63, fun _ h => absurd h List.not_mem_nil⟩⟩⟩⟩⟩⟩⟩⟩⟩⟩⟩⟩⟩⟩⟩⟩
theorem lw_p64 : lw_okq (⟨"TwoWayLinesModel", "brackets", "()V"⟩, 31) := ⟨⟨by decide +kernel, by decide +kernel⟩, List.mem_of_getElem? (i := 606) (by decide +kernel), List.mem_of_getElem? (i := 839) (by decide +kernel), List.mem_of_getElem? (i := 840) (by decide +kernel)⟩
theorem lw_p65 : lw_okq (⟨"TwoWayLinesModel", "enclose", "(II)V"⟩, 31) := ⟨⟨by decide +kernel, by decide +kernel⟩, List.mem_of_getElem? (i := 606) (by decide +kernel), List.mem_of_getElem? (i := 843) (by decide +kernel), List.mem_of_getElem? (i := 844) (by decide +kernel)⟩
theorem lw_p66 : lw_okq (⟨"TwoWayLinesModel", "strong", "(I)I"⟩, 31) := ⟨⟨by decide +kernel, by decide +kernel⟩, List.mem_of_getElem? (i := 606) (by decide +kernel), List.mem_of_getElem? (i := 847) (by decide +kernel), List.mem_of_getElem? (i := 848) (by decide +kernel)⟩
theorem lw_p67 : lw_okq (⟨"TwoWayLinesModel", "give", "(II)V"⟩, 31) := ⟨⟨by decide +kernel, by decide +kernel⟩, List.mem_of_getElem? (i := 606) (by decide +kernel), List.mem_of_getElem? (i := 851) (by decide +kernel), List.mem_of_getElem? (i := 852) (by decide +kernel)⟩
theorem lw_p68 : lw_okq (⟨"TwoWayLinesModel", "neutral", "()V"⟩, 31) := ⟨⟨by decide +kernel, by decide +kernel⟩, List.mem_of_getElem? (i := 606) (by decide +kernel), List.mem_of_getElem? (i := 855) (by decide +kernel), List.mem_of_getElem? (i := 856) (by decide +kernel)⟩
theorem lw_p69 : lw_okq (⟨"TwoWayLinesModel", "resolve", "()V"⟩, 31) := ⟨⟨by decide +kernel, by decide +kernel⟩, List.mem_of_getElem? (i := 606) (by decide +kernel), List.mem_of_getElem? (i := 859) (by decide +kernel), List.mem_of_getElem? (i := 860) (by decide +kernel)⟩
theorem lw_p70 : lw_okq (⟨"TwoWayLinesModel", "fill", "()V"⟩, 31) := ⟨⟨by decide +kernel, by decide +kernel⟩, List.mem_of_getElem? (i := 606) (by decide +kernel), List.mem_of_getElem? (i := 863) (by decide +kernel), List.mem_of_getElem? (i := 864) (by decide +kernel)⟩
theorem lw_p71 : lw_okq (⟨"TwoWayLinesModel", "endOf", "(I)I"⟩, 31) := ⟨⟨by decide +kernel, by decide +kernel⟩, List.mem_of_getElem? (i := 606) (by decide +kernel), List.mem_of_getElem? (i := 867) (by decide +kernel), List.mem_of_getElem? (i := 868) (by decide +kernel)⟩
theorem lw_p72 : lw_okq (⟨"TwoWayLinesModel", "extentOf", "(II)I"⟩, 31) := ⟨⟨by decide +kernel, by decide +kernel⟩, List.mem_of_getElem? (i := 606) (by decide +kernel), List.mem_of_getElem? (i := 872) (by decide +kernel), List.mem_of_getElem? (i := 873) (by decide +kernel)⟩
theorem lw_p73 : lw_okq (⟨"TwoWayLinesModel", "showLine", "(II)V"⟩, 31) := ⟨⟨by decide +kernel, by decide +kernel⟩, List.mem_of_getElem? (i := 606) (by decide +kernel), List.mem_of_getElem? (i := 876) (by decide +kernel), List.mem_of_getElem? (i := 877) (by decide +kernel)⟩
theorem lw_p74 : lw_okq (⟨"TwoWayLinesModel", "turn", "(II)V"⟩, 31) := ⟨⟨by decide +kernel, by decide +kernel⟩, List.mem_of_getElem? (i := 606) (by decide +kernel), List.mem_of_getElem? (i := 880) (by decide +kernel), List.mem_of_getElem? (i := 881) (by decide +kernel)⟩
theorem lw_p75 : lw_okq (⟨"TwoWayLinesModel", "is", "(I)Z"⟩, 31) := ⟨⟨by decide +kernel, by decide +kernel⟩, List.mem_of_getElem? (i := 606) (by decide +kernel), List.mem_of_getElem? (i := 888) (by decide +kernel), List.mem_of_getElem? (i := 889) (by decide +kernel)⟩
def lw_privs_5 : List (MethodName × Nat) := [(⟨"TwoWayLinesModel", "brackets", "()V"⟩, 31), (⟨"TwoWayLinesModel", "enclose", "(II)V"⟩, 31), (⟨"TwoWayLinesModel", "strong", "(I)I"⟩, 31), (⟨"TwoWayLinesModel", "give", "(II)V"⟩, 31), (⟨"TwoWayLinesModel", "neutral", "()V"⟩, 31), (⟨"TwoWayLinesModel", "resolve", "()V"⟩, 31), (⟨"TwoWayLinesModel", "fill", "()V"⟩, 31), (⟨"TwoWayLinesModel", "endOf", "(I)I"⟩, 31), (⟨"TwoWayLinesModel", "extentOf", "(II)I"⟩, 31), (⟨"TwoWayLinesModel", "showLine", "(II)V"⟩, 31), (⟨"TwoWayLinesModel", "turn", "(II)V"⟩, 31), (⟨"TwoWayLinesModel", "is", "(I)Z"⟩, 31)]
theorem lw_r5 : ∀ q ∈ lw_privs_5, lw_okq q := List.forall_mem_cons.mpr ⟨lw_p64, List.forall_mem_cons.mpr ⟨lw_p65, List.forall_mem_cons.mpr ⟨lw_p66, List.forall_mem_cons.mpr ⟨lw_p67, List.forall_mem_cons.mpr ⟨lw_p68, List.forall_mem_cons.mpr ⟨lw_p69, List.forall_mem_cons.mpr ⟨lw_p70, List.forall_mem_cons.mpr ⟨lw_p71, List.forall_mem_cons.mpr ⟨lw_p72, List.forall_mem_cons.mpr ⟨lw_p73, List.forall_mem_cons.mpr ⟨lw_p74, List.forall_mem_cons.mpr ⟨lw_p75, fun _ h => absurd h List.not_mem_nil⟩⟩⟩⟩⟩⟩⟩⟩⟩⟩⟩⟩
def lw_privs : List (MethodName × Nat) := lw_privs_1 ++ (lw_privs_2 ++ (lw_privs_3 ++ (lw_privs_4 ++ (lw_privs_5))))
def lw_tbl : List Cond := k2_sels lw_privs ++ tables_1
theorem lw_privs_ok : ∀ q ∈ lw_privs, lw_okq q := by
  show ∀ q ∈ lw_privs_1 ++ (lw_privs_2 ++ (lw_privs_3 ++ (lw_privs_4 ++ (lw_privs_5)))), lw_okq q
  exact List.forall_mem_append.mpr ⟨lw_r1, List.forall_mem_append.mpr ⟨lw_r2, List.forall_mem_append.mpr ⟨lw_r3, List.forall_mem_append.mpr ⟨lw_r4, lw_r5⟩⟩⟩⟩
end
section
def twR_tl : String := "TwoWayLines"
def twT_tl : u_T := fun k => match k with
  | 0 => ("TwoWayLines", "paragraph", "LTwoWayLines$Paragraph;", true)
  | 1 => ("TwoWayLines", "levels", "LTwoWayLines$Levels;", true)
  | 2 => ("TwoWayLines", "filling", "LTwoWayLines$Filling;", true)
  | 3 => ("TwoWayLines", "showing", "LTwoWayLines$Showing;", true)
  | 4 => ("TwoWayLines", "measure", "I", false)
  | _ => ("TwoWayLines", "stale", "Z", false)
def twt_tl : Nat → FieldType := fun k => match k with
  | 0 => .object "TwoWayLines$Paragraph"
  | 1 => .object "TwoWayLines$Levels"
  | 2 => .object "TwoWayLines$Filling"
  | 3 => .object "TwoWayLines$Showing"
  | 4 => .int
  | _ => .boolean
theorem twnm_tl : ∀ a, a < 6 → ∀ b, b < 6 → a ≠ b → (twT_tl a).2.1 ≠ (twT_tl b).2.1 := by decide +kernel
theorem twtok_tl : ∀ k, k < 6 → parseFieldDescriptor (twT_tl k).2.2.1 = some (twt_tl k) := by decide +kernel
def twR_pa : String := "TwoWayLines$Paragraph"
def twT_pa : u_T := fun k => match k with
  | 0 => ("TwoWayLines$Paragraph", "kinds", "[I", true)
  | 1 => ("TwoWayLines$Paragraph", "groups", "[I", true)
  | 2 => ("TwoWayLines$Paragraph", "widths", "[I", true)
  | 3 => ("TwoWayLines$Paragraph", "pairs", "[I", true)
  | 4 => ("TwoWayLines$Paragraph", "size", "I", false)
  | _ => ("TwoWayLines$Paragraph", "base", "I", false)
def twt_pa : Nat → FieldType := fun k => match k with
  | 0 => .array .int
  | 1 => .array .int
  | 2 => .array .int
  | 3 => .array .int
  | 4 => .int
  | _ => .int
theorem twnm_pa : ∀ a, a < 6 → ∀ b, b < 6 → a ≠ b → (twT_pa a).2.1 ≠ (twT_pa b).2.1 := by decide +kernel
theorem twtok_pa : ∀ k, k < 6 → parseFieldDescriptor (twT_pa k).2.2.1 = some (twt_pa k) := by decide +kernel
def twR_le : String := "TwoWayLines$Levels"
def twT_le : u_T := fun k => match k with
  | 0 => ("TwoWayLines$Levels", "matches", "LTwoWayLines$Matches;", true)
  | 1 => ("TwoWayLines$Levels", "types", "[I", true)
  | 2 => ("TwoWayLines$Levels", "partners", "[I", true)
  | 3 => ("TwoWayLines$Levels", "resolved", "[I", true)
  | 4 => ("TwoWayLines$Levels", "ofParagraph", "I", false)
  | 5 => ("TwoWayLines$Levels", "explicit", "LTwoWayLines$Explicit;", true)
  | 6 => ("TwoWayLines$Levels", "sequence", "LTwoWayLines$Sequence;", true)
  | _ => ("TwoWayLines$Levels", "brackets", "LTwoWayLines$Brackets;", true)
def twt_le : Nat → FieldType := fun k => match k with
  | 0 => .object "TwoWayLines$Matches"
  | 1 => .array .int
  | 2 => .array .int
  | 3 => .array .int
  | 4 => .int
  | 5 => .object "TwoWayLines$Explicit"
  | 6 => .object "TwoWayLines$Sequence"
  | _ => .object "TwoWayLines$Brackets"
theorem twnm_le : ∀ a, a < 8 → ∀ b, b < 8 → a ≠ b → (twT_le a).2.1 ≠ (twT_le b).2.1 := by decide +kernel
theorem twtok_le : ∀ k, k < 8 → parseFieldDescriptor (twT_le k).2.2.1 = some (twt_le k) := by decide +kernel
def twR_ma : String := "TwoWayLines$Matches"
def twT_ma : u_T := fun k => match k with
  | 0 => ("TwoWayLines$Matches", "others", "[I", true)
  | _ => ("TwoWayLines$Matches", "waiting", "[I", true)
def twt_ma : Nat → FieldType := fun k => match k with
  | 0 => .array .int
  | _ => .array .int
theorem twnm_ma : ∀ a, a < 2 → ∀ b, b < 2 → a ≠ b → (twT_ma a).2.1 ≠ (twT_ma b).2.1 := by decide +kernel
theorem twtok_ma : ∀ k, k < 2 → parseFieldDescriptor (twT_ma k).2.2.1 = some (twt_ma k) := by decide +kernel
def twR_ex : String := "TwoWayLines$Explicit"
def twT_ex : u_T := fun k => match k with
  | 0 => ("TwoWayLines$Explicit", "levels", "[I", true)
  | 1 => ("TwoWayLines$Explicit", "types", "[I", true)
  | 2 => ("TwoWayLines$Explicit", "entryLevels", "[I", true)
  | 3 => ("TwoWayLines$Explicit", "entryOverrides", "[I", true)
  | 4 => ("TwoWayLines$Explicit", "entryIsolates", "[Z", true)
  | 5 => ("TwoWayLines$Explicit", "last", "I", false)
  | 6 => ("TwoWayLines$Explicit", "lostIsolates", "I", false)
  | 7 => ("TwoWayLines$Explicit", "lostEmbeddings", "I", false)
  | _ => ("TwoWayLines$Explicit", "openIsolates", "I", false)
def twt_ex : Nat → FieldType := fun k => match k with
  | 0 => .array .int
  | 1 => .array .int
  | 2 => .array .int
  | 3 => .array .int
  | 4 => .array .boolean
  | 5 => .int
  | 6 => .int
  | 7 => .int
  | _ => .int
theorem twnm_ex : ∀ a, a < 9 → ∀ b, b < 9 → a ≠ b → (twT_ex a).2.1 ≠ (twT_ex b).2.1 := by decide +kernel
theorem twtok_ex : ∀ k, k < 9 → parseFieldDescriptor (twT_ex k).2.2.1 = some (twt_ex k) := by decide +kernel
def twR_se : String := "TwoWayLines$Sequence"
def twT_se : u_T := fun k => match k with
  | 0 => ("TwoWayLines$Sequence", "places", "[I", true)
  | 1 => ("TwoWayLines$Sequence", "types", "[I", true)
  | 2 => ("TwoWayLines$Sequence", "marks", "[Z", true)
  | 3 => ("TwoWayLines$Sequence", "count", "I", false)
  | 4 => ("TwoWayLines$Sequence", "embedding", "I", false)
  | 5 => ("TwoWayLines$Sequence", "beginning", "I", false)
  | _ => ("TwoWayLines$Sequence", "end", "I", false)
def twt_se : Nat → FieldType := fun k => match k with
  | 0 => .array .int
  | 1 => .array .int
  | 2 => .array .boolean
  | 3 => .int
  | 4 => .int
  | 5 => .int
  | _ => .int
theorem twnm_se : ∀ a, a < 7 → ∀ b, b < 7 → a ≠ b → (twT_se a).2.1 ≠ (twT_se b).2.1 := by decide +kernel
theorem twtok_se : ∀ k, k < 7 → parseFieldDescriptor (twT_se k).2.2.1 = some (twt_se k) := by decide +kernel
def twR_br : String := "TwoWayLines$Brackets"
def twT_br : u_T := fun k => match k with
  | 0 => ("TwoWayLines$Brackets", "partners", "[I", true)
  | _ => ("TwoWayLines$Brackets", "list", "[I", true)
def twt_br : Nat → FieldType := fun k => match k with
  | 0 => .array .int
  | _ => .array .int
theorem twnm_br : ∀ a, a < 2 → ∀ b, b < 2 → a ≠ b → (twT_br a).2.1 ≠ (twT_br b).2.1 := by decide +kernel
theorem twtok_br : ∀ k, k < 2 → parseFieldDescriptor (twT_br k).2.2.1 = some (twt_br k) := by decide +kernel
def twR_fi : String := "TwoWayLines$Filling"
def twT_fi : u_T := fun k => match k with
  | 0 => ("TwoWayLines$Filling", "breaks", "[Z", true)
  | 1 => ("TwoWayLines$Filling", "starts", "[I", true)
  | 2 => ("TwoWayLines$Filling", "extents", "[I", true)
  | 3 => ("TwoWayLines$Filling", "count", "I", false)
  | _ => ("TwoWayLines$Filling", "groups", "[I", true)
def twt_fi : Nat → FieldType := fun k => match k with
  | 0 => .array .boolean
  | 1 => .array .int
  | 2 => .array .int
  | 3 => .int
  | _ => .array .int
theorem twnm_fi : ∀ a, a < 5 → ∀ b, b < 5 → a ≠ b → (twT_fi a).2.1 ≠ (twT_fi b).2.1 := by decide +kernel
theorem twtok_fi : ∀ k, k < 5 → parseFieldDescriptor (twT_fi k).2.2.1 = some (twt_fi k) := by decide +kernel
def twR_sh : String := "TwoWayLines$Showing"
def twT_sh : u_T := fun k => match k with
  | 0 => ("TwoWayLines$Showing", "levels", "[I", true)
  | _ => ("TwoWayLines$Showing", "order", "[I", true)
def twt_sh : Nat → FieldType := fun k => match k with
  | 0 => .array .int
  | _ => .array .int
theorem twnm_sh : ∀ a, a < 2 → ∀ b, b < 2 → a ≠ b → (twT_sh a).2.1 ≠ (twT_sh b).2.1 := by decide +kernel
theorem twtok_sh : ∀ k, k < 2 → parseFieldDescriptor (twT_sh k).2.2.1 = some (twt_sh k) := by decide +kernel
def twR_mo : String := "TwoWayLinesModel"
def twT_mo : u_T := fun k => match k with
  | 0 => ("TwoWayLinesModel", "base", "I", false)
  | 1 => ("TwoWayLinesModel", "measure", "I", false)
  | 2 => ("TwoWayLinesModel", "size", "I", false)
  | 3 => ("TwoWayLinesModel", "kind", "[I", true)
  | 4 => ("TwoWayLinesModel", "group", "[I", true)
  | 5 => ("TwoWayLinesModel", "width", "[I", true)
  | 6 => ("TwoWayLinesModel", "pair", "[I", true)
  | 7 => ("TwoWayLinesModel", "known", "Z", false)
  | 8 => ("TwoWayLinesModel", "root", "I", false)
  | 9 => ("TwoWayLinesModel", "level", "[I", true)
  | 10 => ("TwoWayLinesModel", "type", "[I", true)
  | 11 => ("TwoWayLinesModel", "resolved", "[I", true)
  | 12 => ("TwoWayLinesModel", "partner", "[I", true)
  | 13 => ("TwoWayLinesModel", "top", "I", false)
  | 14 => ("TwoWayLinesModel", "entry", "[I", true)
  | 15 => ("TwoWayLinesModel", "override", "[I", true)
  | 16 => ("TwoWayLinesModel", "isolate", "[Z", true)
  | 17 => ("TwoWayLinesModel", "lostIsolates", "I", false)
  | 18 => ("TwoWayLinesModel", "lostEmbeddings", "I", false)
  | 19 => ("TwoWayLinesModel", "openIsolates", "I", false)
  | 20 => ("TwoWayLinesModel", "n", "I", false)
  | 21 => ("TwoWayLinesModel", "seq", "[I", true)
  | 22 => ("TwoWayLinesModel", "mark", "[Z", true)
  | 23 => ("TwoWayLinesModel", "beginning", "I", false)
  | 24 => ("TwoWayLinesModel", "ending", "I", false)
  | 25 => ("TwoWayLinesModel", "embedding", "I", false)
  | 26 => ("TwoWayLinesModel", "list", "[I", true)
  | 27 => ("TwoWayLinesModel", "lines", "I", false)
  | 28 => ("TwoWayLinesModel", "starts", "[I", true)
  | 29 => ("TwoWayLinesModel", "shownLevels", "[I", true)
  | _ => ("TwoWayLinesModel", "order", "[I", true)
def twt_mo : Nat → FieldType := fun k => match k with
  | 0 => .int
  | 1 => .int
  | 2 => .int
  | 3 => .array .int
  | 4 => .array .int
  | 5 => .array .int
  | 6 => .array .int
  | 7 => .boolean
  | 8 => .int
  | 9 => .array .int
  | 10 => .array .int
  | 11 => .array .int
  | 12 => .array .int
  | 13 => .int
  | 14 => .array .int
  | 15 => .array .int
  | 16 => .array .boolean
  | 17 => .int
  | 18 => .int
  | 19 => .int
  | 20 => .int
  | 21 => .array .int
  | 22 => .array .boolean
  | 23 => .int
  | 24 => .int
  | 25 => .int
  | 26 => .array .int
  | 27 => .int
  | 28 => .array .int
  | 29 => .array .int
  | _ => .array .int
theorem twnm_mo : ∀ a, a < 31 → ∀ b, b < 31 → a ≠ b → (twT_mo a).2.1 ≠ (twT_mo b).2.1 := by decide +kernel
theorem twtok_mo : ∀ k, k < 31 → parseFieldDescriptor (twT_mo k).2.2.1 = some (twt_mo k) := by decide +kernel
abbrev tw_cls : List vw_C := [(twR_tl, twT_tl, 6), (twR_pa, twT_pa, 6), (twR_le, twT_le, 8), (twR_ma, twT_ma, 2), (twR_ex, twT_ex, 9), (twR_se, twT_se, 7), (twR_br, twT_br, 2), (twR_fi, twT_fi, 5), (twR_sh, twT_sh, 2), (twR_mo, twT_mo, 31)]
def tw_Wg : List Cond := lw_tbl.filter goodWord
theorem tw_good : ∀ w ∈ tw_Wg, goodWord w = true := fun w h => (List.mem_filter.mp h).2
theorem tw_Wg_in : ∀ w ∈ tw_Wg, w ∈ lw_tbl := fun w h => (List.mem_filter.mp h).1
theorem tw_Wg_of {w : Cond} {i : Nat} (h : lw_tbl[i]? = some w) (hg : goodWord w = true) : w ∈ tw_Wg := List.mem_filter.mpr ⟨List.mem_of_getElem? h, hg⟩
def twy_tl_within : MethodName := ⟨twR_tl, "within", "(III)Z"⟩
def twy_pa_append : MethodName := ⟨twR_pa, "append", "(IIII)Z"⟩
def twy_tl_add : MethodName := ⟨twR_tl, "add", "(IIII)Z"⟩
def twy_tl_drop : MethodName := ⟨twR_tl, "drop", "()Z"⟩
def twy_tl_clear : MethodName := ⟨twR_tl, "clear", "()V"⟩
def twy_tl_base : MethodName := ⟨twR_tl, "base", "(I)Z"⟩
def twy_tl_measure : MethodName := ⟨twR_tl, "measure", "(I)Z"⟩
def twy_tl_length : MethodName := ⟨twR_tl, "length", "()I"⟩
def twy_tl_isOpener : MethodName := ⟨twR_tl, "isOpener", "(I)Z"⟩
def twy_ma_find : MethodName := ⟨twR_ma, "find", "(LTwoWayLines$Paragraph;)V"⟩
def twy_ma_direction : MethodName := ⟨twR_ma, "direction", "(LTwoWayLines$Paragraph;II)I"⟩
def twy_ex_begin : MethodName := ⟨twR_ex, "begin", "(I)V"⟩
def twy_ex_endIsolate : MethodName := ⟨twR_ex, "endIsolate", "()V"⟩
def twy_ex_endEmbedding : MethodName := ⟨twR_ex, "endEmbedding", "()V"⟩
def twy_tl_isHidden : MethodName := ⟨twR_tl, "isHidden", "(I)Z"⟩
def twy_tl_isOdd : MethodName := ⟨twR_tl, "isOdd", "(I)Z"⟩
def twy_ex_nextLevel : MethodName := ⟨twR_ex, "nextLevel", "(Z)I"⟩
def twy_ex_fits : MethodName := ⟨twR_ex, "fits", "(I)Z"⟩
def twy_ex_overrideOf : MethodName := ⟨twR_ex, "overrideOf", "(I)I"⟩
def twy_ex_push : MethodName := ⟨twR_ex, "push", "(IIZ)V"⟩
def twy_ex_beginEmbedding : MethodName := ⟨twR_ex, "beginEmbedding", "(I)V"⟩
def twy_ex_give : MethodName := ⟨twR_ex, "give", "(II)V"⟩
def twy_ex_wantsOdd : MethodName := ⟨twR_ex, "wantsOdd", "(LTwoWayLines$Paragraph;LTwoWayLines$Matches;I)Z"⟩
def twy_ex_beginIsolate : MethodName := ⟨twR_ex, "beginIsolate", "(Z)V"⟩
def twy_ex_assign : MethodName := ⟨twR_ex, "assign", "(LTwoWayLines$Paragraph;LTwoWayLines$Matches;I)V"⟩
def twy_le_readMarks : MethodName := ⟨twR_le, "readMarks", "(LTwoWayLines$Paragraph;)V"⟩
def twy_le_visibleBefore : MethodName := ⟨twR_le, "visibleBefore", "(LTwoWayLines$Paragraph;I)I"⟩
def twy_le_beginsSequence : MethodName := ⟨twR_le, "beginsSequence", "(LTwoWayLines$Paragraph;I)Z"⟩
def twy_se_append : MethodName := ⟨twR_se, "append", "(II)V"⟩
def twy_le_takeRun : MethodName := ⟨twR_le, "takeRun", "(LTwoWayLines$Paragraph;I)I"⟩
def twy_le_gather : MethodName := ⟨twR_le, "gather", "(LTwoWayLines$Paragraph;I)V"⟩
def twy_le_visibleBehind : MethodName := ⟨twR_le, "visibleBehind", "(LTwoWayLines$Paragraph;I)I"⟩
def twy_tl_sideOf : MethodName := ⟨twR_tl, "sideOf", "(I)I"⟩
def twy_le_levelBeside : MethodName := ⟨twR_le, "levelBeside", "(I)I"⟩
def twy_le_setSides : MethodName := ⟨twR_le, "setSides", "(LTwoWayLines$Paragraph;)V"⟩
def twy_tl_isIsolateMark : MethodName := ⟨twR_tl, "isIsolateMark", "(I)Z"⟩
def twy_se_joinMarks : MethodName := ⟨twR_se, "joinMarks", "()V"⟩
def twy_se_turnArabicNumbers : MethodName := ⟨twR_se, "turnArabicNumbers", "()V"⟩
def twy_se_turnSeparators : MethodName := ⟨twR_se, "turnSeparators", "()V"⟩
def twy_se_turnTerminators : MethodName := ⟨twR_se, "turnTerminators", "()V"⟩
def twy_se_freeLeftovers : MethodName := ⟨twR_se, "freeLeftovers", "()V"⟩
def twy_se_turnLatinNumbers : MethodName := ⟨twR_se, "turnLatinNumbers", "()V"⟩
def twy_se_resolveWeak : MethodName := ⟨twR_se, "resolveWeak", "()V"⟩
def twy_br_close : MethodName := ⟨twR_br, "close", "(LTwoWayLines$Paragraph;LTwoWayLines$Sequence;II)I"⟩
def twy_br_pairUp : MethodName := ⟨twR_br, "pairUp", "(LTwoWayLines$Paragraph;LTwoWayLines$Sequence;)V"⟩
def twy_se_strongAt : MethodName := ⟨twR_se, "strongAt", "(I)I"⟩
def twy_br_strongBetween : MethodName := ⟨twR_br, "strongBetween", "(LTwoWayLines$Sequence;II)I"⟩
def twy_br_strongBefore : MethodName := ⟨twR_br, "strongBefore", "(LTwoWayLines$Sequence;I)I"⟩
def twy_br_give : MethodName := ⟨twR_br, "give", "(LTwoWayLines$Sequence;II)V"⟩
def twy_br_settle : MethodName := ⟨twR_br, "settle", "(LTwoWayLines$Sequence;II)V"⟩
def twy_br_resolve : MethodName := ⟨twR_br, "resolve", "(LTwoWayLines$Paragraph;LTwoWayLines$Sequence;)V"⟩
def twy_se_fillTypes : MethodName := ⟨twR_se, "fillTypes", "(III)V"⟩
def twy_se_resolveNeutral : MethodName := ⟨twR_se, "resolveNeutral", "()V"⟩
def twy_le_keep : MethodName := ⟨twR_le, "keep", "()V"⟩
def twy_le_resolveSequences : MethodName := ⟨twR_le, "resolveSequences", "(LTwoWayLines$Paragraph;)V"⟩
def twy_le_raised : MethodName := ⟨twR_le, "raised", "(II)I"⟩
def twy_le_raise : MethodName := ⟨twR_le, "raise", "(LTwoWayLines$Paragraph;)V"⟩
def twy_fi_findGroups : MethodName := ⟨twR_fi, "findGroups", "(LTwoWayLines$Paragraph;)V"⟩
def twy_fi_parts : MethodName := ⟨twR_fi, "parts", "(III)Z"⟩
def twy_fi_findBreaks : MethodName := ⟨twR_fi, "findBreaks", "(LTwoWayLines$Paragraph;)V"⟩
def twy_fi_endOfLine : MethodName := ⟨twR_fi, "endOfLine", "(LTwoWayLines$Paragraph;II)I"⟩
def twy_fi_extentOf : MethodName := ⟨twR_fi, "extentOf", "(LTwoWayLines$Paragraph;II)I"⟩
def twy_fi_fill : MethodName := ⟨twR_fi, "fill", "(LTwoWayLines$Paragraph;I)V"⟩
def twy_sh_setLevels : MethodName := ⟨twR_sh, "setLevels", "(LTwoWayLines$Paragraph;LTwoWayLines$Levels;II)V"⟩
def twy_sh_turn : MethodName := ⟨twR_sh, "turn", "(II)V"⟩
def twy_sh_turnRows : MethodName := ⟨twR_sh, "turnRows", "(III)V"⟩
def twy_sh_setOrder : MethodName := ⟨twR_sh, "setOrder", "(II)V"⟩
def twy_sh_arrange : MethodName := ⟨twR_sh, "arrange", "(LTwoWayLines$Paragraph;LTwoWayLines$Levels;LTwoWayLines$Filling;)V"⟩
def twy_tl_layOut : MethodName := ⟨twR_tl, "layOut", "()V"⟩
def twy_tl_paragraphLevel : MethodName := ⟨twR_tl, "paragraphLevel", "()I"⟩
def twy_pa_has : MethodName := ⟨twR_pa, "has", "(I)Z"⟩
def twy_tl_match : MethodName := ⟨twR_tl, "match", "(I)I"⟩
def twy_tl_partner : MethodName := ⟨twR_tl, "partner", "(I)I"⟩
def twy_tl_type : MethodName := ⟨twR_tl, "type", "(I)I"⟩
def twy_tl_level : MethodName := ⟨twR_tl, "level", "(I)I"⟩
def twy_tl_mayBreak : MethodName := ⟨twR_tl, "mayBreak", "(I)Z"⟩
def twy_tl_lines : MethodName := ⟨twR_tl, "lines", "()I"⟩
def twy_tl_start : MethodName := ⟨twR_tl, "start", "(I)I"⟩
def twy_fi_has : MethodName := ⟨twR_fi, "has", "(I)Z"⟩
def twy_tl_extent : MethodName := ⟨twR_tl, "extent", "(I)I"⟩
def twy_tl_shownLevel : MethodName := ⟨twR_tl, "shownLevel", "(I)I"⟩
def twy_tl_shown : MethodName := ⟨twR_tl, "shown", "(II)I"⟩
def twy_tl_mirrored : MethodName := ⟨twR_tl, "mirrored", "(I)Z"⟩
def twy_mo_add : MethodName := ⟨twR_mo, "add", "(IIII)Z"⟩
def twy_mo_drop : MethodName := ⟨twR_mo, "drop", "()Z"⟩
def twy_mo_clear : MethodName := ⟨twR_mo, "clear", "()V"⟩
def twy_mo_base : MethodName := ⟨twR_mo, "base", "(I)Z"⟩
def twy_mo_measure : MethodName := ⟨twR_mo, "measure", "(I)Z"⟩
def twy_mo_length : MethodName := ⟨twR_mo, "length", "()I"⟩
def twy_mo_opener : MethodName := ⟨twR_mo, "opener", "(I)Z"⟩
def twy_mo_hidden : MethodName := ⟨twR_mo, "hidden", "(I)Z"⟩
def twy_mo_closing : MethodName := ⟨twR_mo, "closing", "(I)I"⟩
def twy_mo_match : MethodName := ⟨twR_mo, "match", "(I)I"⟩
def twy_mo_direction : MethodName := ⟨twR_mo, "direction", "(II)I"⟩
def twy_mo_put : MethodName := ⟨twR_mo, "put", "(IIZ)V"⟩
def twy_mo_next : MethodName := ⟨twR_mo, "next", "(Z)I"⟩
def twy_mo_fits : MethodName := ⟨twR_mo, "fits", "(I)Z"⟩
def twy_mo_settle : MethodName := ⟨twR_mo, "settle", "(I)V"⟩
def twy_mo_embed : MethodName := ⟨twR_mo, "embed", "(I)V"⟩
def twy_mo_isolateAt : MethodName := ⟨twR_mo, "isolateAt", "(I)V"⟩
def twy_mo_leave : MethodName := ⟨twR_mo, "leave", "(I)V"⟩
def twy_mo_pop : MethodName := ⟨twR_mo, "pop", "()V"⟩
def twy_mo_explicit : MethodName := ⟨twR_mo, "explicit", "()V"⟩
def twy_mo_seen : MethodName := ⟨twR_mo, "seen", "(II)I"⟩
def twy_mo_beginsRun : MethodName := ⟨twR_mo, "beginsRun", "(I)Z"⟩
def twy_mo_addRun : MethodName := ⟨twR_mo, "addRun", "(I)V"⟩
def twy_mo_bounds : MethodName := ⟨twR_mo, "bounds", "()V"⟩
def twy_mo_at : MethodName := ⟨twR_mo, "at", "(I)I"⟩
def twy_mo_set : MethodName := ⟨twR_mo, "set", "(II)V"⟩
def twy_mo_terminators : MethodName := ⟨twR_mo, "terminators", "()V"⟩
def twy_mo_weak : MethodName := ⟨twR_mo, "weak", "()V"⟩
def twy_mo_strong : MethodName := ⟨twR_mo, "strong", "(I)I"⟩
def twy_mo_give : MethodName := ⟨twR_mo, "give", "(II)V"⟩
def twy_mo_enclose : MethodName := ⟨twR_mo, "enclose", "(II)V"⟩
def twy_mo_brackets : MethodName := ⟨twR_mo, "brackets", "()V"⟩
def twy_mo_neutral : MethodName := ⟨twR_mo, "neutral", "()V"⟩
def twy_mo_sequences : MethodName := ⟨twR_mo, "sequences", "()V"⟩
def twy_mo_resolve : MethodName := ⟨twR_mo, "resolve", "()V"⟩
def twy_mo_groupOf : MethodName := ⟨twR_mo, "groupOf", "(I)I"⟩
def twy_mo_mayBreak : MethodName := ⟨twR_mo, "mayBreak", "(I)Z"⟩
def twy_mo_extentOf : MethodName := ⟨twR_mo, "extentOf", "(II)I"⟩
def twy_mo_endOf : MethodName := ⟨twR_mo, "endOf", "(I)I"⟩
def twy_mo_turn : MethodName := ⟨twR_mo, "turn", "(II)V"⟩
def twy_mo_showLine : MethodName := ⟨twR_mo, "showLine", "(II)V"⟩
def twy_mo_fill : MethodName := ⟨twR_mo, "fill", "()V"⟩
def twy_mo_work : MethodName := ⟨twR_mo, "work", "()V"⟩
def twy_mo_is : MethodName := ⟨twR_mo, "is", "(I)Z"⟩
def twy_mo_paragraphLevel : MethodName := ⟨twR_mo, "paragraphLevel", "()I"⟩
def twy_mo_partner : MethodName := ⟨twR_mo, "partner", "(I)I"⟩
def twy_mo_type : MethodName := ⟨twR_mo, "type", "(I)I"⟩
def twy_mo_level : MethodName := ⟨twR_mo, "level", "(I)I"⟩
def twy_mo_lines : MethodName := ⟨twR_mo, "lines", "()I"⟩
def twy_mo_start : MethodName := ⟨twR_mo, "start", "(I)I"⟩
def twy_mo_extent : MethodName := ⟨twR_mo, "extent", "(I)I"⟩
def twy_mo_shownLevel : MethodName := ⟨twR_mo, "shownLevel", "(I)I"⟩
def twy_mo_shown : MethodName := ⟨twR_mo, "shown", "(II)I"⟩
def twy_mo_mirrored : MethodName := ⟨twR_mo, "mirrored", "(I)Z"⟩
end
section
/-! ints of the machine as Int within their range; references as numbers of cells; a memory as a list of cells; a judgement over them (tw_rn) and its rows -/
def tw_I (z : Int) : Int32 := Int32.ofInt z
abbrev tw_rg (z : Int) : Prop := -2147483648 ≤ z ∧ z ≤ 2147483647
theorem tw_I_toInt {z : Int} (h : tw_rg z) : (tw_I z).toInt = z := Int32.toInt_ofInt_of_le (by have := h.1; omega) (by have := h.2; omega)
theorem tw_rg_of (x : Int32) : tw_rg x.toInt := ⟨by have := x.le_toInt; omega, by have := x.toInt_lt; omega⟩
theorem tw_I_of (x : Int32) : tw_I x.toInt = x := Int32.ofInt_toInt x
theorem tw_I_lt {a b : Int} (ha : tw_rg a) (hb : tw_rg b) : tw_I a < tw_I b ↔ a < b := by rw [Int32.lt_iff_toInt_lt, tw_I_toInt ha, tw_I_toInt hb]
theorem tw_I_le {a b : Int} (ha : tw_rg a) (hb : tw_rg b) : tw_I a ≤ tw_I b ↔ a ≤ b := by rw [Int32.le_iff_toInt_le, tw_I_toInt ha, tw_I_toInt hb]
theorem tw_I_eq {a b : Int} (ha : tw_rg a) (hb : tw_rg b) : tw_I a = tw_I b ↔ a = b := by rw [← Int32.toInt_inj, tw_I_toInt ha, tw_I_toInt hb]
theorem tw_rg0 : tw_rg 0 := by unfold tw_rg; omega
theorem tw_I_0 : tw_I 0 = 0 := rfl
theorem tw_I_lt0 {a : Int} (ha : tw_rg a) : tw_I a < 0 ↔ a < 0 := tw_I_lt ha tw_rg0
theorem tw_I_le0 {a : Int} (ha : tw_rg a) : tw_I a ≤ 0 ↔ a ≤ 0 := tw_I_le ha tw_rg0
theorem tw_I_gt0 {a : Int} (ha : tw_rg a) : 0 < tw_I a ↔ 0 < a := tw_I_lt tw_rg0 ha
theorem tw_I_ge0 {a : Int} (ha : tw_rg a) : 0 ≤ tw_I a ↔ 0 ≤ a := tw_I_le tw_rg0 ha
theorem tw_I_eq0 {a : Int} (ha : tw_rg a) : tw_I a = 0 ↔ a = 0 := tw_I_eq ha tw_rg0
theorem tw_I_add (a b : Int) : tw_I a + tw_I b = tw_I (a + b) := (Int32.ofInt_add a b).symm
theorem tw_I_sub (a b : Int) : tw_I a - tw_I b = tw_I (a - b) := (Int32.ofInt_sub a b).symm
theorem tw_I_neg (a : Int) : -tw_I a = tw_I (-a) := (Int32.ofInt_neg a).symm
theorem tw_I_cl {i : Int} (h : tw_rg i) : (tw_I i).toNatClampNeg = i.toNat := Int32.toNatClampNeg_ofInt_of_le (by have := h.1; omega) (by have := h.2; omega)
theorem tw_I_in {i : Int} {n : Nat} (h : tw_rg i) (h0 : 0 ≤ i) (h1 : i < (n : Int)) : vp_in (tw_I i) n := vp_in_iff.mpr ⟨by rw [tw_I_toInt h]; exact h0, by rw [tw_I_toInt h]; exact h1⟩
theorem tw_I_nat {a : Int} (h0 : 0 ≤ a) : tw_I a = nI a.toNat := by
  obtain ⟨n, rfl⟩ := Int.eq_ofNat_of_zero_le h0
  rfl
theorem tw_rg_div {a b : Int} (ha : tw_rg a) (h0 : 0 ≤ a) (h1 : 0 < b) : tw_rg (a / b) := by
  have h2 := Int.ediv_nonneg h0 (Int.le_of_lt h1)
  have h3 := Int.ediv_le_self b h0
  have := ha.2
  unfold tw_rg
  omega
theorem tw_rg_mod {a b : Int} (hb : tw_rg b) (h1 : 0 < b) : tw_rg (a % b) := by
  have h2 := Int.emod_nonneg a (by omega : b ≠ 0)
  have h3 := Int.emod_lt_of_pos a h1
  have := hb.2
  unfold tw_rg
  omega
theorem tw_I_ne0 {b : Int} (hb : tw_rg b) (h1 : 0 < b) : ¬ tw_I b = 0 := fun h => by
  have := (tw_I_eq0 hb).mp h
  omega
theorem tw_I_div {a b : Int} (ha : tw_rg a) (hb : tw_rg b) (h0 : 0 ≤ a) (h1 : 0 < b) : tw_I a / tw_I b = tw_I (a / b) := by
  have hm : tw_I b ≠ -1 := fun h => by
    have h2 := congrArg Int32.toInt h
    rw [tw_I_toInt hb] at h2
    have h3 : (-1 : Int32).toInt = -1 := by decide
    omega
  rw [← Int32.toInt_inj, Int32.toInt_div_of_ne_right _ _ hm, tw_I_toInt ha, tw_I_toInt hb, tw_I_toInt (tw_rg_div ha h0 h1), Int.tdiv_eq_ediv_of_nonneg h0]
theorem tw_I_rem {a b : Int} (ha : tw_rg a) (hb : tw_rg b) (h0 : 0 ≤ a) (h1 : 0 < b) : tw_I a - tw_I a / tw_I b * tw_I b = tw_I (a % b) := by
  rw [← Int32.toInt_inj, rem_toInt, tw_I_toInt ha, tw_I_toInt hb, tw_I_toInt (tw_rg_mod hb h1), Int.tmod_eq_emod_of_nonneg h0]
theorem tw_I_and1 {a : Int} (ha : tw_rg a) (h0 : 0 ≤ a) : tw_I a &&& tw_I 1 = tw_I (a % 2) := by
  have h2 := Int.emod_nonneg a (by omega : (2 : Int) ≠ 0)
  have h3 := ha.2
  rw [tw_I_nat h0, tw_I_nat h2, pk_andN (n := a.toNat) (by omega) 1 rfl]
  congr 1
  omega
/-- values -/
abbrev tw_v : Type := Int ⊕ Nat
def tw_cv (ad : Nat → Nat) (v : tw_v) : Value := match v with
  | .inl z => .int (tw_I z)
  | .inr k => .ref (ad k)
def tw_okv (v : tw_v) : Prop := match v with
  | .inl z => tw_rg z
  | .inr _ => True
theorem tw_cat (ad : Nat → Nat) (v : tw_v) : (tw_cv ad v).category = 1 := by cases v <;> rfl
/-- cells: an array (of booleans?, its length, its contents), or an object (the number of its kind, its fields) -/
abbrev tw_c : Type := (Bool × Nat × (Nat → Int)) ⊕ (Nat × List tw_v)
def tw_cc (ad : Nat → Nat) (cI cZ : ClassId) (c : tw_c) : va_E := match c with
  | .inl (z, n, f) => .inl (if z then cZ else cI, n, .inl fun j => tw_I (f j))
  | .inr (ci, fs) => .inr (ci, fs.map (tw_cv ad))
def tw_okc (c : tw_c) : Prop := match c with
  | .inl (_, _, f) => ∀ j, tw_rg (f j)
  | .inr (_, fs) => ∀ v ∈ fs, tw_okv v
def tw_wl (ad : Nat → Nat) (cI cZ : ClassId) (mem : List tw_c) : va_W := mem.zipIdx.map fun q => (ad q.2, tw_cc ad cI cZ q.1)
theorem tw_wl_at {ad : Nat → Nat} {cI cZ : ClassId} {mem : List tw_c} {q : Nat} {c : tw_c} (h : mem[q]? = some c) : (tw_wl ad cI cZ mem)[q]? = some (ad q, tw_cc ad cI cZ c) := by
  unfold tw_wl
  rw [List.getElem?_map, List.getElem?_zipIdx, h]
  simp
theorem tw_wl_set {ad : Nat → Nat} {cI cZ : ClassId} {mem : List tw_c} {q : Nat} {c : tw_c} : (tw_wl ad cI cZ mem).set q (ad q, tw_cc ad cI cZ c) = tw_wl ad cI cZ (mem.set q c) := by
  apply List.ext_getElem?
  intro i
  unfold tw_wl
  rw [List.getElem?_set, List.getElem?_map, List.getElem?_map, List.getElem?_zipIdx, List.getElem?_zipIdx, List.getElem?_set]
  by_cases h : q = i
  · subst h
    by_cases h2 : q < mem.length
    · simp [h2]
    · simp [h2]
  · simp [h]
theorem tw_wl_mem {ad : Nat → Nat} {cI cZ : ClassId} {mem : List tw_c} {k : Nat} {q : Nat × va_E} (h : (tw_wl ad cI cZ mem)[k]? = some q) : k < mem.length ∧ q.1 = ad k := by
  unfold tw_wl at h
  rw [List.getElem?_map, List.getElem?_zipIdx] at h
  by_cases h2 : k < mem.length
  · rw [List.getElem?_eq_getElem h2] at h
    simp at h
    exact ⟨h2, by rw [← h]⟩
  · rw [List.getElem?_eq_none (by omega)] at h
    simp at h
theorem tw_set_ok {mem : List tw_c} {q : Nat} {c : tw_c} (h : ∀ c ∈ mem, tw_okc c) (hc : tw_okc c) : ∀ c' ∈ mem.set q c, tw_okc c' := fun c' h' => by
  rcases List.mem_or_eq_of_mem_set h' with h1 | h1
  · exact h c' h1
  · rw [h1]; exact hc
theorem tw_setv_ok {fs : List tw_v} {j : Nat} {v : tw_v} (h : ∀ v ∈ fs, tw_okv v) (hv : tw_okv v) : ∀ w ∈ fs.set j v, tw_okv w := fun w h' => by
  rcases List.mem_or_eq_of_mem_set h' with h1 | h1
  · exact h w h1
  · rw [h1]; exact hv
def tw_up (f : Nat → Int) (k : Nat) (x : Int) : Nat → Int := fun j => if j = k then x else f j
theorem tw_up_ok {f : Nat → Int} {k : Nat} {x : Int} (h : ∀ j, tw_rg (f j)) (hx : tw_rg x) : ∀ j, tw_rg (tw_up f k x j) := fun j => by
  unfold tw_up
  split
  · exact hx
  · exact h j
theorem tw_up_I (f : Nat → Int) (k : Nat) (x : Int) : upd (fun j => tw_I (f j)) k (tw_I x) = fun j => tw_I (tw_up f k x j) := by
  funext j
  unfold upd tw_up
  split <;> rfl
/-- locals: none where nothing is known -/
def tw_lr (ad : Nat → Nat) (ls : Array Slot) (nL : Nat) (L : List (Option tw_v)) : Prop := ls.size = nL ∧ lv_wf ls ∧ ∀ (i : Nat) (v : tw_v), L[i]? = some (some v) → ls[i]? = some (.val (tw_cv ad v))
def tw_prs (ad : Nat → Nat) (L : List (Option tw_v)) : List (Nat × Value) := L.zipIdx.filterMap fun q => q.1.map fun v => (q.2, tw_cv ad v)
theorem tw_prs_mem {ad : Nat → Nat} {L : List (Option tw_v)} {q : Nat × Value} : q ∈ tw_prs ad L ↔ ∃ v, L[q.1]? = some (some v) ∧ q.2 = tw_cv ad v := by
  unfold tw_prs
  rw [List.mem_filterMap]
  constructor
  · rintro ⟨⟨o, i⟩, h1, h2⟩
    have h3 := List.mem_zipIdx_iff_getElem?.mp h1
    cases o with
    | none => simp at h2
    | some v =>
      simp at h2
      subst h2
      exact ⟨v, h3, rfl⟩
  · rintro ⟨v, h1, h2⟩
    refine ⟨(some v, q.1), List.mem_zipIdx_iff_getElem?.mpr h1, ?_⟩
    obtain ⟨i, x⟩ := q
    simp at h2 ⊢
    exact h2.symm
theorem tw_lr_has {ad : Nat → Nat} {ls : Array Slot} {nL : Nat} {L : List (Option tw_v)} (h : tw_lr ad ls nL L) : lv_has ls nL (tw_prs ad L) := by
  refine ⟨h.1, h.2.1, fun q hq => ?_⟩
  obtain ⟨v, h1, h2⟩ := tw_prs_mem.mp hq
  rw [h2]
  exact h.2.2 q.1 v h1
theorem tw_lr_set {ad : Nat → Nat} {ls' : Array Slot} {nL i : Nat} {L : List (Option tw_v)} {v : tw_v} (h : lv_has ls' nL ((i, tw_cv ad v) :: (tw_prs ad L).filter (fun q => !(q.1 == i) && !(q.1 + 1 == i && q.2.category == 2)))) : tw_lr ad ls' nL (L.set i (some v)) := by
  refine ⟨h.1, h.2.1, fun j w hj => ?_⟩
  rw [List.getElem?_set] at hj
  by_cases hij : i = j
  · subst hij
    rw [if_pos rfl] at hj
    split at hj
    · cases hj
      exact h.2.2 (i, tw_cv ad v) List.mem_cons_self
    · cases hj
  · rw [if_neg hij] at hj
    refine h.2.2 (j, tw_cv ad w) (List.mem_cons_of_mem _ (List.mem_filter.mpr ⟨tw_prs_mem.mpr ⟨w, hj, rfl⟩, ?_⟩))
    have h1 : (tw_cv ad w).category = 1 := tw_cat ad w
    have h2 : ¬ j = i := fun h => hij h.symm
    simp [h1, h2]
/-- fewer locals are known -/
def tw_le : List (Option tw_v) → List (Option tw_v) → Prop
  | [], _ => True
  | none :: a, [] => tw_le a []
  | none :: a, _ :: b => tw_le a b
  | some _ :: _, [] => False
  | some v :: a, x :: b => x = some v ∧ tw_le a b
theorem tw_le_at : ∀ (a b : List (Option tw_v)), tw_le a b → ∀ (i : Nat) (v : tw_v), a[i]? = some (some v) → b[i]? = some (some v)
  | [], _, _, i, v, h => by simp at h
  | none :: a, [], hl, i, v, h => by
    cases i with
    | zero => simp at h
    | succ i =>
      have := tw_le_at a [] hl i v (by simpa using h)
      simp at this
  | none :: a, _ :: b, hl, i, v, h => by
    cases i with
    | zero => simp at h
    | succ i => simpa using tw_le_at a b hl i v (by simpa using h)
  | some _ :: _, [], hl, _, _, _ => hl.elim
  | some w :: a, x :: b, hl, i, v, h => by
    cases i with
    | zero => rw [hl.1]; simpa using h
    | succ i => simpa using tw_le_at a b hl.2 i v (by simpa using h)
/-- the contexts: of a world, of a method's run -/
abbrev tw_N : Type := List (String × Nat × MethodName × String)
abbrev tw_Y : Type := Launch × va_G × List vw_C × (Nat → Nat) × Nat × ClassId × ClassId × tw_N
/-- links of nest mates -/
def tw_nw (Ns : tw_N) (U : State) : Prop := ∀ q ∈ Ns, va_Nw (.methodLinkNest q.1 q.2.1 q.2.2.1 q.2.2.2) U
theorem tw_nw.warm {Ns : tw_N} {s U : State} (hW : s.WarmedH U.vm) (h : tw_nw Ns s) : tw_nw Ns U := fun q hq => va_Nw.warmM hW (h q hq)
theorem tw_nw.same {Ns : tw_N} {s U : State} (hv : s.vm = U.vm) (h : tw_nw Ns s) : tw_nw Ns U := fun q hq => va_Nw.same rfl hv (h q hq)
abbrev tw_Z : Type := Program × Env × Room × State × MethodId × Array Value × List Frame × Method × Code
abbrev tw_P : Type := Option Int → List tw_c → Prop
def tw_A (ad : Nat → Nat) (N sz : Nat) (q : Nat) : Prop := (∃ k, k < N ∧ q = ad k) ∨ sz ≤ q
abbrev tw_ty (cI cZ : ClassId) : List (ClassId × FieldType) := [(cI, .int), (cZ, .boolean)]
def tw_rm (d : Nat) : Room := { frames := d, cells := 0, slots := 0, locals := 40 * d }
def tw_Qc (Y : tw_Y) (sz : Nat) (Post : tw_P) : Array Value → State → Outcome → State → Prop := match Y with
  | (_, D, cl, ad, N, cI, cZ, _) => fun _ st oc t => (∃ (r : Option Int) (mem : List tw_c), oc = .returned (r.map fun z => .int (tw_I z)) ∧ Post r mem ∧ (∀ z, r = some z → tw_rg z) ∧ (∀ c ∈ mem, tw_okc c) ∧ mem.length = N ∧ va_P D cl (tw_wl ad cI cZ mem) t.heap ∧ va_K D cl (tw_ty cI cZ) t ∧ va_D (tw_A ad N sz) (tw_wl ad cI cZ mem)) ∧ va_F (tw_A ad N sz) st t
def tw_rn (Y : tw_Y) (Z : tw_Z) (Post : tw_P) (pc : Nat) (L : List (Option tw_v)) (S : List tw_v) (mem : List tw_c) : Prop := match Y, Z with
  | (l, D, cl, ad, N, cI, cZ, Ns), (p, e, R, s, m, args, below, meth, c) =>
    (∀ (i : Nat) (v : tw_v), L[i]? = some (some v) → tw_okv v) → (∀ v ∈ S, tw_okv v) → (∀ c ∈ mem, tw_okc c) → mem.length = N →
    ∀ (H : Heap) (locs : List Loc) (ls : Array Slot), va_P D cl (tw_wl ad cI cZ mem) H → va_D (tw_A ad N s.heap.size) (tw_wl ad cI cZ mem) → va_S (tw_A ad N s.heap.size) s.heap H locs → tw_lr ad ls c.maxLocals L →
    W p l e R s m args below meth c H locs 0 0 (MQ below (tw_Qc (l, D, cl, ad, N, cI, cZ, Ns) s.heap.size Post) args s 0 0 (tw_A ad N s.heap.size)) (F0 m pc ls (S.map (tw_cv ad)))
def tw_cx (Y : tw_Y) (Z : tw_Z) (cc : ByteArray) (own : String) (Ts : List Cond) (ret : Option FieldType) (d nL : Nat) : Prop := match Y, Z with
  | (_, D, cl, _, _, cI, cZ, Ns), (p, _, R, s, m, args, _, meth, c) => p.tables.exec = Jvm.exec ∧ c.code = cc ∧ s.vm.findClass own = some m.cls ∧ (∀ w ∈ Ts, w.before args s = true) ∧ va_K D cl (tw_ty cI cZ) s ∧ meth.sig.returnType = ret ∧ meth.locks = false ∧ R = tw_rm d ∧ c.maxLocals = nL ∧ tw_nw Ns s
/-- a method's contract -/
def tw_ct (Y : tw_Y) (y : MethodName) (ws : List Cond) (d : Nat) (As : List tw_v) (mem : List tw_c) (Post : tw_P) : Prop := match Y with
  | (l, D, cl, ad, N, cI, cZ, Ns) => (∀ v ∈ As, tw_okv v) → (∀ c ∈ mem, tw_okc c) → mem.length = N → ∀ sz : Nat,
    Met l y ws (tw_rm d) (va_Pc (As.map (tw_cv ad)) (fun U => U.heap.size = sz ∧ va_P D cl (tw_wl ad cI cZ mem) U.heap ∧ va_K D cl (tw_ty cI cZ) U ∧ va_D (fun _ => True) (tw_wl ad cI cZ mem) ∧ tw_nw Ns U)) (tw_Qc (l, D, cl, ad, N, cI, cZ, Ns) sz Post) 0 0 (tw_A ad N sz)
theorem tw_sl (ad : Nat → Nat) (As : List tw_v) : lg_sl (As.map (tw_cv ad)) = As.map fun v => Slot.val (tw_cv ad v) := by
  unfold lg_sl
  induction As with
  | nil => rfl
  | cons a l ih => simp [tw_cat] at ih ⊢; exact ih
theorem tw_args (ad : Nat → Nat) : ∀ (As : List tw_v) (k i : Nat) (v : tw_v), As[i]? = some v → (k + i, tw_cv ad v) ∈ lv_args k (As.map (tw_cv ad))
  | [], _, i, v, h => by simp at h
  | a :: l, k, i, v, h => by
    have hc : ¬ (tw_cv ad a).category = 2 := by rw [tw_cat]; decide
    show _ ∈ (k, tw_cv ad a) :: lv_args (if (tw_cv ad a).category = 2 then k + 2 else k + 1) (l.map (tw_cv ad))
    rw [if_neg hc]
    cases i with
    | zero =>
      simp at h
      subst h
      exact List.mem_cons_self
    | succ i =>
      have := tw_args ad l (k + 1) i v (by simpa using h)
      rw [show k + (i + 1) = k + 1 + i by omega]
      exact List.mem_cons_of_mem _ this
/-- from the walk of the body to the contract -/
theorem tw_of {Y : tw_Y} {y : MethodName} {cc : ByteArray} {nL d : Nat} {ret : Option FieldType} {Wg : List Cond} {As : List tw_v} {mem : List tw_c} {Post : tw_P} {own : String} {L0 : List (Option tw_v)}
    (hy : plainName y.cls = true) (hown : y.cls = own) (hL0 : As.map some ++ List.replicate (nL - As.length) none = L0) (hn : As.length ≤ nL)
    (body : ∀ Z : tw_Z, tw_cx Y Z cc own Wg ret d nL → tw_rn Y Z Post 0 L0 [] mem) : tw_ct Y y (Cond.code y cc nL ret :: Wg) d As mem Post := by
  obtain ⟨l, D, cl, ad, N, cI, cZ, Ns⟩ := Y
  intro hAs hM hN sz
  refine Met.ofW (cc := cc) (maxL := nL) (ret := ret) hy rfl ?_
  intro p e s m args below meth c s₁ B hml hv
  obtain ⟨rfl, hsz, hP, hK, hD0, hNs⟩ := hv
  have hx := B.exec
  have hb := B.bytes
  have hr := B.returns
  have hts := atoms_spec (ws := Cond.code y cc nL ret :: Wg) B.pre
  have ho : s.vm.findClass y.cls = some m.cls := findClass_of_methodNamed B.named
  rw [hown] at ho
  have hlocks := B.notSynchronized
  subst hsz
  have hD : va_D (tw_A ad N s.heap.size) (tw_wl ad cI cZ mem) := hD0.weaken (fun k q hq _ => by
    obtain ⟨h1, h2⟩ := tw_wl_mem hq
    exact Or.inl ⟨k, by rw [← hN]; exact h1, h2⟩)
  have hlen : (lg_sl (As.map (tw_cv ad))).length = As.length := by rw [tw_sl]; simp
  have hl := lv_entry (As.map (tw_cv ad)) (n := nL) (by rw [hlen]; exact hn)
  rw [lg_entry_eq]
  generalize (lg_sl (As.map (tw_cv ad)) ++ List.replicate (nL - (lg_sl (As.map (tw_cv ad))).length) Slot.unset).toArray = ls at hl ⊢
  have hat : ∀ (i : Nat) (v : tw_v), L0[i]? = some (some v) → As[i]? = some v := fun i v h => by
    rw [← hL0] at h
    by_cases hi : i < As.length
    · rw [List.getElem?_append_left (by simpa using hi)] at h
      simpa using h
    · rw [List.getElem?_append_right (by simpa using hi)] at h
      have := List.eq_of_mem_replicate (List.mem_of_getElem? h)
      cases this
  have hlr : tw_lr ad ls c.maxLocals L0 := ⟨by rw [hml]; exact hl.1, hl.2.1, fun i v h => by
    have h2 := tw_args ad As 0 i v (hat i v h)
    rw [Nat.zero_add] at h2
    exact hl.2.2 _ h2⟩
  have hB := body (p, e, (headSpec (Cond.code y cc nL ret :: Wg) (tw_rm d)).room, s, m, (As.map (tw_cv ad)).toArray, below, meth, c) ⟨hx, hb, ho, fun w h => hts w (List.mem_cons_of_mem _ h), hK, hr, hlocks, rfl, hml, hNs⟩
  exact hB (fun i v h => hAs v (List.mem_of_getElem? (hat i v h))) (fun v h => by cases h) hM hN s.heap [] ls hP hD va_S.rf hlr
theorem tw_le_0 {b : List (Option tw_v)} : tw_le [] b := trivial
theorem tw_le_n {a b : List (Option tw_v)} {x : Option tw_v} (h : tw_le a b) : tw_le (none :: a) (x :: b) := h
theorem tw_le_s {a b : List (Option tw_v)} {v : tw_v} (h : tw_le a b) : tw_le (some v :: a) (some v :: b) := ⟨rfl, h⟩
end
section
section TWROWS
variable {Y : tw_Y} {Z : tw_Z} {Post : tw_P} {pc : Nat} {L L' : List (Option tw_v)} {S : List tw_v} {mem mem' : List tw_c} {cc : ByteArray} {own : String} {Ts : List Cond} {ret : Option FieldType} {d nL : Nat}
theorem tw_iconst {n : Int} (hX : tw_cx Y Z cc own Ts ret d nL) (hd : decode cc pc = .ok (.iconst n, 1)) (hn : tw_rg n) (k : tw_rn Y Z Post (pc + 1) L (.inl n :: S) mem) : tw_rn Y Z Post pc L (S) mem := by
  obtain ⟨l, D, cl, ad, N, cI, cZ, Ns⟩ := Y
  obtain ⟨p, e, R, s, m, args, below, meth, c⟩ := Z
  obtain ⟨hx, hb, ho, hts, hK, hret, hlk, hR, hnL, hNs⟩ := hX
  intro hL hS hM hN H locs ls hP hD hSt hl
  exact lv_iconst hx hb hd rfl (k hL (List.forall_mem_cons.mpr ⟨hn, hS⟩) hM hN H locs ls hP hD hSt hl)
theorem tw_bipush {n : Int} (hX : tw_cx Y Z cc own Ts ret d nL) (hd : decode cc pc = .ok (.bipush n, 2)) (hv : (Int8.ofInt n).toInt32 = tw_I n) (hn : tw_rg n) (k : tw_rn Y Z Post (pc + 2) L (.inl n :: S) mem) : tw_rn Y Z Post pc L (S) mem := by
  obtain ⟨l, D, cl, ad, N, cI, cZ, Ns⟩ := Y
  obtain ⟨p, e, R, s, m, args, below, meth, c⟩ := Z
  obtain ⟨hx, hb, ho, hts, hK, hret, hlk, hR, hnL, hNs⟩ := hX
  intro hL hS hM hN H locs ls hP hD hSt hl
  exact lv_bipush hx hb hd hv (k hL (List.forall_mem_cons.mpr ⟨hn, hS⟩) hM hN H locs ls hP hD hSt hl)
theorem tw_iload_n {j : Fin 4} {i : Nat} {z : Int} (hX : tw_cx Y Z cc own Ts ret d nL) (hd : decode cc pc = .ok (.iload_n j, 1)) (hi : (j : Nat) = i) (h0 : L[i]? = some (some (.inl z))) (k : tw_rn Y Z Post (pc + 1) L (.inl z :: S) mem) : tw_rn Y Z Post pc L (S) mem := by
  obtain ⟨l, D, cl, ad, N, cI, cZ, Ns⟩ := Y
  obtain ⟨p, e, R, s, m, args, below, meth, c⟩ := Z
  obtain ⟨hx, hb, ho, hts, hK, hret, hlk, hR, hnL, hNs⟩ := hX
  intro hL hS hM hN H locs ls hP hD hSt hl
  exact lv_iload_n hx hb hd hi (hl.2.2 i (.inl z) h0) (k hL (List.forall_mem_cons.mpr ⟨hL i _ h0, hS⟩) hM hN H locs ls hP hD hSt hl)
theorem tw_iload {i : Nat} {z : Int} (hX : tw_cx Y Z cc own Ts ret d nL) (hd : decode cc pc = .ok (.iload i, 2)) (h0 : L[i]? = some (some (.inl z))) (k : tw_rn Y Z Post (pc + 2) L (.inl z :: S) mem) : tw_rn Y Z Post pc L (S) mem := by
  obtain ⟨l, D, cl, ad, N, cI, cZ, Ns⟩ := Y
  obtain ⟨p, e, R, s, m, args, below, meth, c⟩ := Z
  obtain ⟨hx, hb, ho, hts, hK, hret, hlk, hR, hnL, hNs⟩ := hX
  intro hL hS hM hN H locs ls hP hD hSt hl
  exact lv_iload hx hb hd (hl.2.2 i (.inl z) h0) (k hL (List.forall_mem_cons.mpr ⟨hL i _ h0, hS⟩) hM hN H locs ls hP hD hSt hl)
theorem tw_aload_n {j : Fin 4} {i : Nat} {z : Nat} (hX : tw_cx Y Z cc own Ts ret d nL) (hd : decode cc pc = .ok (.aload_n j, 1)) (hi : (j : Nat) = i) (h0 : L[i]? = some (some (.inr z))) (k : tw_rn Y Z Post (pc + 1) L (.inr z :: S) mem) : tw_rn Y Z Post pc L (S) mem := by
  obtain ⟨l, D, cl, ad, N, cI, cZ, Ns⟩ := Y
  obtain ⟨p, e, R, s, m, args, below, meth, c⟩ := Z
  obtain ⟨hx, hb, ho, hts, hK, hret, hlk, hR, hnL, hNs⟩ := hX
  intro hL hS hM hN H locs ls hP hD hSt hl
  exact lv_aload_n hx hb hd hi (hl.2.2 i (.inr z) h0) (k hL (List.forall_mem_cons.mpr ⟨hL i _ h0, hS⟩) hM hN H locs ls hP hD hSt hl)
theorem tw_aload {i : Nat} {z : Nat} (hX : tw_cx Y Z cc own Ts ret d nL) (hd : decode cc pc = .ok (.aload i, 2)) (h0 : L[i]? = some (some (.inr z))) (k : tw_rn Y Z Post (pc + 2) L (.inr z :: S) mem) : tw_rn Y Z Post pc L (S) mem := by
  obtain ⟨l, D, cl, ad, N, cI, cZ, Ns⟩ := Y
  obtain ⟨p, e, R, s, m, args, below, meth, c⟩ := Z
  obtain ⟨hx, hb, ho, hts, hK, hret, hlk, hR, hnL, hNs⟩ := hX
  intro hL hS hM hN H locs ls hP hD hSt hl
  exact lv_aload hx hb hd (hl.2.2 i (.inr z) h0) (k hL (List.forall_mem_cons.mpr ⟨hL i _ h0, hS⟩) hM hN H locs ls hP hD hSt hl)
theorem tw_setl_ok {i : Nat} {v : tw_v} (h : ∀ (i : Nat) (v : tw_v), L[i]? = some (some v) → tw_okv v) (hv : tw_okv v) : ∀ (j : Nat) (w : tw_v), (L.set i (some v))[j]? = some (some w) → tw_okv w := fun j w hj => by
  rw [List.getElem?_set] at hj
  by_cases hij : i = j
  · rw [if_pos hij] at hj
    split at hj
    · cases hj; exact hv
    · cases hj
  · rw [if_neg hij] at hj
    exact h j w hj
theorem tw_istore_n {j : Fin 4} {i : Nat} {z : Int} (hX : tw_cx Y Z cc own Ts ret d nL) (hd : decode cc pc = .ok (.istore_n j, 1)) (hi : (j : Nat) = i) (hn : i < nL) (hL' : L.set i (some (.inl z)) = L') (k : tw_rn Y Z Post (pc + 1) L' S mem) : tw_rn Y Z Post pc L (.inl z :: S) mem := by
  obtain ⟨l, D, cl, ad, N, cI, cZ, Ns⟩ := Y
  obtain ⟨p, e, R, s, m, args, below, meth, c⟩ := Z
  obtain ⟨hx, hb, ho, hts, hK, hret, hlk, hR, hnL, hNs⟩ := hX
  intro hL hS hM hN H locs ls hP hD hSt hl
  subst hL'
  obtain ⟨h1, h2⟩ := List.forall_mem_cons.mp hS
  exact lv_istore_n hx hb hd hi (tw_lr_has hl) (by rw [hnL]; exact hn) rfl (fun ls' h' => k (tw_setl_ok hL h1) h2 hM hN H locs ls' hP hD hSt (tw_lr_set h'))
theorem tw_istore {i : Nat} {z : Int} (hX : tw_cx Y Z cc own Ts ret d nL) (hd : decode cc pc = .ok (.istore i, 2)) (hn : i < nL) (hL' : L.set i (some (.inl z)) = L') (k : tw_rn Y Z Post (pc + 2) L' S mem) : tw_rn Y Z Post pc L (.inl z :: S) mem := by
  obtain ⟨l, D, cl, ad, N, cI, cZ, Ns⟩ := Y
  obtain ⟨p, e, R, s, m, args, below, meth, c⟩ := Z
  obtain ⟨hx, hb, ho, hts, hK, hret, hlk, hR, hnL, hNs⟩ := hX
  intro hL hS hM hN H locs ls hP hD hSt hl
  subst hL'
  obtain ⟨h1, h2⟩ := List.forall_mem_cons.mp hS
  exact lv_istore hx hb hd (tw_lr_has hl) (by rw [hnL]; exact hn) rfl (fun ls' h' => k (tw_setl_ok hL h1) h2 hM hN H locs ls' hP hD hSt (tw_lr_set h'))
theorem tw_astore_n {j : Fin 4} {i : Nat} {z : Nat} (hX : tw_cx Y Z cc own Ts ret d nL) (hd : decode cc pc = .ok (.astore_n j, 1)) (hi : (j : Nat) = i) (hn : i < nL) (hL' : L.set i (some (.inr z)) = L') (k : tw_rn Y Z Post (pc + 1) L' S mem) : tw_rn Y Z Post pc L (.inr z :: S) mem := by
  obtain ⟨l, D, cl, ad, N, cI, cZ, Ns⟩ := Y
  obtain ⟨p, e, R, s, m, args, below, meth, c⟩ := Z
  obtain ⟨hx, hb, ho, hts, hK, hret, hlk, hR, hnL, hNs⟩ := hX
  intro hL hS hM hN H locs ls hP hD hSt hl
  subst hL'
  obtain ⟨h1, h2⟩ := List.forall_mem_cons.mp hS
  exact lv_astore_n hx hb hd hi (tw_lr_has hl) (by rw [hnL]; exact hn) rfl (fun ls' h' => k (tw_setl_ok hL h1) h2 hM hN H locs ls' hP hD hSt (tw_lr_set h'))
theorem tw_astore {i : Nat} {z : Nat} (hX : tw_cx Y Z cc own Ts ret d nL) (hd : decode cc pc = .ok (.astore i, 2)) (hn : i < nL) (hL' : L.set i (some (.inr z)) = L') (k : tw_rn Y Z Post (pc + 2) L' S mem) : tw_rn Y Z Post pc L (.inr z :: S) mem := by
  obtain ⟨l, D, cl, ad, N, cI, cZ, Ns⟩ := Y
  obtain ⟨p, e, R, s, m, args, below, meth, c⟩ := Z
  obtain ⟨hx, hb, ho, hts, hK, hret, hlk, hR, hnL, hNs⟩ := hX
  intro hL hS hM hN H locs ls hP hD hSt hl
  subst hL'
  obtain ⟨h1, h2⟩ := List.forall_mem_cons.mp hS
  exact lv_astore hx hb hd (tw_lr_has hl) (by rw [hnL]; exact hn) rfl (fun ls' h' => k (tw_setl_ok hL h1) h2 hM hN H locs ls' hP hD hSt (tw_lr_set h'))
theorem tw_iinc {i : Nat} {n z : Int} (hX : tw_cx Y Z cc own Ts ret d nL) (hd : decode cc pc = .ok (.iinc i n, 3)) (h0 : L[i]? = some (some (.inl z))) (hn : i < nL) (hr : tw_rg (z + n)) (hL' : L.set i (some (.inl (z + n))) = L') (k : tw_rn Y Z Post (pc + 3) L' S mem) : tw_rn Y Z Post pc L S mem := by
  obtain ⟨l, D, cl, ad, N, cI, cZ, Ns⟩ := Y
  obtain ⟨p, e, R, s, m, args, below, meth, c⟩ := Z
  obtain ⟨hx, hb, ho, hts, hK, hret, hlk, hR, hnL, hNs⟩ := hX
  intro hL hS hM hN H locs ls hP hD hSt hl
  subst hL'
  obtain ⟨j, hj⟩ := List.getElem?_of_mem (tw_prs_mem (ad := ad) (q := (i, tw_cv ad (.inl z))).mpr ⟨.inl z, h0, rfl⟩)
  exact lv_iinc hx hb hd (tw_lr_has hl) hj (tw_I_add z n) (by rw [hnL]; exact hn) rfl (fun ls' h' => k (tw_setl_ok hL hr) hS hM hN H locs ls' hP hD hSt (tw_lr_set (v := .inl (z + n)) h'))
theorem tw_iadd {a b : Int} (hX : tw_cx Y Z cc own Ts ret d nL) (hd : decode cc pc = .ok (.iadd, 1)) (hr : tw_rg (a + b)) (k : tw_rn Y Z Post (pc + 1) L (.inl (a + b) :: S) mem) : tw_rn Y Z Post pc L (.inl b :: .inl a :: S) mem := by
  obtain ⟨l, D, cl, ad, N, cI, cZ, Ns⟩ := Y
  obtain ⟨p, e, R, s, m, args, below, meth, c⟩ := Z
  obtain ⟨hx, hb, ho, hts, hK, hret, hlk, hR, hnL, hNs⟩ := hX
  intro hL hS hM hN H locs ls hP hD hSt hl
  obtain ⟨rb, h1⟩ := List.forall_mem_cons.mp hS
  obtain ⟨ra, h2⟩ := List.forall_mem_cons.mp h1
  have rb : tw_rg b := rb
  have ra : tw_rg a := ra
  refine lv_iadd hx hb hd ?_
  rw [tw_I_add a b]
  exact k hL (List.forall_mem_cons.mpr ⟨hr, h2⟩) hM hN H locs ls hP hD hSt hl
theorem tw_isub {a b : Int} (hX : tw_cx Y Z cc own Ts ret d nL) (hd : decode cc pc = .ok (.isub, 1)) (hr : tw_rg (a - b)) (k : tw_rn Y Z Post (pc + 1) L (.inl (a - b) :: S) mem) : tw_rn Y Z Post pc L (.inl b :: .inl a :: S) mem := by
  obtain ⟨l, D, cl, ad, N, cI, cZ, Ns⟩ := Y
  obtain ⟨p, e, R, s, m, args, below, meth, c⟩ := Z
  obtain ⟨hx, hb, ho, hts, hK, hret, hlk, hR, hnL, hNs⟩ := hX
  intro hL hS hM hN H locs ls hP hD hSt hl
  obtain ⟨rb, h1⟩ := List.forall_mem_cons.mp hS
  obtain ⟨ra, h2⟩ := List.forall_mem_cons.mp h1
  have rb : tw_rg b := rb
  have ra : tw_rg a := ra
  refine lv_isub hx hb hd ?_
  rw [tw_I_sub a b]
  exact k hL (List.forall_mem_cons.mpr ⟨hr, h2⟩) hM hN H locs ls hP hD hSt hl
theorem tw_idiv {a b : Int} (hX : tw_cx Y Z cc own Ts ret d nL) (hd : decode cc pc = .ok (.idiv, 1)) (h0 : 0 ≤ a) (hp : 0 < b) (k : tw_rn Y Z Post (pc + 1) L (.inl (a / b) :: S) mem) : tw_rn Y Z Post pc L (.inl b :: .inl a :: S) mem := by
  obtain ⟨l, D, cl, ad, N, cI, cZ, Ns⟩ := Y
  obtain ⟨p, e, R, s, m, args, below, meth, c⟩ := Z
  obtain ⟨hx, hb, ho, hts, hK, hret, hlk, hR, hnL, hNs⟩ := hX
  intro hL hS hM hN H locs ls hP hD hSt hl
  obtain ⟨rb, h1⟩ := List.forall_mem_cons.mp hS
  obtain ⟨ra, h2⟩ := List.forall_mem_cons.mp h1
  have rb : tw_rg b := rb
  have ra : tw_rg a := ra
  refine lv_idiv hx hb hd (tw_I_ne0 rb hp) ?_
  rw [tw_I_div ra rb h0 hp]
  exact k hL (List.forall_mem_cons.mpr ⟨tw_rg_div ra h0 hp, h2⟩) hM hN H locs ls hP hD hSt hl
theorem tw_irem {a b : Int} (hX : tw_cx Y Z cc own Ts ret d nL) (hd : decode cc pc = .ok (.irem, 1)) (h0 : 0 ≤ a) (hp : 0 < b) (k : tw_rn Y Z Post (pc + 1) L (.inl (a % b) :: S) mem) : tw_rn Y Z Post pc L (.inl b :: .inl a :: S) mem := by
  obtain ⟨l, D, cl, ad, N, cI, cZ, Ns⟩ := Y
  obtain ⟨p, e, R, s, m, args, below, meth, c⟩ := Z
  obtain ⟨hx, hb, ho, hts, hK, hret, hlk, hR, hnL, hNs⟩ := hX
  intro hL hS hM hN H locs ls hP hD hSt hl
  obtain ⟨rb, h1⟩ := List.forall_mem_cons.mp hS
  obtain ⟨ra, h2⟩ := List.forall_mem_cons.mp h1
  have rb : tw_rg b := rb
  have ra : tw_rg a := ra
  refine lv_irem hx hb hd (tw_I_ne0 rb hp) ?_
  rw [tw_I_rem ra rb h0 hp]
  exact k hL (List.forall_mem_cons.mpr ⟨tw_rg_mod rb hp, h2⟩) hM hN H locs ls hP hD hSt hl
theorem tw_iand1 {a : Int} (hX : tw_cx Y Z cc own Ts ret d nL) (hd : decode cc pc = .ok (.iand, 1)) (h0 : 0 ≤ a) (k : tw_rn Y Z Post (pc + 1) L (.inl (a % 2) :: S) mem) : tw_rn Y Z Post pc L (.inl 1 :: .inl a :: S) mem := by
  obtain ⟨l, D, cl, ad, N, cI, cZ, Ns⟩ := Y
  obtain ⟨p, e, R, s, m, args, below, meth, c⟩ := Z
  obtain ⟨hx, hb, ho, hts, hK, hret, hlk, hR, hnL, hNs⟩ := hX
  intro hL hS hM hN H locs ls hP hD hSt hl
  obtain ⟨rb, h1⟩ := List.forall_mem_cons.mp hS
  obtain ⟨ra, h2⟩ := List.forall_mem_cons.mp h1
  have ra : tw_rg a := ra
  refine lv_iand hx hb hd ?_
  rw [tw_I_and1 ra h0]
  exact k hL (List.forall_mem_cons.mpr ⟨tw_rg_mod (b := 2) (by unfold tw_rg; omega) (by omega), h2⟩) hM hN H locs ls hP hD hSt hl
theorem tw_ineg {a : Int} (hX : tw_cx Y Z cc own Ts ret d nL) (hd : decode cc pc = .ok (.ineg, 1)) (hr : tw_rg (-a)) (k : tw_rn Y Z Post (pc + 1) L (.inl (-a) :: S) mem) : tw_rn Y Z Post pc L (.inl a :: S) mem := by
  obtain ⟨l, D, cl, ad, N, cI, cZ, Ns⟩ := Y
  obtain ⟨p, e, R, s, m, args, below, meth, c⟩ := Z
  obtain ⟨hx, hb, ho, hts, hK, hret, hlk, hR, hnL, hNs⟩ := hX
  intro hL hS hM hN H locs ls hP hD hSt hl
  obtain ⟨ra, h2⟩ := List.forall_mem_cons.mp hS
  refine lv_ineg hx hb hd ?_
  rw [tw_I_neg a]
  exact k hL (List.forall_mem_cons.mpr ⟨hr, h2⟩) hM hN H locs ls hP hD hSt hl
theorem tw_dup {x : tw_v} (hX : tw_cx Y Z cc own Ts ret d nL) (hd : decode cc pc = .ok (.dup, 1)) (k : tw_rn Y Z Post (pc + 1) L (x :: x :: S) mem) : tw_rn Y Z Post pc L (x :: S) mem := by
  obtain ⟨l, D, cl, ad, N, cI, cZ, Ns⟩ := Y
  obtain ⟨p, e, R, s, m, args, below, meth, c⟩ := Z
  obtain ⟨hx, hb, ho, hts, hK, hret, hlk, hR, hnL, hNs⟩ := hX
  intro hL hS hM hN H locs ls hP hD hSt hl
  obtain ⟨o0, h0⟩ := List.forall_mem_cons.mp hS
  exact lv_dup hx hb hd (tw_cat ad x) (k hL (List.forall_mem_cons.mpr ⟨o0, (List.forall_mem_cons.mpr ⟨o0, h0⟩)⟩) hM hN H locs ls hP hD hSt hl)
theorem tw_pop {x : tw_v} (hX : tw_cx Y Z cc own Ts ret d nL) (hd : decode cc pc = .ok (.pop, 1)) (k : tw_rn Y Z Post (pc + 1) L (S) mem) : tw_rn Y Z Post pc L (x :: S) mem := by
  obtain ⟨l, D, cl, ad, N, cI, cZ, Ns⟩ := Y
  obtain ⟨p, e, R, s, m, args, below, meth, c⟩ := Z
  obtain ⟨hx, hb, ho, hts, hK, hret, hlk, hR, hnL, hNs⟩ := hX
  intro hL hS hM hN H locs ls hP hD hSt hl
  obtain ⟨o0, h0⟩ := List.forall_mem_cons.mp hS
  exact lv_pop hx hb hd (tw_cat ad x) (k hL h0 hM hN H locs ls hP hD hSt hl)
theorem tw_dup_x1 {x y : tw_v} (hX : tw_cx Y Z cc own Ts ret d nL) (hd : decode cc pc = .ok (.dup_x1, 1)) (k : tw_rn Y Z Post (pc + 1) L (x :: y :: x :: S) mem) : tw_rn Y Z Post pc L (x :: y :: S) mem := by
  obtain ⟨l, D, cl, ad, N, cI, cZ, Ns⟩ := Y
  obtain ⟨p, e, R, s, m, args, below, meth, c⟩ := Z
  obtain ⟨hx, hb, ho, hts, hK, hret, hlk, hR, hnL, hNs⟩ := hX
  intro hL hS hM hN H locs ls hP hD hSt hl
  obtain ⟨o0, h0⟩ := List.forall_mem_cons.mp hS
  obtain ⟨o1, h1⟩ := List.forall_mem_cons.mp h0
  exact lv_dup_x1 hx hb hd (tw_cat ad x) (tw_cat ad y) (k hL (List.forall_mem_cons.mpr ⟨o0, (List.forall_mem_cons.mpr ⟨o1, (List.forall_mem_cons.mpr ⟨o0, h1⟩)⟩)⟩) hM hN H locs ls hP hD hSt hl)
theorem tw_dup2 {x y : tw_v} (hX : tw_cx Y Z cc own Ts ret d nL) (hd : decode cc pc = .ok (.dup2, 1)) (k : tw_rn Y Z Post (pc + 1) L (x :: y :: x :: y :: S) mem) : tw_rn Y Z Post pc L (x :: y :: S) mem := by
  obtain ⟨l, D, cl, ad, N, cI, cZ, Ns⟩ := Y
  obtain ⟨p, e, R, s, m, args, below, meth, c⟩ := Z
  obtain ⟨hx, hb, ho, hts, hK, hret, hlk, hR, hnL, hNs⟩ := hX
  intro hL hS hM hN H locs ls hP hD hSt hl
  obtain ⟨o0, h0⟩ := List.forall_mem_cons.mp hS
  obtain ⟨o1, h1⟩ := List.forall_mem_cons.mp h0
  exact lv_dup2_11 hx hb hd (tw_cat ad x) (tw_cat ad y) (k hL (List.forall_mem_cons.mpr ⟨o0, (List.forall_mem_cons.mpr ⟨o1, (List.forall_mem_cons.mpr ⟨o0, (List.forall_mem_cons.mpr ⟨o1, h1⟩)⟩)⟩)⟩) hM hN H locs ls hP hD hSt hl)
theorem tw_icmp_eq {a b off : Int} {tgt : Nat} (hX : tw_cx Y Z cc own Ts ret d nL) (hd : decode cc pc = .ok (.if_icmp .eq off, 3)) (ht : (pc : Int) + off = (tgt : Int)) (kt : a = b → tw_rn Y Z Post tgt L S mem) (kf : ¬ a = b → tw_rn Y Z Post (pc + 3) L S mem) : tw_rn Y Z Post pc L (.inl b :: .inl a :: S) mem := by
  obtain ⟨l, D, cl, ad, N, cI, cZ, Ns⟩ := Y
  obtain ⟨p, e, R, s, m, args, below, meth, c⟩ := Z
  obtain ⟨hx, hb, ho, hts, hK, hret, hlk, hR, hnL, hNs⟩ := hX
  intro hL hS hM hN H locs ls hP hD hSt hl
  obtain ⟨rb, h1⟩ := List.forall_mem_cons.mp hS
  obtain ⟨ra, h2⟩ := List.forall_mem_cons.mp h1
  have rb : tw_rg b := rb
  have ra : tw_rg a := ra
  exact lv_icmp_eq hx hb hd ht (fun h => kt ((tw_I_eq ra rb).mp h) hL h2 hM hN H locs ls hP hD hSt hl) (fun h => kf (fun q => h ((tw_I_eq ra rb).mpr q)) hL h2 hM hN H locs ls hP hD hSt hl)
theorem tw_icmp_ne {a b off : Int} {tgt : Nat} (hX : tw_cx Y Z cc own Ts ret d nL) (hd : decode cc pc = .ok (.if_icmp .ne off, 3)) (ht : (pc : Int) + off = (tgt : Int)) (kt : ¬ a = b → tw_rn Y Z Post tgt L S mem) (kf : a = b → tw_rn Y Z Post (pc + 3) L S mem) : tw_rn Y Z Post pc L (.inl b :: .inl a :: S) mem := by
  obtain ⟨l, D, cl, ad, N, cI, cZ, Ns⟩ := Y
  obtain ⟨p, e, R, s, m, args, below, meth, c⟩ := Z
  obtain ⟨hx, hb, ho, hts, hK, hret, hlk, hR, hnL, hNs⟩ := hX
  intro hL hS hM hN H locs ls hP hD hSt hl
  obtain ⟨rb, h1⟩ := List.forall_mem_cons.mp hS
  obtain ⟨ra, h2⟩ := List.forall_mem_cons.mp h1
  have rb : tw_rg b := rb
  have ra : tw_rg a := ra
  exact lv_icmp_ne hx hb hd ht (fun h => kt (fun q => h ((tw_I_eq ra rb).mpr q)) hL h2 hM hN H locs ls hP hD hSt hl) (fun h => kf ((tw_I_eq ra rb).mp h) hL h2 hM hN H locs ls hP hD hSt hl)
theorem tw_icmp_lt {a b off : Int} {tgt : Nat} (hX : tw_cx Y Z cc own Ts ret d nL) (hd : decode cc pc = .ok (.if_icmp .lt off, 3)) (ht : (pc : Int) + off = (tgt : Int)) (kt : a < b → tw_rn Y Z Post tgt L S mem) (kf : ¬ a < b → tw_rn Y Z Post (pc + 3) L S mem) : tw_rn Y Z Post pc L (.inl b :: .inl a :: S) mem := by
  obtain ⟨l, D, cl, ad, N, cI, cZ, Ns⟩ := Y
  obtain ⟨p, e, R, s, m, args, below, meth, c⟩ := Z
  obtain ⟨hx, hb, ho, hts, hK, hret, hlk, hR, hnL, hNs⟩ := hX
  intro hL hS hM hN H locs ls hP hD hSt hl
  obtain ⟨rb, h1⟩ := List.forall_mem_cons.mp hS
  obtain ⟨ra, h2⟩ := List.forall_mem_cons.mp h1
  have rb : tw_rg b := rb
  have ra : tw_rg a := ra
  exact lv_icmp_lt hx hb hd ht (fun h => kt ((tw_I_lt ra rb).mp h) hL h2 hM hN H locs ls hP hD hSt hl) (fun h => kf (fun q => h ((tw_I_lt ra rb).mpr q)) hL h2 hM hN H locs ls hP hD hSt hl)
theorem tw_icmp_ge {a b off : Int} {tgt : Nat} (hX : tw_cx Y Z cc own Ts ret d nL) (hd : decode cc pc = .ok (.if_icmp .ge off, 3)) (ht : (pc : Int) + off = (tgt : Int)) (kt : b ≤ a → tw_rn Y Z Post tgt L S mem) (kf : ¬ b ≤ a → tw_rn Y Z Post (pc + 3) L S mem) : tw_rn Y Z Post pc L (.inl b :: .inl a :: S) mem := by
  obtain ⟨l, D, cl, ad, N, cI, cZ, Ns⟩ := Y
  obtain ⟨p, e, R, s, m, args, below, meth, c⟩ := Z
  obtain ⟨hx, hb, ho, hts, hK, hret, hlk, hR, hnL, hNs⟩ := hX
  intro hL hS hM hN H locs ls hP hD hSt hl
  obtain ⟨rb, h1⟩ := List.forall_mem_cons.mp hS
  obtain ⟨ra, h2⟩ := List.forall_mem_cons.mp h1
  have rb : tw_rg b := rb
  have ra : tw_rg a := ra
  exact lv_icmp_ge hx hb hd ht (fun h => kt ((tw_I_le rb ra).mp h) hL h2 hM hN H locs ls hP hD hSt hl) (fun h => kf (fun q => h ((tw_I_le rb ra).mpr q)) hL h2 hM hN H locs ls hP hD hSt hl)
theorem tw_icmp_gt {a b off : Int} {tgt : Nat} (hX : tw_cx Y Z cc own Ts ret d nL) (hd : decode cc pc = .ok (.if_icmp .gt off, 3)) (ht : (pc : Int) + off = (tgt : Int)) (kt : b < a → tw_rn Y Z Post tgt L S mem) (kf : ¬ b < a → tw_rn Y Z Post (pc + 3) L S mem) : tw_rn Y Z Post pc L (.inl b :: .inl a :: S) mem := by
  obtain ⟨l, D, cl, ad, N, cI, cZ, Ns⟩ := Y
  obtain ⟨p, e, R, s, m, args, below, meth, c⟩ := Z
  obtain ⟨hx, hb, ho, hts, hK, hret, hlk, hR, hnL, hNs⟩ := hX
  intro hL hS hM hN H locs ls hP hD hSt hl
  obtain ⟨rb, h1⟩ := List.forall_mem_cons.mp hS
  obtain ⟨ra, h2⟩ := List.forall_mem_cons.mp h1
  have rb : tw_rg b := rb
  have ra : tw_rg a := ra
  exact lv_icmp_gt hx hb hd ht (fun h => kt ((tw_I_lt rb ra).mp h) hL h2 hM hN H locs ls hP hD hSt hl) (fun h => kf (fun q => h ((tw_I_lt rb ra).mpr q)) hL h2 hM hN H locs ls hP hD hSt hl)
theorem tw_icmp_le {a b off : Int} {tgt : Nat} (hX : tw_cx Y Z cc own Ts ret d nL) (hd : decode cc pc = .ok (.if_icmp .le off, 3)) (ht : (pc : Int) + off = (tgt : Int)) (kt : a ≤ b → tw_rn Y Z Post tgt L S mem) (kf : ¬ a ≤ b → tw_rn Y Z Post (pc + 3) L S mem) : tw_rn Y Z Post pc L (.inl b :: .inl a :: S) mem := by
  obtain ⟨l, D, cl, ad, N, cI, cZ, Ns⟩ := Y
  obtain ⟨p, e, R, s, m, args, below, meth, c⟩ := Z
  obtain ⟨hx, hb, ho, hts, hK, hret, hlk, hR, hnL, hNs⟩ := hX
  intro hL hS hM hN H locs ls hP hD hSt hl
  obtain ⟨rb, h1⟩ := List.forall_mem_cons.mp hS
  obtain ⟨ra, h2⟩ := List.forall_mem_cons.mp h1
  have rb : tw_rg b := rb
  have ra : tw_rg a := ra
  exact lv_icmp_le hx hb hd ht (fun h => kt ((tw_I_le ra rb).mp h) hL h2 hM hN H locs ls hP hD hSt hl) (fun h => kf (fun q => h ((tw_I_le ra rb).mpr q)) hL h2 hM hN H locs ls hP hD hSt hl)
theorem tw_if_eq {a off : Int} {tgt : Nat} (hX : tw_cx Y Z cc own Ts ret d nL) (hd : decode cc pc = .ok (.ifCond .eq off, 3)) (ht : (pc : Int) + off = (tgt : Int)) (kt : a = 0 → tw_rn Y Z Post tgt L S mem) (kf : ¬ a = 0 → tw_rn Y Z Post (pc + 3) L S mem) : tw_rn Y Z Post pc L (.inl a :: S) mem := by
  obtain ⟨l, D, cl, ad, N, cI, cZ, Ns⟩ := Y
  obtain ⟨p, e, R, s, m, args, below, meth, c⟩ := Z
  obtain ⟨hx, hb, ho, hts, hK, hret, hlk, hR, hnL, hNs⟩ := hX
  intro hL hS hM hN H locs ls hP hD hSt hl
  obtain ⟨ra, h2⟩ := List.forall_mem_cons.mp hS
  have ra : tw_rg a := ra
  exact lv_if_eq hx hb hd ht (fun h => kt ((tw_I_eq0 ra).mp h) hL h2 hM hN H locs ls hP hD hSt hl) (fun h => kf (fun q => h ((tw_I_eq0 ra).mpr q)) hL h2 hM hN H locs ls hP hD hSt hl)
theorem tw_if_ne {a off : Int} {tgt : Nat} (hX : tw_cx Y Z cc own Ts ret d nL) (hd : decode cc pc = .ok (.ifCond .ne off, 3)) (ht : (pc : Int) + off = (tgt : Int)) (kt : ¬ a = 0 → tw_rn Y Z Post tgt L S mem) (kf : a = 0 → tw_rn Y Z Post (pc + 3) L S mem) : tw_rn Y Z Post pc L (.inl a :: S) mem := by
  obtain ⟨l, D, cl, ad, N, cI, cZ, Ns⟩ := Y
  obtain ⟨p, e, R, s, m, args, below, meth, c⟩ := Z
  obtain ⟨hx, hb, ho, hts, hK, hret, hlk, hR, hnL, hNs⟩ := hX
  intro hL hS hM hN H locs ls hP hD hSt hl
  obtain ⟨ra, h2⟩ := List.forall_mem_cons.mp hS
  have ra : tw_rg a := ra
  exact lv_if_ne hx hb hd ht (fun h => kt (fun q => h ((tw_I_eq0 ra).mpr q)) hL h2 hM hN H locs ls hP hD hSt hl) (fun h => kf ((tw_I_eq0 ra).mp h) hL h2 hM hN H locs ls hP hD hSt hl)
theorem tw_if_lt {a off : Int} {tgt : Nat} (hX : tw_cx Y Z cc own Ts ret d nL) (hd : decode cc pc = .ok (.ifCond .lt off, 3)) (ht : (pc : Int) + off = (tgt : Int)) (kt : a < 0 → tw_rn Y Z Post tgt L S mem) (kf : ¬ a < 0 → tw_rn Y Z Post (pc + 3) L S mem) : tw_rn Y Z Post pc L (.inl a :: S) mem := by
  obtain ⟨l, D, cl, ad, N, cI, cZ, Ns⟩ := Y
  obtain ⟨p, e, R, s, m, args, below, meth, c⟩ := Z
  obtain ⟨hx, hb, ho, hts, hK, hret, hlk, hR, hnL, hNs⟩ := hX
  intro hL hS hM hN H locs ls hP hD hSt hl
  obtain ⟨ra, h2⟩ := List.forall_mem_cons.mp hS
  have ra : tw_rg a := ra
  exact lv_if_lt hx hb hd ht (fun h => kt ((tw_I_lt0 ra).mp h) hL h2 hM hN H locs ls hP hD hSt hl) (fun h => kf (fun q => h ((tw_I_lt0 ra).mpr q)) hL h2 hM hN H locs ls hP hD hSt hl)
theorem tw_if_ge {a off : Int} {tgt : Nat} (hX : tw_cx Y Z cc own Ts ret d nL) (hd : decode cc pc = .ok (.ifCond .ge off, 3)) (ht : (pc : Int) + off = (tgt : Int)) (kt : 0 ≤ a → tw_rn Y Z Post tgt L S mem) (kf : ¬ 0 ≤ a → tw_rn Y Z Post (pc + 3) L S mem) : tw_rn Y Z Post pc L (.inl a :: S) mem := by
  obtain ⟨l, D, cl, ad, N, cI, cZ, Ns⟩ := Y
  obtain ⟨p, e, R, s, m, args, below, meth, c⟩ := Z
  obtain ⟨hx, hb, ho, hts, hK, hret, hlk, hR, hnL, hNs⟩ := hX
  intro hL hS hM hN H locs ls hP hD hSt hl
  obtain ⟨ra, h2⟩ := List.forall_mem_cons.mp hS
  have ra : tw_rg a := ra
  exact lv_if_ge hx hb hd ht (fun h => kt ((tw_I_ge0 ra).mp h) hL h2 hM hN H locs ls hP hD hSt hl) (fun h => kf (fun q => h ((tw_I_ge0 ra).mpr q)) hL h2 hM hN H locs ls hP hD hSt hl)
theorem tw_if_gt {a off : Int} {tgt : Nat} (hX : tw_cx Y Z cc own Ts ret d nL) (hd : decode cc pc = .ok (.ifCond .gt off, 3)) (ht : (pc : Int) + off = (tgt : Int)) (kt : 0 < a → tw_rn Y Z Post tgt L S mem) (kf : ¬ 0 < a → tw_rn Y Z Post (pc + 3) L S mem) : tw_rn Y Z Post pc L (.inl a :: S) mem := by
  obtain ⟨l, D, cl, ad, N, cI, cZ, Ns⟩ := Y
  obtain ⟨p, e, R, s, m, args, below, meth, c⟩ := Z
  obtain ⟨hx, hb, ho, hts, hK, hret, hlk, hR, hnL, hNs⟩ := hX
  intro hL hS hM hN H locs ls hP hD hSt hl
  obtain ⟨ra, h2⟩ := List.forall_mem_cons.mp hS
  have ra : tw_rg a := ra
  exact lv_if_gt hx hb hd ht (fun h => kt ((tw_I_gt0 ra).mp h) hL h2 hM hN H locs ls hP hD hSt hl) (fun h => kf (fun q => h ((tw_I_gt0 ra).mpr q)) hL h2 hM hN H locs ls hP hD hSt hl)
theorem tw_if_le {a off : Int} {tgt : Nat} (hX : tw_cx Y Z cc own Ts ret d nL) (hd : decode cc pc = .ok (.ifCond .le off, 3)) (ht : (pc : Int) + off = (tgt : Int)) (kt : a ≤ 0 → tw_rn Y Z Post tgt L S mem) (kf : ¬ a ≤ 0 → tw_rn Y Z Post (pc + 3) L S mem) : tw_rn Y Z Post pc L (.inl a :: S) mem := by
  obtain ⟨l, D, cl, ad, N, cI, cZ, Ns⟩ := Y
  obtain ⟨p, e, R, s, m, args, below, meth, c⟩ := Z
  obtain ⟨hx, hb, ho, hts, hK, hret, hlk, hR, hnL, hNs⟩ := hX
  intro hL hS hM hN H locs ls hP hD hSt hl
  obtain ⟨ra, h2⟩ := List.forall_mem_cons.mp hS
  have ra : tw_rg a := ra
  exact lv_if_le hx hb hd ht (fun h => kt ((tw_I_le0 ra).mp h) hL h2 hM hN H locs ls hP hD hSt hl) (fun h => kf (fun q => h ((tw_I_le0 ra).mpr q)) hL h2 hM hN H locs ls hP hD hSt hl)
theorem tw_goto {off : Int} {tgt : Nat} (hX : tw_cx Y Z cc own Ts ret d nL) (hd : decode cc pc = .ok (.goto off, 3)) (ht : (pc : Int) + off = (tgt : Int)) (k : tw_rn Y Z Post tgt L S mem) : tw_rn Y Z Post pc L S mem := by
  obtain ⟨l, D, cl, ad, N, cI, cZ, Ns⟩ := Y
  obtain ⟨p, e, R, s, m, args, below, meth, c⟩ := Z
  obtain ⟨hx, hb, ho, hts, hK, hret, hlk, hR, hnL, hNs⟩ := hX
  intro hL hS hM hN H locs ls hP hD hSt hl
  exact lv_goto hx hb hd ht (k hL hS hM hN H locs ls hP hD hSt hl)
theorem tw_wk (h : tw_le L' L) (k : tw_rn Y Z Post pc L' S mem) : tw_rn Y Z Post pc L S mem := by
  obtain ⟨l, D, cl, ad, N, cI, cZ, Ns⟩ := Y
  obtain ⟨p, e, R, s, m, args, below, meth, c⟩ := Z
  intro hL hS hM hN H locs ls hP hD hSt hl
  exact k (fun i v hi => hL i v (tw_le_at L' L h i v hi)) hS hM hN H locs ls hP hD hSt ⟨hl.1, hl.2.1, fun i v hi => hl.2.2 i v (tw_le_at L' L h i v hi)⟩
/-- in range, from the walk's own start -/
theorem tw_rgs {a : Int} (k : tw_rg a → tw_rn Y Z Post pc L (.inl a :: S) mem) : tw_rn Y Z Post pc L (.inl a :: S) mem := by
  obtain ⟨l, D, cl, ad, N, cI, cZ, Ns⟩ := Y
  obtain ⟨p, e, R, s, m, args, below, meth, c⟩ := Z
  intro hL hS hM hN H locs ls hP hD hSt hl
  exact k (List.forall_mem_cons.mp hS).1 hL hS hM hN H locs ls hP hD hSt hl
theorem tw_iaload {i : Int} {q n : Nat} {f : Nat → Int} (hX : tw_cx Y Z cc own Ts ret d nL) (hd : decode cc pc = .ok (.iaload, 1)) (hq : mem[q]? = some (.inl (false, n, f))) (h0 : 0 ≤ i ∧ i < (n : Int)) (k : tw_rn Y Z Post (pc + 1) L (.inl (f i.toNat) :: S) mem) : tw_rn Y Z Post pc L (.inl i :: .inr q :: S) mem := by
  obtain ⟨l, D, cl, ad, N, cI, cZ, Ns⟩ := Y
  obtain ⟨p, e, R, s, m, args, below, meth, c⟩ := Z
  obtain ⟨hx, hb, ho, hts, hK, hret, hlk, hR, hnL, hNs⟩ := hX
  intro hL hS hM hN H locs ls hP hD hSt hl
  obtain ⟨ri, h1⟩ := List.forall_mem_cons.mp hS
  obtain ⟨-, h2⟩ := List.forall_mem_cons.mp h1
  have ri : tw_rg i := ri
  refine va_iald hx hb hK hP q 0 (tw_wl_at hq) rfl (tw_I_in ri h0.1 h0.2) hd ?_
  rw [tw_I_cl ri]
  have hf : tw_rg (f i.toNat) := hM _ (List.mem_of_getElem? hq) i.toNat
  exact k hL (List.forall_mem_cons.mpr ⟨hf, h2⟩) hM hN H locs ls hP hD hSt hl
theorem tw_baload {i : Int} {q n : Nat} {f : Nat → Int} (hX : tw_cx Y Z cc own Ts ret d nL) (hd : decode cc pc = .ok (.baload, 1)) (hq : mem[q]? = some (.inl (true, n, f))) (h0 : 0 ≤ i ∧ i < (n : Int)) (k : tw_rn Y Z Post (pc + 1) L (.inl (f i.toNat) :: S) mem) : tw_rn Y Z Post pc L (.inl i :: .inr q :: S) mem := by
  obtain ⟨l, D, cl, ad, N, cI, cZ, Ns⟩ := Y
  obtain ⟨p, e, R, s, m, args, below, meth, c⟩ := Z
  obtain ⟨hx, hb, ho, hts, hK, hret, hlk, hR, hnL, hNs⟩ := hX
  intro hL hS hM hN H locs ls hP hD hSt hl
  obtain ⟨ri, h1⟩ := List.forall_mem_cons.mp hS
  obtain ⟨-, h2⟩ := List.forall_mem_cons.mp h1
  have ri : tw_rg i := ri
  refine va_zald hx hb hK hP q 1 (tw_wl_at hq) rfl (tw_I_in ri h0.1 h0.2) hd ?_
  rw [tw_I_cl ri]
  have hf : tw_rg (f i.toNat) := hM _ (List.mem_of_getElem? hq) i.toNat
  exact k hL (List.forall_mem_cons.mpr ⟨hf, h2⟩) hM hN H locs ls hP hD hSt hl
theorem tw_iastore {i x : Int} {q n : Nat} {f : Nat → Int} (hX : tw_cx Y Z cc own Ts ret d nL) (hd : decode cc pc = .ok (.iastore, 1)) (hq : mem[q]? = some (.inl (false, n, f))) (h0 : 0 ≤ i ∧ i < (n : Int)) (hm : mem.set q (.inl (false, n, tw_up f i.toNat x)) = mem') (k : tw_rn Y Z Post (pc + 1) L S mem') : tw_rn Y Z Post pc L (.inl x :: .inl i :: .inr q :: S) mem := by
  obtain ⟨l, D, cl, ad, N, cI, cZ, Ns⟩ := Y
  obtain ⟨p, e, R, s, m, args, below, meth, c⟩ := Z
  obtain ⟨hx, hb, ho, hts, hK, hret, hlk, hR, hnL, hNs⟩ := hX
  intro hL hS hM hN H locs ls hP hD hSt hl
  subst hm
  obtain ⟨rx, h1⟩ := List.forall_mem_cons.mp hS
  obtain ⟨ri, h2⟩ := List.forall_mem_cons.mp h1
  obtain ⟨-, h3⟩ := List.forall_mem_cons.mp h2
  have ri : tw_rg i := ri
  have rx : tw_rg x := rx
  have hf : ∀ j, tw_rg (f j) := hM _ (List.mem_of_getElem? hq)
  refine va_iast hx hb hK hP hD hSt q 0 (tw_wl_at hq) rfl (tw_I_in ri h0.1 h0.2) hd (fun H1 locs1 hP1 hD1 hS1 => ?_)
  rw [tw_I_cl ri, tw_up_I] at hP1 hD1
  have e1 : (tw_wl ad cI cZ mem).set q (ad q, .inl (cI, n, .inl fun j => tw_I (tw_up f i.toNat x j))) = tw_wl ad cI cZ (mem.set q (.inl (false, n, tw_up f i.toNat x))) := tw_wl_set (c := .inl (false, n, tw_up f i.toNat x))
  have hP1 := e1 ▸ hP1
  have hD1 := e1 ▸ hD1
  exact k hL h3 (tw_set_ok hM (tw_up_ok hf rx)) (by rw [List.length_set]; exact hN) H1 locs1 ls hP1 hD1 hS1 hl
theorem tw_nz {x : Int} (h : 0 ≤ x ∧ x ≤ 1) : vp_nar .boolean (tw_I x) = tw_I x := by
  rcases (by omega : x = 0 ∨ x = 1) with rfl | rfl <;> rfl
theorem tw_bastore {i x : Int} {q n : Nat} {f : Nat → Int} (hX : tw_cx Y Z cc own Ts ret d nL) (hd : decode cc pc = .ok (.bastore, 1)) (hq : mem[q]? = some (.inl (true, n, f))) (h0 : 0 ≤ i ∧ i < (n : Int)) (hz : 0 ≤ x ∧ x ≤ 1) (hm : mem.set q (.inl (true, n, tw_up f i.toNat x)) = mem') (k : tw_rn Y Z Post (pc + 1) L S mem') : tw_rn Y Z Post pc L (.inl x :: .inl i :: .inr q :: S) mem := by
  obtain ⟨l, D, cl, ad, N, cI, cZ, Ns⟩ := Y
  obtain ⟨p, e, R, s, m, args, below, meth, c⟩ := Z
  obtain ⟨hx, hb, ho, hts, hK, hret, hlk, hR, hnL, hNs⟩ := hX
  intro hL hS hM hN H locs ls hP hD hSt hl
  subst hm
  obtain ⟨rx, h1⟩ := List.forall_mem_cons.mp hS
  obtain ⟨ri, h2⟩ := List.forall_mem_cons.mp h1
  obtain ⟨-, h3⟩ := List.forall_mem_cons.mp h2
  have ri : tw_rg i := ri
  have rx : tw_rg x := rx
  have hf : ∀ j, tw_rg (f j) := hM _ (List.mem_of_getElem? hq)
  refine va_zast hx hb hK hP hD hSt q 1 (tw_wl_at hq) rfl (tw_I_in ri h0.1 h0.2) hd (fun H1 locs1 hP1 hD1 hS1 => ?_)
  rw [tw_I_cl ri, tw_nz hz, tw_up_I] at hP1 hD1
  have e1 : (tw_wl ad cI cZ mem).set q (ad q, .inl (cZ, n, .inl fun j => tw_I (tw_up f i.toNat x j))) = tw_wl ad cI cZ (mem.set q (.inl (true, n, tw_up f i.toNat x))) := tw_wl_set (c := .inl (true, n, tw_up f i.toNat x))
  have hP1 := e1 ▸ hP1
  have hD1 := e1 ▸ hD1
  exact k hL h3 (tw_set_ok hM (tw_up_ok hf rx)) (by rw [List.length_set]; exact hN) H1 locs1 ls hP1 hD1 hS1 hl
theorem tw_ret {z : Int} (hX : tw_cx Y Z cc own Ts (some .int) d nL) (hd : decode cc pc = .ok (.ireturn, 1)) (k : Post (some z) mem) : tw_rn Y Z Post pc L [.inl z] mem := by
  obtain ⟨l, D, cl, ad, N, cI, cZ, Ns⟩ := Y
  obtain ⟨p, e, R, s, m, args, below, meth, c⟩ := Z
  obtain ⟨hx, hb, ho, hts, hK, hret, hlk, hR, hnL, hNs⟩ := hX
  intro hL hS hM hN H locs ls hP hD hSt hl
  obtain ⟨rz, -⟩ := List.forall_mem_cons.mp hS
  have rz : tw_rg z := rz
  exact W.iret (v := tw_I z) hx hb hret (fun t ht hW => ⟨⟨some z, mem, rfl, k, fun z' h => by cases h; exact rz, hM, hN, by rw [ht]; exact hP, va_K.moved hW.alike hK, hD⟩, hSt.F ht⟩) hSt.2.2 hd hlk
theorem tw_zret {z : Int} (hX : tw_cx Y Z cc own Ts (some .boolean) d nL) (hd : decode cc pc = .ok (.ireturn, 1)) (hz : 0 ≤ z ∧ z ≤ 1) (k : Post (some z) mem) : tw_rn Y Z Post pc L [.inl z] mem := by
  obtain ⟨l, D, cl, ad, N, cI, cZ, Ns⟩ := Y
  obtain ⟨p, e, R, s, m, args, below, meth, c⟩ := Z
  obtain ⟨hx, hb, ho, hts, hK, hret, hlk, hR, hnL, hNs⟩ := hX
  intro hL hS hM hN H locs ls hP hD hSt hl
  obtain ⟨rz, -⟩ := List.forall_mem_cons.mp hS
  have rz : tw_rg z := rz
  exact W.zret (v := tw_I z) hx hb hret (by rcases (by omega : z = 0 ∨ z = 1) with rfl | rfl <;> rfl) (fun t ht hW => ⟨⟨some z, mem, rfl, k, fun z' h => by cases h; exact rz, hM, hN, by rw [ht]; exact hP, va_K.moved hW.alike hK, hD⟩, hSt.F ht⟩) hSt.2.2 hd hlk
theorem tw_vret (hX : tw_cx Y Z cc own Ts none d nL) (hd : decode cc pc = .ok (.return_, 1)) (k : Post none mem) : tw_rn Y Z Post pc L [] mem := by
  obtain ⟨l, D, cl, ad, N, cI, cZ, Ns⟩ := Y
  obtain ⟨p, e, R, s, m, args, below, meth, c⟩ := Z
  obtain ⟨hx, hb, ho, hts, hK, hret, hlk, hR, hnL, hNs⟩ := hX
  intro hL hS hM hN H locs ls hP hD hSt hl
  exact W.vret hx hb hret (fun t ht hW => ⟨⟨none, mem, rfl, k, (fun z' h => by cases h), hM, hN, by rw [ht]; exact hP, va_K.moved hW.alike hK, hD⟩, hSt.F ht⟩) hSt.2.2 hd hlk
end TWROWS
end
section
section TWCALLS
variable {Y : tw_Y} {Z : tw_Z} {Post : tw_P} {pc : Nat} {L L' : List (Option tw_v)} {S : List tw_v} {mem mem' : List tw_c} {cc : ByteArray} {own : String} {Ts : List Cond} {ret : Option FieldType} {d nL : Nat}
def tw_cl (Y : tw_Y) : List vw_C := Y.2.2.1
def tw_ns (Y : tw_Y) : tw_N := Y.2.2.2.2.2.2.2
theorem tw_get {ref C : String} {T : u_T} {Nf ci index q kf : Nat} {fs : List tw_v} {v : tw_v} (hX : tw_cx Y Z cc own Ts ret d nL) (hd : decode cc pc = .ok (.getfield index, 3)) (hin : ∀ w ∈ u_ws C T Nf, w ∈ Ts) (hc : (tw_cl Y)[ci]? = some (C, T, Nf)) (hk : kf < Nf) (hlink : Cond.fieldLink own index ref (T kf).2.1 (T kf).2.2.1 ∈ Ts) (href : ref = (T kf).1) (hq : mem[q]? = some (.inr (ci, fs))) (hv : fs[kf]? = some v) (k : tw_rn Y Z Post (pc + 3) L (v :: S) mem) : tw_rn Y Z Post pc L (.inr q :: S) mem := by
  obtain ⟨l, D, cl, ad, N, cI, cZ, Ns⟩ := Y
  obtain ⟨p, e, R, s, m, args, below, meth, c⟩ := Z
  obtain ⟨hx, hb, ho, hts, hK, hret, hlk, hR, hnL, hNs⟩ := hX
  intro hL hS hM hN H locs ls hP hD hSt hl
  obtain ⟨-, h2⟩ := List.forall_mem_cons.mp hS
  have hc : cl[ci]? = some (C, T, Nf) := hc
  subst href
  have ov : tw_okv v := hM _ (List.mem_of_getElem? hq) v (List.mem_of_getElem? hv)
  exact va_get (v := tw_cv ad v) hx hb hts hin ho hK hP q (tw_wl_at hq) hc kf hk (hts _ hlink) (fun _ h => h) (by rw [List.getElem?_map, hv]; rfl) hd (k hL (List.forall_mem_cons.mpr ⟨ov, h2⟩) hM hN H locs ls hP hD hSt hl)
theorem tw_put {ref C : String} {T : u_T} {Nf ci index q kf : Nat} {fs : List tw_v} {x : Int} {ty : FieldType} (ty0 : Nat → FieldType) (hX : tw_cx Y Z cc own Ts ret d nL) (hd : decode cc pc = .ok (.putfield index, 3)) (hin : ∀ w ∈ u_ws C T Nf, w ∈ Ts) (hty : ∀ k, k < Nf → parseFieldDescriptor (T k).2.2.1 = some (ty0 k)) (hnm : ∀ a, a < Nf → ∀ b, b < Nf → a ≠ b → (T a).2.1 ≠ (T b).2.1) (hc : (tw_cl Y)[ci]? = some (C, T, Nf)) (hk : kf < Nf) (hlink : Cond.fieldLink own index ref (T kf).2.1 (T kf).2.2.1 ∈ Ts) (href : ref = (T kf).1) (hfin : (T kf).2.2.2 = false) (hdt : ty0 kf = ty) (hz : ty = .int ∨ (ty = .boolean ∧ 0 ≤ x ∧ x ≤ 1)) (hq : mem[q]? = some (.inr (ci, fs))) (hlf : kf < fs.length) (hm : mem.set q (.inr (ci, fs.set kf (.inl x))) = mem') (k : tw_rn Y Z Post (pc + 3) L S mem') : tw_rn Y Z Post pc L (.inl x :: .inr q :: S) mem := by
  obtain ⟨l, D, cl, ad, N, cI, cZ, Ns⟩ := Y
  obtain ⟨p, e, R, s, m, args, below, meth, c⟩ := Z
  obtain ⟨hx, hb, ho, hts, hK, hret, hlk, hR, hnL, hNs⟩ := hX
  intro hL hS hM hN H locs ls hP hD hSt hl
  obtain ⟨rx, h1⟩ := List.forall_mem_cons.mp hS
  obtain ⟨-, h2⟩ := List.forall_mem_cons.mp h1
  have hc : cl[ci]? = some (C, T, Nf) := hc
  subst href hm
  have of : ∀ v ∈ fs, tw_okv v := hM _ (List.mem_of_getElem? hq)
  have hn : narrow ty (.int (tw_I x)) = .int (tw_I x) ∧ fits ty (.int (tw_I x)) = true := by
    rcases hz with rfl | ⟨rfl, h3, h4⟩
    · exact ⟨rfl, rfl⟩
    · rcases (by omega : x = 0 ∨ x = 1) with rfl | rfl <;> exact ⟨rfl, rfl⟩
  refine va_put (v := .int (tw_I x)) hx hb hts hin ty0 hty hnm ho hK hP hD hSt q (tw_wl_at hq) hc kf hk (hts _ hlink) (fun _ h => h) hfin (by rw [hty kf hk, hdt]) hn.1 hn.2 (by rw [List.length_map]; exact hlf) hd (fun H1 locs1 hP1 hD1 hS1 => ?_)
  have e1 : (tw_wl ad cI cZ mem).set q (ad q, .inr (ci, (fs.map (tw_cv ad)).set kf (.int (tw_I x)))) = tw_wl ad cI cZ (mem.set q (.inr (ci, fs.set kf (.inl x)))) := by
    rw [← tw_wl_set]
    congr 3
    show _ = (ci, (fs.set kf (.inl x)).map (tw_cv ad))
    rw [List.map_set]
    rfl
  have hP1 := e1 ▸ hP1
  have hD1 := e1 ▸ hD1
  exact k hL h2 (tw_set_ok hM (tw_setv_ok of rx)) (by rw [List.length_set]; exact hN) H1 locs1 ls hP1 hD1 hS1 hl
/-- where a call goes on -/
abbrev tw_go (Y : tw_Y) (Z : tw_Z) (Post : tw_P) (pc : Nat) (L : List (Option tw_v)) (S : List tw_v) : tw_P := fun r mem => match r with
  | some z => tw_rn Y Z Post pc L (.inl z :: S) mem
  | none => tw_rn Y Z Post pc L S mem
theorem tw_cont {l : Launch} {D : va_G} {cl : List vw_C} {ad : Nat → Nat} {N : Nat} {cI cZ : ClassId} {Ns : tw_N} {p : Program} {e : Env} {R : Room} {s : State} {m : MethodId} {args a : Array Value} {below : List Frame} {meth : Method} {c : Code} {H : Heap} {locs : List Loc} {ls : Array Slot} {st0 : List Value}
    (hL : ∀ (i : Nat) (v : tw_v), L[i]? = some (some v) → tw_okv v) (hS : ∀ v ∈ S, tw_okv v) (hSt : va_S (tw_A ad N s.heap.size) s.heap H locs) (hl : tw_lr ad ls c.maxLocals L)
    (hr : va_Run p l e R s m args below meth c H locs 0 0 0 0 (F0 m pc ls st0) (S.map (tw_cv ad)) (tw_Qc (l, D, cl, ad, N, cI, cZ, Ns) H.size (tw_go (l, D, cl, ad, N, cI, cZ, Ns) (p, e, R, s, m, args, below, meth, c) Post (pc + 3) L S) a) (tw_A ad N H.size)) :
    W p l e R s m args below meth c H locs 0 0 (MQ below (tw_Qc (l, D, cl, ad, N, cI, cZ, Ns) s.heap.size Post) args s 0 0 (tw_A ad N s.heap.size)) (F0 m pc ls st0) := by
  intro T hT X
  obtain ⟨v, st₀, t, T', L1, h0, X', hL1, e1, e2, ⟨⟨r, mem', hv, hp, hrr, hmo, hml, hPm, hKm, hDm⟩, hz, hk⟩, st⟩ := hr T hT X
  rw [h0] at hz hk
  have hsub : ∀ q, tw_A ad N H.size q → tw_A ad N s.heap.size q := fun q h => by
    rcases h with h | h
    · exact Or.inl h
    · exact Or.inr (Nat.le_trans hSt.1 h)
  have hD' : va_D (tw_A ad N s.heap.size) (tw_wl ad cI cZ mem') := hDm.weaken (fun k q _ h => hsub _ h)
  have hP' : va_P D cl (tw_wl ad cI cZ mem') T'.heap := by rw [e1]; exact hPm
  have hS' : va_S (tw_A ad N s.heap.size) s.heap T'.heap (locs ++ L1) := ⟨Nat.le_trans hSt.1 (by rw [e1]; exact hz), fun q h1 h2 => by rw [e1, hk q (Nat.lt_of_lt_of_le h1 hSt.1) (fun z => h2 (hsub q z))]; exact hSt.2.1 q h1 h2, fun q hq => by
    rcases List.mem_append.mp hq with h | h
    · exact hSt.2.2 q h
    · exact hsub _ (hL1 q h)⟩
  cases r with
  | none =>
    have hv : v = none := by injection hv
    subst hv
    have hp : tw_rn (l, D, cl, ad, N, cI, cZ, Ns) (p, e, R, s, m, args, below, meth, c) Post (pc + 3) L S mem' := hp
    obtain ⟨t2, a1, b1⟩ := hp hL hS hmo hml T'.heap (locs ++ L1) ls hP' hD' hS' hl T' rfl X'
    exact ⟨t2, st t2 a1, b1⟩
  | some z =>
    have hv : v = some (.int (tw_I z)) := by injection hv
    subst hv
    have hp : tw_rn (l, D, cl, ad, N, cI, cZ, Ns) (p, e, R, s, m, args, below, meth, c) Post (pc + 3) L (.inl z :: S) mem' := hp
    obtain ⟨t2, a1, b1⟩ := hp hL (List.forall_mem_cons.mpr ⟨hrr z rfl, hS⟩) hmo hml T'.heap (locs ++ L1) ls hP' hD' hS' hl T' rfl X'
    exact ⟨t2, st t2 a1, b1⟩
/-- the words: one list for all -/
theorem tw_gi {w0 : Cond} (h : ∀ w ∈ Ts, goodWord w = true) (h0 : w0 ∈ Ts) : GoodIn Ts (w0 :: Ts) := fun w hw => by
  rcases List.mem_cons.mp hw with rfl | hw
  · exact ⟨h0, good_of_word (h _ h0)⟩
  · exact ⟨hw, good_of_word (h _ hw)⟩
theorem tw_blind {ad : Nat → Nat} {D : va_G} {cl : List vw_C} {cI cZ : ClassId} {Ns : tw_N} {As : List tw_v} {sz : Nat} : FrameBlind (va_Pc (As.map (tw_cv ad)) (fun U => U.heap.size = sz ∧ va_P D cl (tw_wl ad cI cZ mem) U.heap ∧ va_K D cl (tw_ty cI cZ) U ∧ va_D (fun _ => True) (tw_wl ad cI cZ mem) ∧ tw_nw Ns U)) := fun a U g mk q => by
  obtain ⟨q0, q1, qP, qK, qD, qN⟩ := q
  exact ⟨q0, q1, qP, va_K.moved (u := U) (U := U.calling g mk a) (Vm.Alike.refl U.vm) qK, qD, tw_nw.same rfl qN⟩
variable {y : MethodName} {bytes : ByteArray} {maxL d' index n : Nat} {rt : Option FieldType} {As : List tw_v}
/-- what a call needs besides its words -/
def tw_dc (y : MethodName) (n : Nat) : Prop := y.cls ≠ "java/lang/invoke/MethodHandle" ∧ y.cls ≠ "java/lang/invoke/VarHandle" ∧ (parseMethodDescriptor y.desc).map (fun d => d.parameters.length) = some n
theorem tw_callS (hX : tw_cx Y Z cc own Ts ret d nL) (hd : decode cc pc = .ok (.invokestatic index, 3)) (hw : ∀ w ∈ Ts, goodWord w = true) (hcode : Cond.code y bytes maxL rt ∈ Ts) (hlink : Cond.methodLink own index y ∈ Ts) (hstat : Cond.static y ∈ Ts) (hini : Cond.initialized y.cls ∈ Ts) (hdc : tw_dc y n) (hroom : d' + 1 ≤ d ∧ maxL ≤ 21) (hn : As.length = n) (hS8 : S.length ≤ 8)
    (hct : tw_ct Y y (Cond.code y bytes maxL rt :: Ts) d' As mem (tw_go Y Z Post (pc + 3) L S)) : tw_rn Y Z Post pc L (As.reverse ++ S) mem := by
  obtain ⟨l, D, cl, ad, N, cI, cZ, Ns⟩ := Y
  obtain ⟨p, e, R, s, m, args, below, meth, c⟩ := Z
  obtain ⟨hx, hb, ho, hts, hK, hret, hlk, hR, hnL, hNs⟩ := hX
  intro hL hS hM hN H locs ls hP hD hSt hl
  have hA : ∀ v ∈ As, tw_okv v := fun v h => hS v (List.mem_append_left _ (List.mem_reverse.mpr h))
  have hS2 : ∀ v ∈ S, tw_okv v := fun v h => hS v (List.mem_append_right _ h)
  have hcat : ((S.map (tw_cv ad)).map fun v => v.category).sum ≤ 8 := by
    have : (S.map (tw_cv ad)).map (fun v => v.category) = List.replicate S.length 1 := by
      rw [List.map_map, List.eq_replicate_iff]
      simp [tw_cat]
    rw [this]
    simp
    exact hS8
  refine tw_cont hL hS2 hSt hl (va_runS (As := As.map (tw_cv ad)) (n := n) ⟨hx, hb, rfl, ho, hts⟩ (hct hA hM hN H.size) (bytes := bytes) (maxL := maxL) (ret := rt)
    ⟨callB_of n hts (tw_gi hw hcode) rfl rfl rfl (hts _ hini) (hts _ hlink) hdc (by rw [hR]; exact ⟨hroom.1, by show 8 + (maxL + 11) + 40 * d' ≤ 40 * d; omega⟩), hts _ hstat⟩
    ⟨tw_blind, fun U hU hW => ⟨rfl, by rw [hU], by rw [hU]; exact hP, va_K.moved hW.alike hK, hD.weaken (fun _ _ _ _ => trivial), tw_nw.warm hW hNs⟩⟩ rfl (by rw [List.length_map]; exact hn) hl.1 ?_ (lv_room hcat) hd ⟨Nat.zero_le _, Nat.zero_le _⟩)
  show List.map (tw_cv ad) (As.reverse ++ S) = _
  rw [List.map_append, List.map_reverse]
theorem tw_callSN {host : String} (hX : tw_cx Y Z cc own Ts ret d nL) (hd : decode cc pc = .ok (.invokestatic index, 3)) (hw : ∀ w ∈ Ts, goodWord w = true) (hcode : Cond.code y bytes maxL rt ∈ Ts) (hlink : (own, index, y, host) ∈ tw_ns Y) (hstat : Cond.static y ∈ Ts) (hini : Cond.initialized y.cls ∈ Ts) (hdc : tw_dc y n) (hroom : d' + 1 ≤ d ∧ maxL ≤ 21) (hn : As.length = n) (hS8 : S.length ≤ 8)
    (hct : tw_ct Y y (Cond.code y bytes maxL rt :: Ts) d' As mem (tw_go Y Z Post (pc + 3) L S)) : tw_rn Y Z Post pc L (As.reverse ++ S) mem := by
  obtain ⟨l, D, cl, ad, N, cI, cZ, Ns⟩ := Y
  obtain ⟨p, e, R, s, m, args, below, meth, c⟩ := Z
  obtain ⟨hx, hb, ho, hts, hK, hret, hlk, hR, hnL, hNs⟩ := hX
  intro hL hS hM hN H locs ls hP hD hSt hl
  have hA : ∀ v ∈ As, tw_okv v := fun v h => hS v (List.mem_append_left _ (List.mem_reverse.mpr h))
  have hS2 : ∀ v ∈ S, tw_okv v := fun v h => hS v (List.mem_append_right _ h)
  have hcat : ((S.map (tw_cv ad)).map fun v => v.category).sum ≤ 8 := by
    have : (S.map (tw_cv ad)).map (fun v => v.category) = List.replicate S.length 1 := by
      rw [List.map_map, List.eq_replicate_iff]
      simp [tw_cat]
    rw [this]
    simp
    exact hS8
  refine tw_cont hL hS2 hSt hl (va_runSN (As := As.map (tw_cv ad)) (n := n) (host := host) ⟨hx, hb, rfl, ho, hts⟩ (hct hA hM hN H.size) (bytes := bytes) (maxL := maxL) (ret := rt)
    ⟨va_cnB n hts (tw_gi hw hcode) rfl rfl rfl (hNs _ hlink) (hts _ hini) hdc (by rw [hR]; exact ⟨hroom.1, by show 8 + (maxL + 11) + 40 * d' ≤ 40 * d; omega⟩), hts _ hstat, trivial⟩
    ⟨tw_blind, fun U hU hW => ⟨rfl, by rw [hU], by rw [hU]; exact hP, va_K.moved hW.alike hK, hD.weaken (fun _ _ _ _ => trivial), tw_nw.warm hW hNs⟩⟩ rfl (by rw [List.length_map]; exact hn) hl.1 ?_ (lv_room hcat) hd ⟨Nat.zero_le _, Nat.zero_le _⟩)
  show List.map (tw_cv ad) (As.reverse ++ S) = _
  rw [List.map_append, List.map_reverse]
theorem tw_callV {q ci : Nat} {fs : List tw_v} {T : u_T} {Nf : Nat} (hX : tw_cx Y Z cc own Ts ret d nL) (hd : decode cc pc = .ok (.invokevirtual index, 3)) (hw : ∀ w ∈ Ts, goodWord w = true) (hcode : Cond.code y bytes maxL rt ∈ Ts) (hlink : Cond.methodLink own index y ∈ Ts) (hinst : Cond.instanceMethod y ∈ Ts) (hsel : Cond.selects y.cls y y ∈ Ts) (hini : Cond.initialized y.cls ∈ Ts) (hdc : tw_dc y n) (hc : (tw_cl Y)[ci]? = some (y.cls, T, Nf)) (hq : mem[q]? = some (.inr (ci, fs))) (hroom : d' + 1 ≤ d ∧ maxL ≤ 21) (hn : As.length = n) (hS8 : S.length ≤ 8)
    (hct : tw_ct Y y (Cond.code y bytes maxL rt :: Ts) d' (.inr q :: As) mem (tw_go Y Z Post (pc + 3) L S)) : tw_rn Y Z Post pc L (As.reverse ++ .inr q :: S) mem := by
  obtain ⟨l, D, cl, ad, N, cI, cZ, Ns⟩ := Y
  obtain ⟨p, e, R, s, m, args, below, meth, c⟩ := Z
  obtain ⟨hx, hb, ho, hts, hK, hret, hlk, hR, hnL, hNs⟩ := hX
  intro hL hS hM hN H locs ls hP hD hSt hl
  have hA : ∀ v ∈ (.inr q :: As : List tw_v), tw_okv v := fun v h => by
    rcases List.mem_cons.mp h with rfl | h
    · exact trivial
    · exact hS v (List.mem_append_left _ (List.mem_reverse.mpr h))
  have hS2 : ∀ v ∈ S, tw_okv v := fun v h => hS v (List.mem_append_right _ (List.mem_cons_of_mem _ h))
  have hc : cl[ci]? = some (y.cls, T, Nf) := hc
  have hcat : ((S.map (tw_cv ad)).map fun v => v.category).sum ≤ 8 := by
    have : (S.map (tw_cv ad)).map (fun v => v.category) = List.replicate S.length 1 := by
      rw [List.map_map, List.eq_replicate_iff]
      simp [tw_cat]
    rw [this]
    simp
    exact hS8
  refine tw_cont hL hS2 hSt hl (va_runV (As := As.map (tw_cv ad)) (n := n) (b := ad q) (C := y.cls) ⟨hx, hb, rfl, ho, hts⟩ (hct hA hM hN H.size) (bytes := bytes) (maxL := maxL) (ret := rt)
    ⟨callB_of n hts (tw_gi hw hcode) rfl rfl rfl (hts _ hini) (hts _ hlink) hdc (by rw [hR]; exact ⟨hroom.1, by show 8 + (maxL + 11) + 40 * d' ≤ 40 * d; omega⟩), hts _ hinst, hts _ hsel⟩
    ⟨tw_blind (As := .inr q :: As), va_recv hK hP hc (tw_wl_at hq), fun U hU hW => ⟨rfl, by rw [hU], by rw [hU]; exact hP, va_K.moved hW.alike hK, hD.weaken (fun _ _ _ _ => trivial), tw_nw.warm hW hNs⟩⟩ rfl (by rw [List.length_map]; exact hn) hl.1 ?_ (lv_room hcat) hd ⟨Nat.zero_le _, Nat.zero_le _⟩)
  show List.map (tw_cv ad) (As.reverse ++ .inr q :: S) = _
  rw [List.map_append, List.map_reverse]
  rfl
theorem tw_max {a b : Int} (hX : tw_cx Y Z cc own Ts ret d nL) (hd : decode cc pc = .ok (.invokestatic index, 3)) (hlink : Cond.methodLink own index Lib.Math.max.name ∈ Ts) (hstat : Cond.static Lib.Math.max.name ∈ Ts) (hini : Cond.initialized "java/lang/Math" ∈ Ts) (hcode : Cond.code Lib.Math.max.name Lib.Math.max.code 2 (some .int) ∈ Ts) (hroom : 1 ≤ d) (hS8 : S.length ≤ 8) (k : tw_rn Y Z Post (pc + 3) L (.inl (if a < b then b else a) :: S) mem) : tw_rn Y Z Post pc L (.inl b :: .inl a :: S) mem := by
  obtain ⟨l, D, cl, ad, N, cI, cZ, Ns⟩ := Y
  obtain ⟨p, e, R, s, m, args, below, meth, c⟩ := Z
  obtain ⟨hx, hb, ho, hts, hK, hret, hlk, hR, hnL, hNs⟩ := hX
  intro hL hS hM hN H locs ls hP hD hSt hl
  obtain ⟨rb, h1⟩ := List.forall_mem_cons.mp hS
  obtain ⟨ra, h2⟩ := List.forall_mem_cons.mp h1
  have rb : tw_rg b := rb
  have ra : tw_rg a := ra
  have hcat : ((S.map (tw_cv ad)).map fun v => v.category).sum ≤ 8 := by
    have : (S.map (tw_cv ad)).map (fun v => v.category) = List.replicate S.length 1 := by
      rw [List.map_map, List.eq_replicate_iff]
      simp [tw_cat]
    rw [this]
    simp
    exact hS8
  refine va_mmax hx hb hl.1.symm ho (hts _ hlink) (hts _ hstat) (hts _ hini) (hts _ hcode) (by rw [hR]; exact hroom) (by rw [hR]; show _ ≤ 40 * d; omega) (by rw [hR]; exact Nat.zero_le _) (by rw [hR]; exact Nat.zero_le _) hd ?_
  have e1 : (if tw_I a < tw_I b then tw_I b else tw_I a) = tw_I (if a < b then b else a) := by
    by_cases h : a < b
    · rw [if_pos h, if_pos ((tw_I_lt ra rb).mpr h)]
    · rw [if_neg h, if_neg (fun q => h ((tw_I_lt ra rb).mp q))]
  rw [e1]
  have rm : tw_rg (if a < b then b else a) := by split <;> assumption
  exact k hL (List.forall_mem_cons.mpr ⟨rm, h2⟩) hM hN H locs ls hP hD hSt hl
end TWCALLS
end
section
theorem tww_0 : (Jvm.Cond.selects "TwoWayLines" ({ cls := "TwoWayLines", name := "layOut", desc := "()V" } : Jvm.MethodName) ({ cls := "TwoWayLines", name := "layOut", desc := "()V" } : Jvm.MethodName)) ∈ tw_Wg := tw_Wg_of (i := 0) (by decide +kernel) rfl
theorem tww_1 : (Jvm.Cond.selects "TwoWayLines$Explicit" ({ cls := "TwoWayLines$Explicit", name := "begin", desc := "(I)V" } : Jvm.MethodName) ({ cls := "TwoWayLines$Explicit", name := "begin", desc := "(I)V" } : Jvm.MethodName)) ∈ tw_Wg := tw_Wg_of (i := 1) (by decide +kernel) rfl
theorem tww_2 : (Jvm.Cond.selects "TwoWayLines$Explicit" ({ cls := "TwoWayLines$Explicit", name := "endIsolate", desc := "()V" } : Jvm.MethodName) ({ cls := "TwoWayLines$Explicit", name := "endIsolate", desc := "()V" } : Jvm.MethodName)) ∈ tw_Wg := tw_Wg_of (i := 2) (by decide +kernel) rfl
theorem tww_3 : (Jvm.Cond.selects "TwoWayLines$Explicit" ({ cls := "TwoWayLines$Explicit", name := "endEmbedding", desc := "()V" } : Jvm.MethodName) ({ cls := "TwoWayLines$Explicit", name := "endEmbedding", desc := "()V" } : Jvm.MethodName)) ∈ tw_Wg := tw_Wg_of (i := 3) (by decide +kernel) rfl
theorem tww_4 : (Jvm.Cond.selects "TwoWayLines$Explicit" ({ cls := "TwoWayLines$Explicit", name := "beginEmbedding", desc := "(I)V" } : Jvm.MethodName) ({ cls := "TwoWayLines$Explicit", name := "beginEmbedding", desc := "(I)V" } : Jvm.MethodName)) ∈ tw_Wg := tw_Wg_of (i := 4) (by decide +kernel) rfl
theorem tww_5 : (Jvm.Cond.selects "TwoWayLines$Explicit" ({ cls := "TwoWayLines$Explicit", name := "nextLevel", desc := "(Z)I" } : Jvm.MethodName) ({ cls := "TwoWayLines$Explicit", name := "nextLevel", desc := "(Z)I" } : Jvm.MethodName)) ∈ tw_Wg := tw_Wg_of (i := 5) (by decide +kernel) rfl
theorem tww_6 : (Jvm.Cond.selects "TwoWayLines$Explicit" ({ cls := "TwoWayLines$Explicit", name := "fits", desc := "(I)Z" } : Jvm.MethodName) ({ cls := "TwoWayLines$Explicit", name := "fits", desc := "(I)Z" } : Jvm.MethodName)) ∈ tw_Wg := tw_Wg_of (i := 6) (by decide +kernel) rfl
theorem tww_7 : (Jvm.Cond.selects "TwoWayLines$Explicit" ({ cls := "TwoWayLines$Explicit", name := "push", desc := "(IIZ)V" } : Jvm.MethodName) ({ cls := "TwoWayLines$Explicit", name := "push", desc := "(IIZ)V" } : Jvm.MethodName)) ∈ tw_Wg := tw_Wg_of (i := 7) (by decide +kernel) rfl
theorem tww_8 : (Jvm.Cond.selects "TwoWayLines$Explicit" ({ cls := "TwoWayLines$Explicit", name := "give", desc := "(II)V" } : Jvm.MethodName) ({ cls := "TwoWayLines$Explicit", name := "give", desc := "(II)V" } : Jvm.MethodName)) ∈ tw_Wg := tw_Wg_of (i := 8) (by decide +kernel) rfl
theorem tww_9 : (Jvm.Cond.selects "TwoWayLines$Explicit" ({ cls := "TwoWayLines$Explicit", name := "wantsOdd", desc := "(LTwoWayLines$Paragraph;LTwoWayLines$Matches;I)Z" } : Jvm.MethodName) ({ cls := "TwoWayLines$Explicit", name := "wantsOdd", desc := "(LTwoWayLines$Paragraph;LTwoWayLines$Matches;I)Z" } : Jvm.MethodName)) ∈ tw_Wg := tw_Wg_of (i := 9) (by decide +kernel) rfl
theorem tww_10 : (Jvm.Cond.selects "TwoWayLines$Explicit" ({ cls := "TwoWayLines$Explicit", name := "beginIsolate", desc := "(Z)V" } : Jvm.MethodName) ({ cls := "TwoWayLines$Explicit", name := "beginIsolate", desc := "(Z)V" } : Jvm.MethodName)) ∈ tw_Wg := tw_Wg_of (i := 10) (by decide +kernel) rfl
theorem tww_11 : (Jvm.Cond.selects "TwoWayLines$Levels" ({ cls := "TwoWayLines$Levels", name := "beginsSequence", desc := "(LTwoWayLines$Paragraph;I)Z" } : Jvm.MethodName) ({ cls := "TwoWayLines$Levels", name := "beginsSequence", desc := "(LTwoWayLines$Paragraph;I)Z" } : Jvm.MethodName)) ∈ tw_Wg := tw_Wg_of (i := 11) (by decide +kernel) rfl
theorem tww_12 : (Jvm.Cond.selects "TwoWayLines$Levels" ({ cls := "TwoWayLines$Levels", name := "visibleBefore", desc := "(LTwoWayLines$Paragraph;I)I" } : Jvm.MethodName) ({ cls := "TwoWayLines$Levels", name := "visibleBefore", desc := "(LTwoWayLines$Paragraph;I)I" } : Jvm.MethodName)) ∈ tw_Wg := tw_Wg_of (i := 12) (by decide +kernel) rfl
theorem tww_13 : (Jvm.Cond.selects "TwoWayLines$Levels" ({ cls := "TwoWayLines$Levels", name := "gather", desc := "(LTwoWayLines$Paragraph;I)V" } : Jvm.MethodName) ({ cls := "TwoWayLines$Levels", name := "gather", desc := "(LTwoWayLines$Paragraph;I)V" } : Jvm.MethodName)) ∈ tw_Wg := tw_Wg_of (i := 13) (by decide +kernel) rfl
theorem tww_14 : (Jvm.Cond.selects "TwoWayLines$Levels" ({ cls := "TwoWayLines$Levels", name := "takeRun", desc := "(LTwoWayLines$Paragraph;I)I" } : Jvm.MethodName) ({ cls := "TwoWayLines$Levels", name := "takeRun", desc := "(LTwoWayLines$Paragraph;I)I" } : Jvm.MethodName)) ∈ tw_Wg := tw_Wg_of (i := 14) (by decide +kernel) rfl
theorem tww_15 : (Jvm.Cond.selects "TwoWayLines$Levels" ({ cls := "TwoWayLines$Levels", name := "setSides", desc := "(LTwoWayLines$Paragraph;)V" } : Jvm.MethodName) ({ cls := "TwoWayLines$Levels", name := "setSides", desc := "(LTwoWayLines$Paragraph;)V" } : Jvm.MethodName)) ∈ tw_Wg := tw_Wg_of (i := 15) (by decide +kernel) rfl
theorem tww_16 : (Jvm.Cond.selects "TwoWayLines$Levels" ({ cls := "TwoWayLines$Levels", name := "visibleBehind", desc := "(LTwoWayLines$Paragraph;I)I" } : Jvm.MethodName) ({ cls := "TwoWayLines$Levels", name := "visibleBehind", desc := "(LTwoWayLines$Paragraph;I)I" } : Jvm.MethodName)) ∈ tw_Wg := tw_Wg_of (i := 16) (by decide +kernel) rfl
theorem tww_17 : (Jvm.Cond.selects "TwoWayLines$Levels" ({ cls := "TwoWayLines$Levels", name := "levelBeside", desc := "(I)I" } : Jvm.MethodName) ({ cls := "TwoWayLines$Levels", name := "levelBeside", desc := "(I)I" } : Jvm.MethodName)) ∈ tw_Wg := tw_Wg_of (i := 17) (by decide +kernel) rfl
theorem tww_18 : (Jvm.Cond.selects "TwoWayLines$Sequence" ({ cls := "TwoWayLines$Sequence", name := "joinMarks", desc := "()V" } : Jvm.MethodName) ({ cls := "TwoWayLines$Sequence", name := "joinMarks", desc := "()V" } : Jvm.MethodName)) ∈ tw_Wg := tw_Wg_of (i := 18) (by decide +kernel) rfl
theorem tww_19 : (Jvm.Cond.selects "TwoWayLines$Sequence" ({ cls := "TwoWayLines$Sequence", name := "turnArabicNumbers", desc := "()V" } : Jvm.MethodName) ({ cls := "TwoWayLines$Sequence", name := "turnArabicNumbers", desc := "()V" } : Jvm.MethodName)) ∈ tw_Wg := tw_Wg_of (i := 19) (by decide +kernel) rfl
theorem tww_20 : (Jvm.Cond.selects "TwoWayLines$Sequence" ({ cls := "TwoWayLines$Sequence", name := "turnSeparators", desc := "()V" } : Jvm.MethodName) ({ cls := "TwoWayLines$Sequence", name := "turnSeparators", desc := "()V" } : Jvm.MethodName)) ∈ tw_Wg := tw_Wg_of (i := 20) (by decide +kernel) rfl
theorem tww_21 : (Jvm.Cond.selects "TwoWayLines$Sequence" ({ cls := "TwoWayLines$Sequence", name := "turnTerminators", desc := "()V" } : Jvm.MethodName) ({ cls := "TwoWayLines$Sequence", name := "turnTerminators", desc := "()V" } : Jvm.MethodName)) ∈ tw_Wg := tw_Wg_of (i := 21) (by decide +kernel) rfl
theorem tww_22 : (Jvm.Cond.selects "TwoWayLines$Sequence" ({ cls := "TwoWayLines$Sequence", name := "freeLeftovers", desc := "()V" } : Jvm.MethodName) ({ cls := "TwoWayLines$Sequence", name := "freeLeftovers", desc := "()V" } : Jvm.MethodName)) ∈ tw_Wg := tw_Wg_of (i := 22) (by decide +kernel) rfl
theorem tww_23 : (Jvm.Cond.selects "TwoWayLines$Sequence" ({ cls := "TwoWayLines$Sequence", name := "turnLatinNumbers", desc := "()V" } : Jvm.MethodName) ({ cls := "TwoWayLines$Sequence", name := "turnLatinNumbers", desc := "()V" } : Jvm.MethodName)) ∈ tw_Wg := tw_Wg_of (i := 23) (by decide +kernel) rfl
theorem tww_24 : (Jvm.Cond.selects "TwoWayLines$Brackets" ({ cls := "TwoWayLines$Brackets", name := "pairUp", desc := "(LTwoWayLines$Paragraph;LTwoWayLines$Sequence;)V" } : Jvm.MethodName) ({ cls := "TwoWayLines$Brackets", name := "pairUp", desc := "(LTwoWayLines$Paragraph;LTwoWayLines$Sequence;)V" } : Jvm.MethodName)) ∈ tw_Wg := tw_Wg_of (i := 24) (by decide +kernel) rfl
theorem tww_25 : (Jvm.Cond.selects "TwoWayLines$Brackets" ({ cls := "TwoWayLines$Brackets", name := "close", desc := "(LTwoWayLines$Paragraph;LTwoWayLines$Sequence;II)I" } : Jvm.MethodName) ({ cls := "TwoWayLines$Brackets", name := "close", desc := "(LTwoWayLines$Paragraph;LTwoWayLines$Sequence;II)I" } : Jvm.MethodName)) ∈ tw_Wg := tw_Wg_of (i := 25) (by decide +kernel) rfl
theorem tww_26 : (Jvm.Cond.selects "TwoWayLines$Brackets" ({ cls := "TwoWayLines$Brackets", name := "settle", desc := "(LTwoWayLines$Sequence;II)V" } : Jvm.MethodName) ({ cls := "TwoWayLines$Brackets", name := "settle", desc := "(LTwoWayLines$Sequence;II)V" } : Jvm.MethodName)) ∈ tw_Wg := tw_Wg_of (i := 26) (by decide +kernel) rfl
theorem tww_27 : (Jvm.Cond.selects "TwoWayLines$Brackets" ({ cls := "TwoWayLines$Brackets", name := "strongBetween", desc := "(LTwoWayLines$Sequence;II)I" } : Jvm.MethodName) ({ cls := "TwoWayLines$Brackets", name := "strongBetween", desc := "(LTwoWayLines$Sequence;II)I" } : Jvm.MethodName)) ∈ tw_Wg := tw_Wg_of (i := 27) (by decide +kernel) rfl
theorem tww_28 : (Jvm.Cond.selects "TwoWayLines$Brackets" ({ cls := "TwoWayLines$Brackets", name := "strongBefore", desc := "(LTwoWayLines$Sequence;I)I" } : Jvm.MethodName) ({ cls := "TwoWayLines$Brackets", name := "strongBefore", desc := "(LTwoWayLines$Sequence;I)I" } : Jvm.MethodName)) ∈ tw_Wg := tw_Wg_of (i := 28) (by decide +kernel) rfl
theorem tww_29 : (Jvm.Cond.selects "TwoWayLines$Brackets" ({ cls := "TwoWayLines$Brackets", name := "give", desc := "(LTwoWayLines$Sequence;II)V" } : Jvm.MethodName) ({ cls := "TwoWayLines$Brackets", name := "give", desc := "(LTwoWayLines$Sequence;II)V" } : Jvm.MethodName)) ∈ tw_Wg := tw_Wg_of (i := 29) (by decide +kernel) rfl
theorem tww_30 : (Jvm.Cond.selects "TwoWayLines$Sequence" ({ cls := "TwoWayLines$Sequence", name := "fillTypes", desc := "(III)V" } : Jvm.MethodName) ({ cls := "TwoWayLines$Sequence", name := "fillTypes", desc := "(III)V" } : Jvm.MethodName)) ∈ tw_Wg := tw_Wg_of (i := 30) (by decide +kernel) rfl
theorem tww_31 : (Jvm.Cond.selects "TwoWayLines$Levels" ({ cls := "TwoWayLines$Levels", name := "keep", desc := "()V" } : Jvm.MethodName) ({ cls := "TwoWayLines$Levels", name := "keep", desc := "()V" } : Jvm.MethodName)) ∈ tw_Wg := tw_Wg_of (i := 31) (by decide +kernel) rfl
theorem tww_32 : (Jvm.Cond.selects "TwoWayLines$Filling" ({ cls := "TwoWayLines$Filling", name := "findGroups", desc := "(LTwoWayLines$Paragraph;)V" } : Jvm.MethodName) ({ cls := "TwoWayLines$Filling", name := "findGroups", desc := "(LTwoWayLines$Paragraph;)V" } : Jvm.MethodName)) ∈ tw_Wg := tw_Wg_of (i := 32) (by decide +kernel) rfl
theorem tww_33 : (Jvm.Cond.selects "TwoWayLines$Filling" ({ cls := "TwoWayLines$Filling", name := "findBreaks", desc := "(LTwoWayLines$Paragraph;)V" } : Jvm.MethodName) ({ cls := "TwoWayLines$Filling", name := "findBreaks", desc := "(LTwoWayLines$Paragraph;)V" } : Jvm.MethodName)) ∈ tw_Wg := tw_Wg_of (i := 33) (by decide +kernel) rfl
theorem tww_34 : (Jvm.Cond.selects "TwoWayLines$Filling" ({ cls := "TwoWayLines$Filling", name := "endOfLine", desc := "(LTwoWayLines$Paragraph;II)I" } : Jvm.MethodName) ({ cls := "TwoWayLines$Filling", name := "endOfLine", desc := "(LTwoWayLines$Paragraph;II)I" } : Jvm.MethodName)) ∈ tw_Wg := tw_Wg_of (i := 34) (by decide +kernel) rfl
theorem tww_35 : (Jvm.Cond.selects "TwoWayLines$Filling" ({ cls := "TwoWayLines$Filling", name := "extentOf", desc := "(LTwoWayLines$Paragraph;II)I" } : Jvm.MethodName) ({ cls := "TwoWayLines$Filling", name := "extentOf", desc := "(LTwoWayLines$Paragraph;II)I" } : Jvm.MethodName)) ∈ tw_Wg := tw_Wg_of (i := 35) (by decide +kernel) rfl
theorem tww_36 : (Jvm.Cond.selects "TwoWayLines$Showing" ({ cls := "TwoWayLines$Showing", name := "setLevels", desc := "(LTwoWayLines$Paragraph;LTwoWayLines$Levels;II)V" } : Jvm.MethodName) ({ cls := "TwoWayLines$Showing", name := "setLevels", desc := "(LTwoWayLines$Paragraph;LTwoWayLines$Levels;II)V" } : Jvm.MethodName)) ∈ tw_Wg := tw_Wg_of (i := 36) (by decide +kernel) rfl
theorem tww_37 : (Jvm.Cond.selects "TwoWayLines$Showing" ({ cls := "TwoWayLines$Showing", name := "setOrder", desc := "(II)V" } : Jvm.MethodName) ({ cls := "TwoWayLines$Showing", name := "setOrder", desc := "(II)V" } : Jvm.MethodName)) ∈ tw_Wg := tw_Wg_of (i := 37) (by decide +kernel) rfl
theorem tww_38 : (Jvm.Cond.selects "TwoWayLines$Showing" ({ cls := "TwoWayLines$Showing", name := "turnRows", desc := "(III)V" } : Jvm.MethodName) ({ cls := "TwoWayLines$Showing", name := "turnRows", desc := "(III)V" } : Jvm.MethodName)) ∈ tw_Wg := tw_Wg_of (i := 38) (by decide +kernel) rfl
theorem tww_39 : (Jvm.Cond.selects "TwoWayLines$Showing" ({ cls := "TwoWayLines$Showing", name := "turn", desc := "(II)V" } : Jvm.MethodName) ({ cls := "TwoWayLines$Showing", name := "turn", desc := "(II)V" } : Jvm.MethodName)) ∈ tw_Wg := tw_Wg_of (i := 39) (by decide +kernel) rfl
theorem tww_40 : (Jvm.Cond.selects "TwoWayLinesModel" ({ cls := "TwoWayLinesModel", name := "opener", desc := "(I)Z" } : Jvm.MethodName) ({ cls := "TwoWayLinesModel", name := "opener", desc := "(I)Z" } : Jvm.MethodName)) ∈ tw_Wg := tw_Wg_of (i := 40) (by decide +kernel) rfl
theorem tww_41 : (Jvm.Cond.selects "TwoWayLinesModel" ({ cls := "TwoWayLinesModel", name := "closing", desc := "(I)I" } : Jvm.MethodName) ({ cls := "TwoWayLinesModel", name := "closing", desc := "(I)I" } : Jvm.MethodName)) ∈ tw_Wg := tw_Wg_of (i := 41) (by decide +kernel) rfl
theorem tww_42 : (Jvm.Cond.selects "TwoWayLinesModel" ({ cls := "TwoWayLinesModel", name := "groupOf", desc := "(I)I" } : Jvm.MethodName) ({ cls := "TwoWayLinesModel", name := "groupOf", desc := "(I)I" } : Jvm.MethodName)) ∈ tw_Wg := tw_Wg_of (i := 42) (by decide +kernel) rfl
theorem tww_43 : (Jvm.Cond.selects "TwoWayLinesModel" ({ cls := "TwoWayLinesModel", name := "work", desc := "()V" } : Jvm.MethodName) ({ cls := "TwoWayLinesModel", name := "work", desc := "()V" } : Jvm.MethodName)) ∈ tw_Wg := tw_Wg_of (i := 43) (by decide +kernel) rfl
theorem tww_44 : (Jvm.Cond.selects "TwoWayLinesModel" ({ cls := "TwoWayLinesModel", name := "explicit", desc := "()V" } : Jvm.MethodName) ({ cls := "TwoWayLinesModel", name := "explicit", desc := "()V" } : Jvm.MethodName)) ∈ tw_Wg := tw_Wg_of (i := 44) (by decide +kernel) rfl
theorem tww_45 : (Jvm.Cond.selects "TwoWayLinesModel" ({ cls := "TwoWayLinesModel", name := "direction", desc := "(II)I" } : Jvm.MethodName) ({ cls := "TwoWayLinesModel", name := "direction", desc := "(II)I" } : Jvm.MethodName)) ∈ tw_Wg := tw_Wg_of (i := 45) (by decide +kernel) rfl
theorem tww_46 : (Jvm.Cond.selects "TwoWayLinesModel" ({ cls := "TwoWayLinesModel", name := "put", desc := "(IIZ)V" } : Jvm.MethodName) ({ cls := "TwoWayLinesModel", name := "put", desc := "(IIZ)V" } : Jvm.MethodName)) ∈ tw_Wg := tw_Wg_of (i := 46) (by decide +kernel) rfl
theorem tww_47 : (Jvm.Cond.selects "TwoWayLinesModel" ({ cls := "TwoWayLinesModel", name := "embed", desc := "(I)V" } : Jvm.MethodName) ({ cls := "TwoWayLinesModel", name := "embed", desc := "(I)V" } : Jvm.MethodName)) ∈ tw_Wg := tw_Wg_of (i := 47) (by decide +kernel) rfl
theorem tww_48 : (Jvm.Cond.selects "TwoWayLinesModel" ({ cls := "TwoWayLinesModel", name := "next", desc := "(Z)I" } : Jvm.MethodName) ({ cls := "TwoWayLinesModel", name := "next", desc := "(Z)I" } : Jvm.MethodName)) ∈ tw_Wg := tw_Wg_of (i := 48) (by decide +kernel) rfl
theorem tww_49 : (Jvm.Cond.selects "TwoWayLinesModel" ({ cls := "TwoWayLinesModel", name := "fits", desc := "(I)Z" } : Jvm.MethodName) ({ cls := "TwoWayLinesModel", name := "fits", desc := "(I)Z" } : Jvm.MethodName)) ∈ tw_Wg := tw_Wg_of (i := 49) (by decide +kernel) rfl
theorem tww_50 : (Jvm.Cond.selects "TwoWayLinesModel" ({ cls := "TwoWayLinesModel", name := "pop", desc := "()V" } : Jvm.MethodName) ({ cls := "TwoWayLinesModel", name := "pop", desc := "()V" } : Jvm.MethodName)) ∈ tw_Wg := tw_Wg_of (i := 50) (by decide +kernel) rfl
theorem tww_51 : (Jvm.Cond.selects "TwoWayLinesModel" ({ cls := "TwoWayLinesModel", name := "isolateAt", desc := "(I)V" } : Jvm.MethodName) ({ cls := "TwoWayLinesModel", name := "isolateAt", desc := "(I)V" } : Jvm.MethodName)) ∈ tw_Wg := tw_Wg_of (i := 51) (by decide +kernel) rfl
theorem tww_52 : (Jvm.Cond.selects "TwoWayLinesModel" ({ cls := "TwoWayLinesModel", name := "settle", desc := "(I)V" } : Jvm.MethodName) ({ cls := "TwoWayLinesModel", name := "settle", desc := "(I)V" } : Jvm.MethodName)) ∈ tw_Wg := tw_Wg_of (i := 52) (by decide +kernel) rfl
theorem tww_53 : (Jvm.Cond.selects "TwoWayLinesModel" ({ cls := "TwoWayLinesModel", name := "leave", desc := "(I)V" } : Jvm.MethodName) ({ cls := "TwoWayLinesModel", name := "leave", desc := "(I)V" } : Jvm.MethodName)) ∈ tw_Wg := tw_Wg_of (i := 53) (by decide +kernel) rfl
theorem tww_54 : (Jvm.Cond.selects "TwoWayLinesModel" ({ cls := "TwoWayLinesModel", name := "sequences", desc := "()V" } : Jvm.MethodName) ({ cls := "TwoWayLinesModel", name := "sequences", desc := "()V" } : Jvm.MethodName)) ∈ tw_Wg := tw_Wg_of (i := 54) (by decide +kernel) rfl
theorem tww_55 : (Jvm.Cond.selects "TwoWayLinesModel" ({ cls := "TwoWayLinesModel", name := "hidden", desc := "(I)Z" } : Jvm.MethodName) ({ cls := "TwoWayLinesModel", name := "hidden", desc := "(I)Z" } : Jvm.MethodName)) ∈ tw_Wg := tw_Wg_of (i := 55) (by decide +kernel) rfl
theorem tww_56 : (Jvm.Cond.selects "TwoWayLinesModel" ({ cls := "TwoWayLinesModel", name := "beginsRun", desc := "(I)Z" } : Jvm.MethodName) ({ cls := "TwoWayLinesModel", name := "beginsRun", desc := "(I)Z" } : Jvm.MethodName)) ∈ tw_Wg := tw_Wg_of (i := 56) (by decide +kernel) rfl
theorem tww_57 : (Jvm.Cond.selects "TwoWayLinesModel" ({ cls := "TwoWayLinesModel", name := "seen", desc := "(II)I" } : Jvm.MethodName) ({ cls := "TwoWayLinesModel", name := "seen", desc := "(II)I" } : Jvm.MethodName)) ∈ tw_Wg := tw_Wg_of (i := 57) (by decide +kernel) rfl
theorem tww_58 : (Jvm.Cond.selects "TwoWayLinesModel" ({ cls := "TwoWayLinesModel", name := "addRun", desc := "(I)V" } : Jvm.MethodName) ({ cls := "TwoWayLinesModel", name := "addRun", desc := "(I)V" } : Jvm.MethodName)) ∈ tw_Wg := tw_Wg_of (i := 58) (by decide +kernel) rfl
theorem tww_59 : (Jvm.Cond.selects "TwoWayLinesModel" ({ cls := "TwoWayLinesModel", name := "bounds", desc := "()V" } : Jvm.MethodName) ({ cls := "TwoWayLinesModel", name := "bounds", desc := "()V" } : Jvm.MethodName)) ∈ tw_Wg := tw_Wg_of (i := 59) (by decide +kernel) rfl
theorem tww_60 : (Jvm.Cond.selects "TwoWayLinesModel" ({ cls := "TwoWayLinesModel", name := "weak", desc := "()V" } : Jvm.MethodName) ({ cls := "TwoWayLinesModel", name := "weak", desc := "()V" } : Jvm.MethodName)) ∈ tw_Wg := tw_Wg_of (i := 60) (by decide +kernel) rfl
theorem tww_61 : (Jvm.Cond.selects "TwoWayLinesModel" ({ cls := "TwoWayLinesModel", name := "at", desc := "(I)I" } : Jvm.MethodName) ({ cls := "TwoWayLinesModel", name := "at", desc := "(I)I" } : Jvm.MethodName)) ∈ tw_Wg := tw_Wg_of (i := 61) (by decide +kernel) rfl
theorem tww_62 : (Jvm.Cond.selects "TwoWayLinesModel" ({ cls := "TwoWayLinesModel", name := "set", desc := "(II)V" } : Jvm.MethodName) ({ cls := "TwoWayLinesModel", name := "set", desc := "(II)V" } : Jvm.MethodName)) ∈ tw_Wg := tw_Wg_of (i := 62) (by decide +kernel) rfl
theorem tww_63 : (Jvm.Cond.selects "TwoWayLinesModel" ({ cls := "TwoWayLinesModel", name := "terminators", desc := "()V" } : Jvm.MethodName) ({ cls := "TwoWayLinesModel", name := "terminators", desc := "()V" } : Jvm.MethodName)) ∈ tw_Wg := tw_Wg_of (i := 63) (by decide +kernel) rfl
theorem tww_64 : (Jvm.Cond.selects "TwoWayLinesModel" ({ cls := "TwoWayLinesModel", name := "brackets", desc := "()V" } : Jvm.MethodName) ({ cls := "TwoWayLinesModel", name := "brackets", desc := "()V" } : Jvm.MethodName)) ∈ tw_Wg := tw_Wg_of (i := 64) (by decide +kernel) rfl
theorem tww_65 : (Jvm.Cond.selects "TwoWayLinesModel" ({ cls := "TwoWayLinesModel", name := "enclose", desc := "(II)V" } : Jvm.MethodName) ({ cls := "TwoWayLinesModel", name := "enclose", desc := "(II)V" } : Jvm.MethodName)) ∈ tw_Wg := tw_Wg_of (i := 65) (by decide +kernel) rfl
theorem tww_66 : (Jvm.Cond.selects "TwoWayLinesModel" ({ cls := "TwoWayLinesModel", name := "strong", desc := "(I)I" } : Jvm.MethodName) ({ cls := "TwoWayLinesModel", name := "strong", desc := "(I)I" } : Jvm.MethodName)) ∈ tw_Wg := tw_Wg_of (i := 66) (by decide +kernel) rfl
theorem tww_67 : (Jvm.Cond.selects "TwoWayLinesModel" ({ cls := "TwoWayLinesModel", name := "give", desc := "(II)V" } : Jvm.MethodName) ({ cls := "TwoWayLinesModel", name := "give", desc := "(II)V" } : Jvm.MethodName)) ∈ tw_Wg := tw_Wg_of (i := 67) (by decide +kernel) rfl
theorem tww_68 : (Jvm.Cond.selects "TwoWayLinesModel" ({ cls := "TwoWayLinesModel", name := "neutral", desc := "()V" } : Jvm.MethodName) ({ cls := "TwoWayLinesModel", name := "neutral", desc := "()V" } : Jvm.MethodName)) ∈ tw_Wg := tw_Wg_of (i := 68) (by decide +kernel) rfl
theorem tww_69 : (Jvm.Cond.selects "TwoWayLinesModel" ({ cls := "TwoWayLinesModel", name := "resolve", desc := "()V" } : Jvm.MethodName) ({ cls := "TwoWayLinesModel", name := "resolve", desc := "()V" } : Jvm.MethodName)) ∈ tw_Wg := tw_Wg_of (i := 69) (by decide +kernel) rfl
theorem tww_70 : (Jvm.Cond.selects "TwoWayLinesModel" ({ cls := "TwoWayLinesModel", name := "fill", desc := "()V" } : Jvm.MethodName) ({ cls := "TwoWayLinesModel", name := "fill", desc := "()V" } : Jvm.MethodName)) ∈ tw_Wg := tw_Wg_of (i := 70) (by decide +kernel) rfl
theorem tww_71 : (Jvm.Cond.selects "TwoWayLinesModel" ({ cls := "TwoWayLinesModel", name := "endOf", desc := "(I)I" } : Jvm.MethodName) ({ cls := "TwoWayLinesModel", name := "endOf", desc := "(I)I" } : Jvm.MethodName)) ∈ tw_Wg := tw_Wg_of (i := 71) (by decide +kernel) rfl
theorem tww_72 : (Jvm.Cond.selects "TwoWayLinesModel" ({ cls := "TwoWayLinesModel", name := "extentOf", desc := "(II)I" } : Jvm.MethodName) ({ cls := "TwoWayLinesModel", name := "extentOf", desc := "(II)I" } : Jvm.MethodName)) ∈ tw_Wg := tw_Wg_of (i := 72) (by decide +kernel) rfl
theorem tww_73 : (Jvm.Cond.selects "TwoWayLinesModel" ({ cls := "TwoWayLinesModel", name := "showLine", desc := "(II)V" } : Jvm.MethodName) ({ cls := "TwoWayLinesModel", name := "showLine", desc := "(II)V" } : Jvm.MethodName)) ∈ tw_Wg := tw_Wg_of (i := 73) (by decide +kernel) rfl
theorem tww_74 : (Jvm.Cond.selects "TwoWayLinesModel" ({ cls := "TwoWayLinesModel", name := "turn", desc := "(II)V" } : Jvm.MethodName) ({ cls := "TwoWayLinesModel", name := "turn", desc := "(II)V" } : Jvm.MethodName)) ∈ tw_Wg := tw_Wg_of (i := 74) (by decide +kernel) rfl
theorem tww_75 : (Jvm.Cond.selects "TwoWayLinesModel" ({ cls := "TwoWayLinesModel", name := "is", desc := "(I)Z" } : Jvm.MethodName) ({ cls := "TwoWayLinesModel", name := "is", desc := "(I)Z" } : Jvm.MethodName)) ∈ tw_Wg := tw_Wg_of (i := 75) (by decide +kernel) rfl
theorem tww_77 : (Jvm.Cond.initialized "TwoWayLines") ∈ tw_Wg := tw_Wg_of (i := 77) (by decide +kernel) rfl
theorem tww_78 : (Jvm.Cond.initialized "TwoWayLines$Paragraph") ∈ tw_Wg := tw_Wg_of (i := 78) (by decide +kernel) rfl
theorem tww_79 : (Jvm.Cond.initialized "TwoWayLines$Levels") ∈ tw_Wg := tw_Wg_of (i := 79) (by decide +kernel) rfl
theorem tww_80 : (Jvm.Cond.initialized "TwoWayLines$Matches") ∈ tw_Wg := tw_Wg_of (i := 80) (by decide +kernel) rfl
theorem tww_81 : (Jvm.Cond.initialized "TwoWayLines$Explicit") ∈ tw_Wg := tw_Wg_of (i := 81) (by decide +kernel) rfl
theorem tww_82 : (Jvm.Cond.initialized "TwoWayLines$Sequence") ∈ tw_Wg := tw_Wg_of (i := 82) (by decide +kernel) rfl
theorem tww_83 : (Jvm.Cond.initialized "TwoWayLines$Brackets") ∈ tw_Wg := tw_Wg_of (i := 83) (by decide +kernel) rfl
theorem tww_84 : (Jvm.Cond.initialized "TwoWayLines$Filling") ∈ tw_Wg := tw_Wg_of (i := 84) (by decide +kernel) rfl
theorem tww_85 : (Jvm.Cond.initialized "TwoWayLines$Showing") ∈ tw_Wg := tw_Wg_of (i := 85) (by decide +kernel) rfl
theorem tww_86 : (Jvm.Cond.initialized "TwoWayLinesModel") ∈ tw_Wg := tw_Wg_of (i := 86) (by decide +kernel) rfl
theorem tww_87 : (Jvm.Cond.initialized "java/lang/Math") ∈ tw_Wg := tw_Wg_of (i := 87) (by decide +kernel) rfl
theorem tww_102 : (Jvm.Cond.fieldLink "TwoWayLines$Paragraph" (9 : Nat) "TwoWayLines$Paragraph" "kinds" "[I") ∈ tw_Wg := tw_Wg_of (i := 102) (by decide +kernel) rfl
theorem tww_103 : (Jvm.Cond.fieldLink "TwoWayLines$Matches" (24 : Nat) "TwoWayLines$Paragraph" "kinds" "[I") ∈ tw_Wg := tw_Wg_of (i := 103) (by decide +kernel) rfl
theorem tww_104 : (Jvm.Cond.fieldLink "TwoWayLines$Explicit" (50 : Nat) "TwoWayLines$Paragraph" "kinds" "[I") ∈ tw_Wg := tw_Wg_of (i := 104) (by decide +kernel) rfl
theorem tww_105 : (Jvm.Cond.fieldLink "TwoWayLines$Showing" (35 : Nat) "TwoWayLines$Paragraph" "kinds" "[I") ∈ tw_Wg := tw_Wg_of (i := 105) (by decide +kernel) rfl
theorem tww_106 : (Jvm.Cond.fieldLink "TwoWayLines$Levels" (97 : Nat) "TwoWayLines$Paragraph" "kinds" "[I") ∈ tw_Wg := tw_Wg_of (i := 106) (by decide +kernel) rfl
theorem tww_107 : (Jvm.Cond.fieldLink "TwoWayLines$Filling" (48 : Nat) "TwoWayLines$Paragraph" "kinds" "[I") ∈ tw_Wg := tw_Wg_of (i := 107) (by decide +kernel) rfl
theorem tww_108 : (Jvm.Cond.fieldLink "TwoWayLines$Paragraph" (15 : Nat) "TwoWayLines$Paragraph" "groups" "[I") ∈ tw_Wg := tw_Wg_of (i := 108) (by decide +kernel) rfl
theorem tww_109 : (Jvm.Cond.fieldLink "TwoWayLines$Filling" (51 : Nat) "TwoWayLines$Paragraph" "groups" "[I") ∈ tw_Wg := tw_Wg_of (i := 109) (by decide +kernel) rfl
theorem tww_110 : (Jvm.Cond.fieldLink "TwoWayLines$Paragraph" (18 : Nat) "TwoWayLines$Paragraph" "widths" "[I") ∈ tw_Wg := tw_Wg_of (i := 110) (by decide +kernel) rfl
theorem tww_111 : (Jvm.Cond.fieldLink "TwoWayLines$Filling" (56 : Nat) "TwoWayLines$Paragraph" "widths" "[I") ∈ tw_Wg := tw_Wg_of (i := 111) (by decide +kernel) rfl
theorem tww_112 : (Jvm.Cond.fieldLink "TwoWayLines$Paragraph" (21 : Nat) "TwoWayLines$Paragraph" "pairs" "[I") ∈ tw_Wg := tw_Wg_of (i := 112) (by decide +kernel) rfl
theorem tww_113 : (Jvm.Cond.fieldLink "TwoWayLines$Brackets" (32 : Nat) "TwoWayLines$Paragraph" "pairs" "[I") ∈ tw_Wg := tw_Wg_of (i := 113) (by decide +kernel) rfl
theorem tww_114 : (Jvm.Cond.fieldLink "TwoWayLines" (107 : Nat) "TwoWayLines$Paragraph" "pairs" "[I") ∈ tw_Wg := tw_Wg_of (i := 114) (by decide +kernel) rfl
theorem tww_115 : (Jvm.Cond.fieldLink "TwoWayLines$Paragraph" (24 : Nat) "TwoWayLines$Paragraph" "size" "I") ∈ tw_Wg := tw_Wg_of (i := 115) (by decide +kernel) rfl
theorem tww_116 : (Jvm.Cond.fieldLink "TwoWayLines$Matches" (18 : Nat) "TwoWayLines$Paragraph" "size" "I") ∈ tw_Wg := tw_Wg_of (i := 116) (by decide +kernel) rfl
theorem tww_117 : (Jvm.Cond.fieldLink "TwoWayLines$Explicit" (45 : Nat) "TwoWayLines$Paragraph" "size" "I") ∈ tw_Wg := tw_Wg_of (i := 117) (by decide +kernel) rfl
theorem tww_118 : (Jvm.Cond.fieldLink "TwoWayLines$Levels" (62 : Nat) "TwoWayLines$Paragraph" "size" "I") ∈ tw_Wg := tw_Wg_of (i := 118) (by decide +kernel) rfl
theorem tww_119 : (Jvm.Cond.fieldLink "TwoWayLines" (53 : Nat) "TwoWayLines$Paragraph" "size" "I") ∈ tw_Wg := tw_Wg_of (i := 119) (by decide +kernel) rfl
theorem tww_120 : (Jvm.Cond.fieldLink "TwoWayLines$Filling" (36 : Nat) "TwoWayLines$Paragraph" "size" "I") ∈ tw_Wg := tw_Wg_of (i := 120) (by decide +kernel) rfl
theorem tww_122 : (Jvm.Cond.fieldLink "TwoWayLines$Levels" (57 : Nat) "TwoWayLines$Paragraph" "base" "I") ∈ tw_Wg := tw_Wg_of (i := 122) (by decide +kernel) rfl
theorem tww_123 : (Jvm.Cond.fieldLink "TwoWayLines" (56 : Nat) "TwoWayLines$Paragraph" "base" "I") ∈ tw_Wg := tw_Wg_of (i := 123) (by decide +kernel) rfl
theorem tww_150 : (Jvm.Cond.fieldLink "TwoWayLines$Matches" (9 : Nat) "TwoWayLines$Matches" "others" "[I") ∈ tw_Wg := tw_Wg_of (i := 150) (by decide +kernel) rfl
theorem tww_151 : (Jvm.Cond.fieldLink "TwoWayLines$Levels" (104 : Nat) "TwoWayLines$Matches" "others" "[I") ∈ tw_Wg := tw_Wg_of (i := 151) (by decide +kernel) rfl
theorem tww_152 : (Jvm.Cond.fieldLink "TwoWayLines$Explicit" (81 : Nat) "TwoWayLines$Matches" "others" "[I") ∈ tw_Wg := tw_Wg_of (i := 152) (by decide +kernel) rfl
theorem tww_153 : (Jvm.Cond.fieldLink "TwoWayLines" (73 : Nat) "TwoWayLines$Matches" "others" "[I") ∈ tw_Wg := tw_Wg_of (i := 153) (by decide +kernel) rfl
theorem tww_154 : (Jvm.Cond.fieldLink "TwoWayLines$Matches" (15 : Nat) "TwoWayLines$Matches" "waiting" "[I") ∈ tw_Wg := tw_Wg_of (i := 154) (by decide +kernel) rfl
theorem tww_166 : (Jvm.Cond.fieldLink "TwoWayLines$Explicit" (9 : Nat) "TwoWayLines$Explicit" "levels" "[I") ∈ tw_Wg := tw_Wg_of (i := 166) (by decide +kernel) rfl
theorem tww_167 : (Jvm.Cond.fieldLink "TwoWayLines$Levels" (111 : Nat) "TwoWayLines$Explicit" "levels" "[I") ∈ tw_Wg := tw_Wg_of (i := 167) (by decide +kernel) rfl
theorem tww_168 : (Jvm.Cond.fieldLink "TwoWayLines$Explicit" (15 : Nat) "TwoWayLines$Explicit" "types" "[I") ∈ tw_Wg := tw_Wg_of (i := 168) (by decide +kernel) rfl
theorem tww_169 : (Jvm.Cond.fieldLink "TwoWayLines$Levels" (123 : Nat) "TwoWayLines$Explicit" "types" "[I") ∈ tw_Wg := tw_Wg_of (i := 169) (by decide +kernel) rfl
theorem tww_170 : (Jvm.Cond.fieldLink "TwoWayLines$Explicit" (18 : Nat) "TwoWayLines$Explicit" "entryLevels" "[I") ∈ tw_Wg := tw_Wg_of (i := 170) (by decide +kernel) rfl
theorem tww_171 : (Jvm.Cond.fieldLink "TwoWayLines$Explicit" (21 : Nat) "TwoWayLines$Explicit" "entryOverrides" "[I") ∈ tw_Wg := tw_Wg_of (i := 171) (by decide +kernel) rfl
theorem tww_172 : (Jvm.Cond.fieldLink "TwoWayLines$Explicit" (24 : Nat) "TwoWayLines$Explicit" "entryIsolates" "[Z") ∈ tw_Wg := tw_Wg_of (i := 172) (by decide +kernel) rfl
theorem tww_173 : (Jvm.Cond.fieldLink "TwoWayLines$Explicit" (28 : Nat) "TwoWayLines$Explicit" "last" "I") ∈ tw_Wg := tw_Wg_of (i := 173) (by decide +kernel) rfl
theorem tww_174 : (Jvm.Cond.fieldLink "TwoWayLines$Explicit" (32 : Nat) "TwoWayLines$Explicit" "lostIsolates" "I") ∈ tw_Wg := tw_Wg_of (i := 174) (by decide +kernel) rfl
theorem tww_175 : (Jvm.Cond.fieldLink "TwoWayLines$Explicit" (35 : Nat) "TwoWayLines$Explicit" "lostEmbeddings" "I") ∈ tw_Wg := tw_Wg_of (i := 175) (by decide +kernel) rfl
theorem tww_176 : (Jvm.Cond.fieldLink "TwoWayLines$Explicit" (38 : Nat) "TwoWayLines$Explicit" "openIsolates" "I") ∈ tw_Wg := tw_Wg_of (i := 176) (by decide +kernel) rfl
theorem tww_203 : (Jvm.Cond.fieldLink "TwoWayLines$Sequence" (9 : Nat) "TwoWayLines$Sequence" "places" "[I") ∈ tw_Wg := tw_Wg_of (i := 203) (by decide +kernel) rfl
theorem tww_204 : (Jvm.Cond.fieldLink "TwoWayLines$Brackets" (37 : Nat) "TwoWayLines$Sequence" "places" "[I") ∈ tw_Wg := tw_Wg_of (i := 204) (by decide +kernel) rfl
theorem tww_205 : (Jvm.Cond.fieldLink "TwoWayLines$Levels" (128 : Nat) "TwoWayLines$Sequence" "places" "[I") ∈ tw_Wg := tw_Wg_of (i := 205) (by decide +kernel) rfl
theorem tww_206 : (Jvm.Cond.fieldLink "TwoWayLines$Sequence" (15 : Nat) "TwoWayLines$Sequence" "types" "[I") ∈ tw_Wg := tw_Wg_of (i := 206) (by decide +kernel) rfl
theorem tww_207 : (Jvm.Cond.fieldLink "TwoWayLines$Brackets" (40 : Nat) "TwoWayLines$Sequence" "types" "[I") ∈ tw_Wg := tw_Wg_of (i := 207) (by decide +kernel) rfl
theorem tww_208 : (Jvm.Cond.fieldLink "TwoWayLines$Levels" (156 : Nat) "TwoWayLines$Sequence" "types" "[I") ∈ tw_Wg := tw_Wg_of (i := 208) (by decide +kernel) rfl
theorem tww_209 : (Jvm.Cond.fieldLink "TwoWayLines$Sequence" (18 : Nat) "TwoWayLines$Sequence" "marks" "[Z") ∈ tw_Wg := tw_Wg_of (i := 209) (by decide +kernel) rfl
theorem tww_210 : (Jvm.Cond.fieldLink "TwoWayLines$Brackets" (68 : Nat) "TwoWayLines$Sequence" "marks" "[Z") ∈ tw_Wg := tw_Wg_of (i := 210) (by decide +kernel) rfl
theorem tww_211 : (Jvm.Cond.fieldLink "TwoWayLines$Sequence" (22 : Nat) "TwoWayLines$Sequence" "count" "I") ∈ tw_Wg := tw_Wg_of (i := 211) (by decide +kernel) rfl
theorem tww_212 : (Jvm.Cond.fieldLink "TwoWayLines$Brackets" (22 : Nat) "TwoWayLines$Sequence" "count" "I") ∈ tw_Wg := tw_Wg_of (i := 212) (by decide +kernel) rfl
theorem tww_213 : (Jvm.Cond.fieldLink "TwoWayLines$Levels" (114 : Nat) "TwoWayLines$Sequence" "count" "I") ∈ tw_Wg := tw_Wg_of (i := 213) (by decide +kernel) rfl
theorem tww_214 : (Jvm.Cond.fieldLink "TwoWayLines$Sequence" (26 : Nat) "TwoWayLines$Sequence" "embedding" "I") ∈ tw_Wg := tw_Wg_of (i := 214) (by decide +kernel) rfl
theorem tww_215 : (Jvm.Cond.fieldLink "TwoWayLines$Brackets" (51 : Nat) "TwoWayLines$Sequence" "embedding" "I") ∈ tw_Wg := tw_Wg_of (i := 215) (by decide +kernel) rfl
theorem tww_216 : (Jvm.Cond.fieldLink "TwoWayLines$Levels" (138 : Nat) "TwoWayLines$Sequence" "embedding" "I") ∈ tw_Wg := tw_Wg_of (i := 216) (by decide +kernel) rfl
theorem tww_217 : (Jvm.Cond.fieldLink "TwoWayLines$Sequence" (29 : Nat) "TwoWayLines$Sequence" "beginning" "I") ∈ tw_Wg := tw_Wg_of (i := 217) (by decide +kernel) rfl
theorem tww_218 : (Jvm.Cond.fieldLink "TwoWayLines$Brackets" (65 : Nat) "TwoWayLines$Sequence" "beginning" "I") ∈ tw_Wg := tw_Wg_of (i := 218) (by decide +kernel) rfl
theorem tww_219 : (Jvm.Cond.fieldLink "TwoWayLines$Levels" (150 : Nat) "TwoWayLines$Sequence" "beginning" "I") ∈ tw_Wg := tw_Wg_of (i := 219) (by decide +kernel) rfl
theorem tww_220 : (Jvm.Cond.fieldLink "TwoWayLines$Sequence" (32 : Nat) "TwoWayLines$Sequence" "end" "I") ∈ tw_Wg := tw_Wg_of (i := 220) (by decide +kernel) rfl
theorem tww_221 : (Jvm.Cond.fieldLink "TwoWayLines$Levels" (153 : Nat) "TwoWayLines$Sequence" "end" "I") ∈ tw_Wg := tw_Wg_of (i := 221) (by decide +kernel) rfl
theorem tww_243 : (Jvm.Cond.fieldLink "TwoWayLines$Brackets" (9 : Nat) "TwoWayLines$Brackets" "partners" "[I") ∈ tw_Wg := tw_Wg_of (i := 243) (by decide +kernel) rfl
theorem tww_244 : (Jvm.Cond.fieldLink "TwoWayLines$Levels" (157 : Nat) "TwoWayLines$Brackets" "partners" "[I") ∈ tw_Wg := tw_Wg_of (i := 244) (by decide +kernel) rfl
theorem tww_245 : (Jvm.Cond.fieldLink "TwoWayLines$Brackets" (15 : Nat) "TwoWayLines$Brackets" "list" "[I") ∈ tw_Wg := tw_Wg_of (i := 245) (by decide +kernel) rfl
theorem tww_251 : (Jvm.Cond.fieldLink "TwoWayLines$Levels" (12 : Nat) "TwoWayLines$Levels" "matches" "LTwoWayLines$Matches;") ∈ tw_Wg := tw_Wg_of (i := 251) (by decide +kernel) rfl
theorem tww_252 : (Jvm.Cond.fieldLink "TwoWayLines" (69 : Nat) "TwoWayLines$Levels" "matches" "LTwoWayLines$Matches;") ∈ tw_Wg := tw_Wg_of (i := 252) (by decide +kernel) rfl
theorem tww_253 : (Jvm.Cond.fieldLink "TwoWayLines$Levels" (18 : Nat) "TwoWayLines$Levels" "types" "[I") ∈ tw_Wg := tw_Wg_of (i := 253) (by decide +kernel) rfl
theorem tww_254 : (Jvm.Cond.fieldLink "TwoWayLines" (82 : Nat) "TwoWayLines$Levels" "types" "[I") ∈ tw_Wg := tw_Wg_of (i := 254) (by decide +kernel) rfl
theorem tww_255 : (Jvm.Cond.fieldLink "TwoWayLines$Levels" (22 : Nat) "TwoWayLines$Levels" "partners" "[I") ∈ tw_Wg := tw_Wg_of (i := 255) (by decide +kernel) rfl
theorem tww_256 : (Jvm.Cond.fieldLink "TwoWayLines" (79 : Nat) "TwoWayLines$Levels" "partners" "[I") ∈ tw_Wg := tw_Wg_of (i := 256) (by decide +kernel) rfl
theorem tww_257 : (Jvm.Cond.fieldLink "TwoWayLines$Levels" (25 : Nat) "TwoWayLines$Levels" "resolved" "[I") ∈ tw_Wg := tw_Wg_of (i := 257) (by decide +kernel) rfl
theorem tww_258 : (Jvm.Cond.fieldLink "TwoWayLines$Showing" (52 : Nat) "TwoWayLines$Levels" "resolved" "[I") ∈ tw_Wg := tw_Wg_of (i := 258) (by decide +kernel) rfl
theorem tww_259 : (Jvm.Cond.fieldLink "TwoWayLines" (85 : Nat) "TwoWayLines$Levels" "resolved" "[I") ∈ tw_Wg := tw_Wg_of (i := 259) (by decide +kernel) rfl
theorem tww_260 : (Jvm.Cond.fieldLink "TwoWayLines$Levels" (28 : Nat) "TwoWayLines$Levels" "ofParagraph" "I") ∈ tw_Wg := tw_Wg_of (i := 260) (by decide +kernel) rfl
theorem tww_261 : (Jvm.Cond.fieldLink "TwoWayLines$Showing" (47 : Nat) "TwoWayLines$Levels" "ofParagraph" "I") ∈ tw_Wg := tw_Wg_of (i := 261) (by decide +kernel) rfl
theorem tww_262 : (Jvm.Cond.fieldLink "TwoWayLines" (62 : Nat) "TwoWayLines$Levels" "ofParagraph" "I") ∈ tw_Wg := tw_Wg_of (i := 262) (by decide +kernel) rfl
theorem tww_263 : (Jvm.Cond.fieldLink "TwoWayLines$Levels" (35 : Nat) "TwoWayLines$Levels" "explicit" "LTwoWayLines$Explicit;") ∈ tw_Wg := tw_Wg_of (i := 263) (by decide +kernel) rfl
theorem tww_264 : (Jvm.Cond.fieldLink "TwoWayLines$Levels" (42 : Nat) "TwoWayLines$Levels" "sequence" "LTwoWayLines$Sequence;") ∈ tw_Wg := tw_Wg_of (i := 264) (by decide +kernel) rfl
theorem tww_265 : (Jvm.Cond.fieldLink "TwoWayLines$Levels" (49 : Nat) "TwoWayLines$Levels" "brackets" "LTwoWayLines$Brackets;") ∈ tw_Wg := tw_Wg_of (i := 265) (by decide +kernel) rfl
theorem tww_289 : (Jvm.Cond.fieldLink "TwoWayLines$Filling" (9 : Nat) "TwoWayLines$Filling" "breaks" "[Z") ∈ tw_Wg := tw_Wg_of (i := 289) (by decide +kernel) rfl
theorem tww_290 : (Jvm.Cond.fieldLink "TwoWayLines" (88 : Nat) "TwoWayLines$Filling" "breaks" "[Z") ∈ tw_Wg := tw_Wg_of (i := 290) (by decide +kernel) rfl
theorem tww_291 : (Jvm.Cond.fieldLink "TwoWayLines$Filling" (15 : Nat) "TwoWayLines$Filling" "starts" "[I") ∈ tw_Wg := tw_Wg_of (i := 291) (by decide +kernel) rfl
theorem tww_292 : (Jvm.Cond.fieldLink "TwoWayLines$Showing" (24 : Nat) "TwoWayLines$Filling" "starts" "[I") ∈ tw_Wg := tw_Wg_of (i := 292) (by decide +kernel) rfl
theorem tww_293 : (Jvm.Cond.fieldLink "TwoWayLines" (95 : Nat) "TwoWayLines$Filling" "starts" "[I") ∈ tw_Wg := tw_Wg_of (i := 293) (by decide +kernel) rfl
theorem tww_294 : (Jvm.Cond.fieldLink "TwoWayLines$Filling" (19 : Nat) "TwoWayLines$Filling" "extents" "[I") ∈ tw_Wg := tw_Wg_of (i := 294) (by decide +kernel) rfl
theorem tww_295 : (Jvm.Cond.fieldLink "TwoWayLines" (99 : Nat) "TwoWayLines$Filling" "extents" "[I") ∈ tw_Wg := tw_Wg_of (i := 295) (by decide +kernel) rfl
theorem tww_296 : (Jvm.Cond.fieldLink "TwoWayLines$Filling" (22 : Nat) "TwoWayLines$Filling" "count" "I") ∈ tw_Wg := tw_Wg_of (i := 296) (by decide +kernel) rfl
theorem tww_297 : (Jvm.Cond.fieldLink "TwoWayLines$Showing" (18 : Nat) "TwoWayLines$Filling" "count" "I") ∈ tw_Wg := tw_Wg_of (i := 297) (by decide +kernel) rfl
theorem tww_298 : (Jvm.Cond.fieldLink "TwoWayLines" (92 : Nat) "TwoWayLines$Filling" "count" "I") ∈ tw_Wg := tw_Wg_of (i := 298) (by decide +kernel) rfl
theorem tww_299 : (Jvm.Cond.fieldLink "TwoWayLines$Filling" (26 : Nat) "TwoWayLines$Filling" "groups" "[I") ∈ tw_Wg := tw_Wg_of (i := 299) (by decide +kernel) rfl
theorem tww_317 : (Jvm.Cond.fieldLink "TwoWayLines$Showing" (9 : Nat) "TwoWayLines$Showing" "levels" "[I") ∈ tw_Wg := tw_Wg_of (i := 317) (by decide +kernel) rfl
theorem tww_318 : (Jvm.Cond.fieldLink "TwoWayLines" (102 : Nat) "TwoWayLines$Showing" "levels" "[I") ∈ tw_Wg := tw_Wg_of (i := 318) (by decide +kernel) rfl
theorem tww_319 : (Jvm.Cond.fieldLink "TwoWayLines$Showing" (15 : Nat) "TwoWayLines$Showing" "order" "[I") ∈ tw_Wg := tw_Wg_of (i := 319) (by decide +kernel) rfl
theorem tww_320 : (Jvm.Cond.fieldLink "TwoWayLines" (104 : Nat) "TwoWayLines$Showing" "order" "[I") ∈ tw_Wg := tw_Wg_of (i := 320) (by decide +kernel) rfl
theorem tww_326 : (Jvm.Cond.fieldLink "TwoWayLines" (10 : Nat) "TwoWayLines" "paragraph" "LTwoWayLines$Paragraph;") ∈ tw_Wg := tw_Wg_of (i := 326) (by decide +kernel) rfl
theorem tww_327 : (Jvm.Cond.fieldLink "TwoWayLines" (19 : Nat) "TwoWayLines" "levels" "LTwoWayLines$Levels;") ∈ tw_Wg := tw_Wg_of (i := 327) (by decide +kernel) rfl
theorem tww_328 : (Jvm.Cond.fieldLink "TwoWayLines" (26 : Nat) "TwoWayLines" "filling" "LTwoWayLines$Filling;") ∈ tw_Wg := tw_Wg_of (i := 328) (by decide +kernel) rfl
theorem tww_329 : (Jvm.Cond.fieldLink "TwoWayLines" (33 : Nat) "TwoWayLines" "showing" "LTwoWayLines$Showing;") ∈ tw_Wg := tw_Wg_of (i := 329) (by decide +kernel) rfl
theorem tww_330 : (Jvm.Cond.fieldLink "TwoWayLines" (37 : Nat) "TwoWayLines" "measure" "I") ∈ tw_Wg := tw_Wg_of (i := 330) (by decide +kernel) rfl
theorem tww_331 : (Jvm.Cond.fieldLink "TwoWayLines" (41 : Nat) "TwoWayLines" "stale" "Z") ∈ tw_Wg := tw_Wg_of (i := 331) (by decide +kernel) rfl
theorem tww_349 : (Jvm.Cond.methodLink "TwoWayLines" (45 : Nat) ({ cls := "TwoWayLines", name := "within", desc := "(III)Z" } : Jvm.MethodName)) ∈ tw_Wg := tw_Wg_of (i := 349) (by decide +kernel) rfl
theorem tww_350 : (Jvm.Cond.static ({ cls := "TwoWayLines", name := "within", desc := "(III)Z" } : Jvm.MethodName)) ∈ tw_Wg := tw_Wg_of (i := 350) (by decide +kernel) rfl
theorem tww_351 : (Jvm.Cond.code ({ cls := "TwoWayLines", name := "within", desc := "(III)Z" } : Jvm.MethodName) prog_1_method_21_code (3 : Nat) (Option.some Jvm.ClassFile.FieldType.boolean)) ∈ tw_Wg := tw_Wg_of (i := 351) (by decide +kernel) rfl
theorem tww_352 : (Jvm.Cond.methodLink "TwoWayLines" (49 : Nat) ({ cls := "TwoWayLines$Paragraph", name := "append", desc := "(IIII)Z" } : Jvm.MethodName)) ∈ tw_Wg := tw_Wg_of (i := 352) (by decide +kernel) rfl
theorem tww_353 : (Jvm.Cond.instanceMethod ({ cls := "TwoWayLines$Paragraph", name := "append", desc := "(IIII)Z" } : Jvm.MethodName)) ∈ tw_Wg := tw_Wg_of (i := 353) (by decide +kernel) rfl
theorem tww_354 : (Jvm.Cond.selects "TwoWayLines$Paragraph" ({ cls := "TwoWayLines$Paragraph", name := "append", desc := "(IIII)Z" } : Jvm.MethodName) ({ cls := "TwoWayLines$Paragraph", name := "append", desc := "(IIII)Z" } : Jvm.MethodName)) ∈ tw_Wg := tw_Wg_of (i := 354) (by decide +kernel) rfl
theorem tww_355 : (Jvm.Cond.code ({ cls := "TwoWayLines$Paragraph", name := "append", desc := "(IIII)Z" } : Jvm.MethodName) prog_7_method_2_code (5 : Nat) (Option.some Jvm.ClassFile.FieldType.boolean)) ∈ tw_Wg := tw_Wg_of (i := 355) (by decide +kernel) rfl
theorem tww_380 : (Jvm.Cond.methodLink "TwoWayLines" (59 : Nat) ({ cls := "TwoWayLines", name := "layOut", desc := "()V" } : Jvm.MethodName)) ∈ tw_Wg := tw_Wg_of (i := 380) (by decide +kernel) rfl
theorem tww_382 : (Jvm.Cond.instanceMethod ({ cls := "TwoWayLines", name := "layOut", desc := "()V" } : Jvm.MethodName)) ∈ tw_Wg := tw_Wg_of (i := 382) (by decide +kernel) rfl
theorem tww_383 : (Jvm.Cond.code ({ cls := "TwoWayLines", name := "layOut", desc := "()V" } : Jvm.MethodName) prog_1_method_20_code (1 : Nat) (Option.none : Option Jvm.ClassFile.FieldType)) ∈ tw_Wg := tw_Wg_of (i := 383) (by decide +kernel) rfl
theorem tww_384 : (Jvm.Cond.methodLink "TwoWayLines" (113 : Nat) ({ cls := "TwoWayLines$Levels", name := "readMarks", desc := "(LTwoWayLines$Paragraph;)V" } : Jvm.MethodName)) ∈ tw_Wg := tw_Wg_of (i := 384) (by decide +kernel) rfl
theorem tww_385 : (Jvm.Cond.instanceMethod ({ cls := "TwoWayLines$Levels", name := "readMarks", desc := "(LTwoWayLines$Paragraph;)V" } : Jvm.MethodName)) ∈ tw_Wg := tw_Wg_of (i := 385) (by decide +kernel) rfl
theorem tww_386 : (Jvm.Cond.selects "TwoWayLines$Levels" ({ cls := "TwoWayLines$Levels", name := "readMarks", desc := "(LTwoWayLines$Paragraph;)V" } : Jvm.MethodName) ({ cls := "TwoWayLines$Levels", name := "readMarks", desc := "(LTwoWayLines$Paragraph;)V" } : Jvm.MethodName)) ∈ tw_Wg := tw_Wg_of (i := 386) (by decide +kernel) rfl
theorem tww_387 : (Jvm.Cond.code ({ cls := "TwoWayLines$Levels", name := "readMarks", desc := "(LTwoWayLines$Paragraph;)V" } : Jvm.MethodName) prog_5_method_2_code (2 : Nat) (Option.none : Option Jvm.ClassFile.FieldType)) ∈ tw_Wg := tw_Wg_of (i := 387) (by decide +kernel) rfl
theorem tww_388 : (Jvm.Cond.methodLink "TwoWayLines$Levels" (53 : Nat) ({ cls := "TwoWayLines$Matches", name := "find", desc := "(LTwoWayLines$Paragraph;)V" } : Jvm.MethodName)) ∈ tw_Wg := tw_Wg_of (i := 388) (by decide +kernel) rfl
theorem tww_389 : (Jvm.Cond.instanceMethod ({ cls := "TwoWayLines$Matches", name := "find", desc := "(LTwoWayLines$Paragraph;)V" } : Jvm.MethodName)) ∈ tw_Wg := tw_Wg_of (i := 389) (by decide +kernel) rfl
theorem tww_390 : (Jvm.Cond.selects "TwoWayLines$Matches" ({ cls := "TwoWayLines$Matches", name := "find", desc := "(LTwoWayLines$Paragraph;)V" } : Jvm.MethodName) ({ cls := "TwoWayLines$Matches", name := "find", desc := "(LTwoWayLines$Paragraph;)V" } : Jvm.MethodName)) ∈ tw_Wg := tw_Wg_of (i := 390) (by decide +kernel) rfl
theorem tww_391 : (Jvm.Cond.code ({ cls := "TwoWayLines$Matches", name := "find", desc := "(LTwoWayLines$Paragraph;)V" } : Jvm.MethodName) prog_6_method_2_code (6 : Nat) (Option.none : Option Jvm.ClassFile.FieldType)) ∈ tw_Wg := tw_Wg_of (i := 391) (by decide +kernel) rfl
theorem tww_393 : (Jvm.Cond.static ({ cls := "TwoWayLines", name := "isOpener", desc := "(I)Z" } : Jvm.MethodName)) ∈ tw_Wg := tw_Wg_of (i := 393) (by decide +kernel) rfl
theorem tww_394 : (Jvm.Cond.code ({ cls := "TwoWayLines", name := "isOpener", desc := "(I)Z" } : Jvm.MethodName) prog_1_method_24_code (1 : Nat) (Option.some Jvm.ClassFile.FieldType.boolean)) ∈ tw_Wg := tw_Wg_of (i := 394) (by decide +kernel) rfl
theorem tww_395 : (Jvm.Cond.methodLink "TwoWayLines$Levels" (65 : Nat) ({ cls := "TwoWayLines$Matches", name := "direction", desc := "(LTwoWayLines$Paragraph;II)I" } : Jvm.MethodName)) ∈ tw_Wg := tw_Wg_of (i := 395) (by decide +kernel) rfl
theorem tww_396 : (Jvm.Cond.instanceMethod ({ cls := "TwoWayLines$Matches", name := "direction", desc := "(LTwoWayLines$Paragraph;II)I" } : Jvm.MethodName)) ∈ tw_Wg := tw_Wg_of (i := 396) (by decide +kernel) rfl
theorem tww_397 : (Jvm.Cond.selects "TwoWayLines$Matches" ({ cls := "TwoWayLines$Matches", name := "direction", desc := "(LTwoWayLines$Paragraph;II)I" } : Jvm.MethodName) ({ cls := "TwoWayLines$Matches", name := "direction", desc := "(LTwoWayLines$Paragraph;II)I" } : Jvm.MethodName)) ∈ tw_Wg := tw_Wg_of (i := 397) (by decide +kernel) rfl
theorem tww_398 : (Jvm.Cond.code ({ cls := "TwoWayLines$Matches", name := "direction", desc := "(LTwoWayLines$Paragraph;II)I" } : Jvm.MethodName) prog_6_method_3_code (7 : Nat) (Option.some Jvm.ClassFile.FieldType.int)) ∈ tw_Wg := tw_Wg_of (i := 398) (by decide +kernel) rfl
theorem tww_399 : (Jvm.Cond.methodLink "TwoWayLines$Levels" (69 : Nat) ({ cls := "TwoWayLines$Explicit", name := "assign", desc := "(LTwoWayLines$Paragraph;LTwoWayLines$Matches;I)V" } : Jvm.MethodName)) ∈ tw_Wg := tw_Wg_of (i := 399) (by decide +kernel) rfl
theorem tww_400 : (Jvm.Cond.instanceMethod ({ cls := "TwoWayLines$Explicit", name := "assign", desc := "(LTwoWayLines$Paragraph;LTwoWayLines$Matches;I)V" } : Jvm.MethodName)) ∈ tw_Wg := tw_Wg_of (i := 400) (by decide +kernel) rfl
theorem tww_401 : (Jvm.Cond.selects "TwoWayLines$Explicit" ({ cls := "TwoWayLines$Explicit", name := "assign", desc := "(LTwoWayLines$Paragraph;LTwoWayLines$Matches;I)V" } : Jvm.MethodName) ({ cls := "TwoWayLines$Explicit", name := "assign", desc := "(LTwoWayLines$Paragraph;LTwoWayLines$Matches;I)V" } : Jvm.MethodName)) ∈ tw_Wg := tw_Wg_of (i := 401) (by decide +kernel) rfl
theorem tww_402 : (Jvm.Cond.code ({ cls := "TwoWayLines$Explicit", name := "assign", desc := "(LTwoWayLines$Paragraph;LTwoWayLines$Matches;I)V" } : Jvm.MethodName) prog_3_method_2_code (6 : Nat) (Option.none : Option Jvm.ClassFile.FieldType)) ∈ tw_Wg := tw_Wg_of (i := 402) (by decide +kernel) rfl
theorem tww_403 : (Jvm.Cond.methodLink "TwoWayLines$Explicit" (41 : Nat) ({ cls := "TwoWayLines$Explicit", name := "begin", desc := "(I)V" } : Jvm.MethodName)) ∈ tw_Wg := tw_Wg_of (i := 403) (by decide +kernel) rfl
theorem tww_405 : (Jvm.Cond.instanceMethod ({ cls := "TwoWayLines$Explicit", name := "begin", desc := "(I)V" } : Jvm.MethodName)) ∈ tw_Wg := tw_Wg_of (i := 405) (by decide +kernel) rfl
theorem tww_406 : (Jvm.Cond.code ({ cls := "TwoWayLines$Explicit", name := "begin", desc := "(I)V" } : Jvm.MethodName) prog_3_method_3_code (2 : Nat) (Option.none : Option Jvm.ClassFile.FieldType)) ∈ tw_Wg := tw_Wg_of (i := 406) (by decide +kernel) rfl
theorem tww_407 : (Jvm.Cond.methodLink "TwoWayLines$Explicit" (53 : Nat) ({ cls := "TwoWayLines$Explicit", name := "endIsolate", desc := "()V" } : Jvm.MethodName)) ∈ tw_Wg := tw_Wg_of (i := 407) (by decide +kernel) rfl
theorem tww_409 : (Jvm.Cond.instanceMethod ({ cls := "TwoWayLines$Explicit", name := "endIsolate", desc := "()V" } : Jvm.MethodName)) ∈ tw_Wg := tw_Wg_of (i := 409) (by decide +kernel) rfl
theorem tww_410 : (Jvm.Cond.code ({ cls := "TwoWayLines$Explicit", name := "endIsolate", desc := "()V" } : Jvm.MethodName) prog_3_method_13_code (2 : Nat) (Option.none : Option Jvm.ClassFile.FieldType)) ∈ tw_Wg := tw_Wg_of (i := 410) (by decide +kernel) rfl
theorem tww_411 : (Jvm.Cond.methodLink "TwoWayLines$Explicit" (56 : Nat) ({ cls := "TwoWayLines$Explicit", name := "endEmbedding", desc := "()V" } : Jvm.MethodName)) ∈ tw_Wg := tw_Wg_of (i := 411) (by decide +kernel) rfl
theorem tww_413 : (Jvm.Cond.instanceMethod ({ cls := "TwoWayLines$Explicit", name := "endEmbedding", desc := "()V" } : Jvm.MethodName)) ∈ tw_Wg := tw_Wg_of (i := 413) (by decide +kernel) rfl
theorem tww_414 : (Jvm.Cond.code ({ cls := "TwoWayLines$Explicit", name := "endEmbedding", desc := "()V" } : Jvm.MethodName) prog_3_method_11_code (1 : Nat) (Option.none : Option Jvm.ClassFile.FieldType)) ∈ tw_Wg := tw_Wg_of (i := 414) (by decide +kernel) rfl
theorem tww_416 : (Jvm.Cond.static ({ cls := "TwoWayLines", name := "isHidden", desc := "(I)Z" } : Jvm.MethodName)) ∈ tw_Wg := tw_Wg_of (i := 416) (by decide +kernel) rfl
theorem tww_417 : (Jvm.Cond.code ({ cls := "TwoWayLines", name := "isHidden", desc := "(I)Z" } : Jvm.MethodName) prog_1_method_23_code (1 : Nat) (Option.some Jvm.ClassFile.FieldType.boolean)) ∈ tw_Wg := tw_Wg_of (i := 417) (by decide +kernel) rfl
theorem tww_418 : (Jvm.Cond.methodLink "TwoWayLines$Explicit" (63 : Nat) ({ cls := "TwoWayLines$Explicit", name := "beginEmbedding", desc := "(I)V" } : Jvm.MethodName)) ∈ tw_Wg := tw_Wg_of (i := 418) (by decide +kernel) rfl
theorem tww_420 : (Jvm.Cond.instanceMethod ({ cls := "TwoWayLines$Explicit", name := "beginEmbedding", desc := "(I)V" } : Jvm.MethodName)) ∈ tw_Wg := tw_Wg_of (i := 420) (by decide +kernel) rfl
theorem tww_421 : (Jvm.Cond.code ({ cls := "TwoWayLines$Explicit", name := "beginEmbedding", desc := "(I)V" } : Jvm.MethodName) prog_3_method_9_code (3 : Nat) (Option.none : Option Jvm.ClassFile.FieldType)) ∈ tw_Wg := tw_Wg_of (i := 421) (by decide +kernel) rfl
theorem tww_422 : (Jvm.Cond.methodLink "TwoWayLines$Explicit" (93 : Nat) ({ cls := "TwoWayLines$Explicit", name := "nextLevel", desc := "(Z)I" } : Jvm.MethodName)) ∈ tw_Wg := tw_Wg_of (i := 422) (by decide +kernel) rfl
theorem tww_424 : (Jvm.Cond.instanceMethod ({ cls := "TwoWayLines$Explicit", name := "nextLevel", desc := "(Z)I" } : Jvm.MethodName)) ∈ tw_Wg := tw_Wg_of (i := 424) (by decide +kernel) rfl
theorem tww_425 : (Jvm.Cond.code ({ cls := "TwoWayLines$Explicit", name := "nextLevel", desc := "(Z)I" } : Jvm.MethodName) prog_3_method_6_code (3 : Nat) (Option.some Jvm.ClassFile.FieldType.int)) ∈ tw_Wg := tw_Wg_of (i := 425) (by decide +kernel) rfl
theorem tww_427 : (Jvm.Cond.static ({ cls := "TwoWayLines", name := "isOdd", desc := "(I)Z" } : Jvm.MethodName)) ∈ tw_Wg := tw_Wg_of (i := 427) (by decide +kernel) rfl
theorem tww_428 : (Jvm.Cond.code ({ cls := "TwoWayLines", name := "isOdd", desc := "(I)Z" } : Jvm.MethodName) prog_1_method_22_code (1 : Nat) (Option.some Jvm.ClassFile.FieldType.boolean)) ∈ tw_Wg := tw_Wg_of (i := 428) (by decide +kernel) rfl
theorem tww_429 : (Jvm.Cond.methodLink "TwoWayLines$Explicit" (97 : Nat) ({ cls := "TwoWayLines$Explicit", name := "fits", desc := "(I)Z" } : Jvm.MethodName)) ∈ tw_Wg := tw_Wg_of (i := 429) (by decide +kernel) rfl
theorem tww_431 : (Jvm.Cond.instanceMethod ({ cls := "TwoWayLines$Explicit", name := "fits", desc := "(I)Z" } : Jvm.MethodName)) ∈ tw_Wg := tw_Wg_of (i := 431) (by decide +kernel) rfl
theorem tww_432 : (Jvm.Cond.code ({ cls := "TwoWayLines$Explicit", name := "fits", desc := "(I)Z" } : Jvm.MethodName) prog_3_method_7_code (2 : Nat) (Option.some Jvm.ClassFile.FieldType.boolean)) ∈ tw_Wg := tw_Wg_of (i := 432) (by decide +kernel) rfl
theorem tww_433 : (Jvm.Cond.methodLink "TwoWayLines$Explicit" (100 : Nat) ({ cls := "TwoWayLines$Explicit", name := "overrideOf", desc := "(I)I" } : Jvm.MethodName)) ∈ tw_Wg := tw_Wg_of (i := 433) (by decide +kernel) rfl
theorem tww_434 : (Jvm.Cond.static ({ cls := "TwoWayLines$Explicit", name := "overrideOf", desc := "(I)I" } : Jvm.MethodName)) ∈ tw_Wg := tw_Wg_of (i := 434) (by decide +kernel) rfl
theorem tww_435 : (Jvm.Cond.code ({ cls := "TwoWayLines$Explicit", name := "overrideOf", desc := "(I)I" } : Jvm.MethodName) prog_3_method_10_code (1 : Nat) (Option.some Jvm.ClassFile.FieldType.int)) ∈ tw_Wg := tw_Wg_of (i := 435) (by decide +kernel) rfl
theorem tww_436 : (Jvm.Cond.methodLink "TwoWayLines$Explicit" (104 : Nat) ({ cls := "TwoWayLines$Explicit", name := "push", desc := "(IIZ)V" } : Jvm.MethodName)) ∈ tw_Wg := tw_Wg_of (i := 436) (by decide +kernel) rfl
theorem tww_438 : (Jvm.Cond.instanceMethod ({ cls := "TwoWayLines$Explicit", name := "push", desc := "(IIZ)V" } : Jvm.MethodName)) ∈ tw_Wg := tw_Wg_of (i := 438) (by decide +kernel) rfl
theorem tww_439 : (Jvm.Cond.code ({ cls := "TwoWayLines$Explicit", name := "push", desc := "(IIZ)V" } : Jvm.MethodName) prog_3_method_8_code (4 : Nat) (Option.none : Option Jvm.ClassFile.FieldType)) ∈ tw_Wg := tw_Wg_of (i := 439) (by decide +kernel) rfl
theorem tww_440 : (Jvm.Cond.methodLink "TwoWayLines$Explicit" (66 : Nat) ({ cls := "TwoWayLines$Explicit", name := "give", desc := "(II)V" } : Jvm.MethodName)) ∈ tw_Wg := tw_Wg_of (i := 440) (by decide +kernel) rfl
theorem tww_442 : (Jvm.Cond.instanceMethod ({ cls := "TwoWayLines$Explicit", name := "give", desc := "(II)V" } : Jvm.MethodName)) ∈ tw_Wg := tw_Wg_of (i := 442) (by decide +kernel) rfl
theorem tww_443 : (Jvm.Cond.code ({ cls := "TwoWayLines$Explicit", name := "give", desc := "(II)V" } : Jvm.MethodName) prog_3_method_4_code (3 : Nat) (Option.none : Option Jvm.ClassFile.FieldType)) ∈ tw_Wg := tw_Wg_of (i := 443) (by decide +kernel) rfl
theorem tww_445 : (Jvm.Cond.methodLink "TwoWayLines$Explicit" (73 : Nat) ({ cls := "TwoWayLines$Explicit", name := "wantsOdd", desc := "(LTwoWayLines$Paragraph;LTwoWayLines$Matches;I)Z" } : Jvm.MethodName)) ∈ tw_Wg := tw_Wg_of (i := 445) (by decide +kernel) rfl
theorem tww_447 : (Jvm.Cond.instanceMethod ({ cls := "TwoWayLines$Explicit", name := "wantsOdd", desc := "(LTwoWayLines$Paragraph;LTwoWayLines$Matches;I)Z" } : Jvm.MethodName)) ∈ tw_Wg := tw_Wg_of (i := 447) (by decide +kernel) rfl
theorem tww_448 : (Jvm.Cond.code ({ cls := "TwoWayLines$Explicit", name := "wantsOdd", desc := "(LTwoWayLines$Paragraph;LTwoWayLines$Matches;I)Z" } : Jvm.MethodName) prog_3_method_5_code (6 : Nat) (Option.some Jvm.ClassFile.FieldType.boolean)) ∈ tw_Wg := tw_Wg_of (i := 448) (by decide +kernel) rfl
theorem tww_449 : (Jvm.Cond.methodLink "TwoWayLines$Explicit" (86 : Nat) ({ cls := "TwoWayLines$Matches", name := "direction", desc := "(LTwoWayLines$Paragraph;II)I" } : Jvm.MethodName)) ∈ tw_Wg := tw_Wg_of (i := 449) (by decide +kernel) rfl
theorem tww_450 : (Jvm.Cond.methodLink "TwoWayLines$Explicit" (77 : Nat) ({ cls := "TwoWayLines$Explicit", name := "beginIsolate", desc := "(Z)V" } : Jvm.MethodName)) ∈ tw_Wg := tw_Wg_of (i := 450) (by decide +kernel) rfl
theorem tww_452 : (Jvm.Cond.instanceMethod ({ cls := "TwoWayLines$Explicit", name := "beginIsolate", desc := "(Z)V" } : Jvm.MethodName)) ∈ tw_Wg := tw_Wg_of (i := 452) (by decide +kernel) rfl
theorem tww_453 : (Jvm.Cond.code ({ cls := "TwoWayLines$Explicit", name := "beginIsolate", desc := "(Z)V" } : Jvm.MethodName) prog_3_method_12_code (3 : Nat) (Option.none : Option Jvm.ClassFile.FieldType)) ∈ tw_Wg := tw_Wg_of (i := 453) (by decide +kernel) rfl
theorem tww_454 : (Jvm.Cond.methodLink "TwoWayLines" (117 : Nat) ({ cls := "TwoWayLines$Levels", name := "resolveSequences", desc := "(LTwoWayLines$Paragraph;)V" } : Jvm.MethodName)) ∈ tw_Wg := tw_Wg_of (i := 454) (by decide +kernel) rfl
theorem tww_455 : (Jvm.Cond.instanceMethod ({ cls := "TwoWayLines$Levels", name := "resolveSequences", desc := "(LTwoWayLines$Paragraph;)V" } : Jvm.MethodName)) ∈ tw_Wg := tw_Wg_of (i := 455) (by decide +kernel) rfl
theorem tww_456 : (Jvm.Cond.selects "TwoWayLines$Levels" ({ cls := "TwoWayLines$Levels", name := "resolveSequences", desc := "(LTwoWayLines$Paragraph;)V" } : Jvm.MethodName) ({ cls := "TwoWayLines$Levels", name := "resolveSequences", desc := "(LTwoWayLines$Paragraph;)V" } : Jvm.MethodName)) ∈ tw_Wg := tw_Wg_of (i := 456) (by decide +kernel) rfl
theorem tww_457 : (Jvm.Cond.code ({ cls := "TwoWayLines$Levels", name := "resolveSequences", desc := "(LTwoWayLines$Paragraph;)V" } : Jvm.MethodName) prog_5_method_3_code (3 : Nat) (Option.none : Option Jvm.ClassFile.FieldType)) ∈ tw_Wg := tw_Wg_of (i := 457) (by decide +kernel) rfl
theorem tww_458 : (Jvm.Cond.methodLink "TwoWayLines$Levels" (73 : Nat) ({ cls := "TwoWayLines$Levels", name := "beginsSequence", desc := "(LTwoWayLines$Paragraph;I)Z" } : Jvm.MethodName)) ∈ tw_Wg := tw_Wg_of (i := 458) (by decide +kernel) rfl
theorem tww_460 : (Jvm.Cond.instanceMethod ({ cls := "TwoWayLines$Levels", name := "beginsSequence", desc := "(LTwoWayLines$Paragraph;I)Z" } : Jvm.MethodName)) ∈ tw_Wg := tw_Wg_of (i := 460) (by decide +kernel) rfl
theorem tww_461 : (Jvm.Cond.code ({ cls := "TwoWayLines$Levels", name := "beginsSequence", desc := "(LTwoWayLines$Paragraph;I)Z" } : Jvm.MethodName) prog_5_method_4_code (5 : Nat) (Option.some Jvm.ClassFile.FieldType.boolean)) ∈ tw_Wg := tw_Wg_of (i := 461) (by decide +kernel) rfl
theorem tww_463 : (Jvm.Cond.methodLink "TwoWayLines$Levels" (107 : Nat) ({ cls := "TwoWayLines$Levels", name := "visibleBefore", desc := "(LTwoWayLines$Paragraph;I)I" } : Jvm.MethodName)) ∈ tw_Wg := tw_Wg_of (i := 463) (by decide +kernel) rfl
theorem tww_465 : (Jvm.Cond.instanceMethod ({ cls := "TwoWayLines$Levels", name := "visibleBefore", desc := "(LTwoWayLines$Paragraph;I)I" } : Jvm.MethodName)) ∈ tw_Wg := tw_Wg_of (i := 465) (by decide +kernel) rfl
theorem tww_466 : (Jvm.Cond.code ({ cls := "TwoWayLines$Levels", name := "visibleBefore", desc := "(LTwoWayLines$Paragraph;I)I" } : Jvm.MethodName) prog_5_method_5_code (4 : Nat) (Option.some Jvm.ClassFile.FieldType.int)) ∈ tw_Wg := tw_Wg_of (i := 466) (by decide +kernel) rfl
theorem tww_467 : (Jvm.Cond.methodLink "TwoWayLines$Levels" (77 : Nat) ({ cls := "TwoWayLines$Levels", name := "gather", desc := "(LTwoWayLines$Paragraph;I)V" } : Jvm.MethodName)) ∈ tw_Wg := tw_Wg_of (i := 467) (by decide +kernel) rfl
theorem tww_469 : (Jvm.Cond.instanceMethod ({ cls := "TwoWayLines$Levels", name := "gather", desc := "(LTwoWayLines$Paragraph;I)V" } : Jvm.MethodName)) ∈ tw_Wg := tw_Wg_of (i := 469) (by decide +kernel) rfl
theorem tww_470 : (Jvm.Cond.code ({ cls := "TwoWayLines$Levels", name := "gather", desc := "(LTwoWayLines$Paragraph;I)V" } : Jvm.MethodName) prog_5_method_7_code (6 : Nat) (Option.none : Option Jvm.ClassFile.FieldType)) ∈ tw_Wg := tw_Wg_of (i := 470) (by decide +kernel) rfl
theorem tww_471 : (Jvm.Cond.methodLink "TwoWayLines$Levels" (117 : Nat) ({ cls := "TwoWayLines$Levels", name := "takeRun", desc := "(LTwoWayLines$Paragraph;I)I" } : Jvm.MethodName)) ∈ tw_Wg := tw_Wg_of (i := 471) (by decide +kernel) rfl
theorem tww_473 : (Jvm.Cond.instanceMethod ({ cls := "TwoWayLines$Levels", name := "takeRun", desc := "(LTwoWayLines$Paragraph;I)I" } : Jvm.MethodName)) ∈ tw_Wg := tw_Wg_of (i := 473) (by decide +kernel) rfl
theorem tww_474 : (Jvm.Cond.code ({ cls := "TwoWayLines$Levels", name := "takeRun", desc := "(LTwoWayLines$Paragraph;I)I" } : Jvm.MethodName) prog_5_method_8_code (5 : Nat) (Option.some Jvm.ClassFile.FieldType.int)) ∈ tw_Wg := tw_Wg_of (i := 474) (by decide +kernel) rfl
theorem tww_475 : (Jvm.Cond.methodLink "TwoWayLines$Levels" (124 : Nat) ({ cls := "TwoWayLines$Sequence", name := "append", desc := "(II)V" } : Jvm.MethodName)) ∈ tw_Wg := tw_Wg_of (i := 475) (by decide +kernel) rfl
theorem tww_476 : (Jvm.Cond.instanceMethod ({ cls := "TwoWayLines$Sequence", name := "append", desc := "(II)V" } : Jvm.MethodName)) ∈ tw_Wg := tw_Wg_of (i := 476) (by decide +kernel) rfl
theorem tww_477 : (Jvm.Cond.selects "TwoWayLines$Sequence" ({ cls := "TwoWayLines$Sequence", name := "append", desc := "(II)V" } : Jvm.MethodName) ({ cls := "TwoWayLines$Sequence", name := "append", desc := "(II)V" } : Jvm.MethodName)) ∈ tw_Wg := tw_Wg_of (i := 477) (by decide +kernel) rfl
theorem tww_478 : (Jvm.Cond.code ({ cls := "TwoWayLines$Sequence", name := "append", desc := "(II)V" } : Jvm.MethodName) prog_8_method_2_code (3 : Nat) (Option.none : Option Jvm.ClassFile.FieldType)) ∈ tw_Wg := tw_Wg_of (i := 478) (by decide +kernel) rfl
theorem tww_480 : (Jvm.Cond.methodLink "TwoWayLines$Levels" (81 : Nat) ({ cls := "TwoWayLines$Levels", name := "setSides", desc := "(LTwoWayLines$Paragraph;)V" } : Jvm.MethodName)) ∈ tw_Wg := tw_Wg_of (i := 480) (by decide +kernel) rfl
theorem tww_482 : (Jvm.Cond.instanceMethod ({ cls := "TwoWayLines$Levels", name := "setSides", desc := "(LTwoWayLines$Paragraph;)V" } : Jvm.MethodName)) ∈ tw_Wg := tw_Wg_of (i := 482) (by decide +kernel) rfl
theorem tww_483 : (Jvm.Cond.code ({ cls := "TwoWayLines$Levels", name := "setSides", desc := "(LTwoWayLines$Paragraph;)V" } : Jvm.MethodName) prog_5_method_9_code (7 : Nat) (Option.none : Option Jvm.ClassFile.FieldType)) ∈ tw_Wg := tw_Wg_of (i := 483) (by decide +kernel) rfl
theorem tww_484 : (Jvm.Cond.methodLink "TwoWayLines$Levels" (131 : Nat) ({ cls := "TwoWayLines$Levels", name := "visibleBehind", desc := "(LTwoWayLines$Paragraph;I)I" } : Jvm.MethodName)) ∈ tw_Wg := tw_Wg_of (i := 484) (by decide +kernel) rfl
theorem tww_486 : (Jvm.Cond.instanceMethod ({ cls := "TwoWayLines$Levels", name := "visibleBehind", desc := "(LTwoWayLines$Paragraph;I)I" } : Jvm.MethodName)) ∈ tw_Wg := tw_Wg_of (i := 486) (by decide +kernel) rfl
theorem tww_487 : (Jvm.Cond.code ({ cls := "TwoWayLines$Levels", name := "visibleBehind", desc := "(LTwoWayLines$Paragraph;I)I" } : Jvm.MethodName) prog_5_method_6_code (4 : Nat) (Option.some Jvm.ClassFile.FieldType.int)) ∈ tw_Wg := tw_Wg_of (i := 487) (by decide +kernel) rfl
theorem tww_489 : (Jvm.Cond.static ({ cls := "TwoWayLines", name := "sideOf", desc := "(I)I" } : Jvm.MethodName)) ∈ tw_Wg := tw_Wg_of (i := 489) (by decide +kernel) rfl
theorem tww_490 : (Jvm.Cond.code ({ cls := "TwoWayLines", name := "sideOf", desc := "(I)I" } : Jvm.MethodName) prog_1_method_26_code (1 : Nat) (Option.some Jvm.ClassFile.FieldType.int)) ∈ tw_Wg := tw_Wg_of (i := 490) (by decide +kernel) rfl
theorem tww_491 : (Jvm.Cond.methodLink "TwoWayLines" (110 : Nat) ({ cls := "TwoWayLines", name := "isOdd", desc := "(I)Z" } : Jvm.MethodName)) ∈ tw_Wg := tw_Wg_of (i := 491) (by decide +kernel) rfl
theorem tww_492 : (Jvm.Cond.methodLink "TwoWayLines$Levels" (141 : Nat) ({ cls := "TwoWayLines$Levels", name := "levelBeside", desc := "(I)I" } : Jvm.MethodName)) ∈ tw_Wg := tw_Wg_of (i := 492) (by decide +kernel) rfl
theorem tww_494 : (Jvm.Cond.instanceMethod ({ cls := "TwoWayLines$Levels", name := "levelBeside", desc := "(I)I" } : Jvm.MethodName)) ∈ tw_Wg := tw_Wg_of (i := 494) (by decide +kernel) rfl
theorem tww_495 : (Jvm.Cond.code ({ cls := "TwoWayLines$Levels", name := "levelBeside", desc := "(I)I" } : Jvm.MethodName) prog_5_method_10_code (2 : Nat) (Option.some Jvm.ClassFile.FieldType.int)) ∈ tw_Wg := tw_Wg_of (i := 495) (by decide +kernel) rfl
theorem tww_496 : (Jvm.Cond.methodLink "TwoWayLines$Levels" (144 : Nat) ({ cls := "java/lang/Math", name := "max", desc := "(II)I" } : Jvm.MethodName)) ∈ tw_Wg := tw_Wg_of (i := 496) (by decide +kernel) rfl
theorem tww_497 : (Jvm.Cond.static ({ cls := "java/lang/Math", name := "max", desc := "(II)I" } : Jvm.MethodName)) ∈ tw_Wg := tw_Wg_of (i := 497) (by decide +kernel) rfl
theorem tww_498 : (Jvm.Cond.code ({ cls := "java/lang/Math", name := "max", desc := "(II)I" } : Jvm.MethodName) prog_12_method_65_code (2 : Nat) (Option.some Jvm.ClassFile.FieldType.int)) ∈ tw_Wg := tw_Wg_of (i := 498) (by decide +kernel) rfl
theorem tww_499 : (Jvm.Cond.methodLink "TwoWayLines$Levels" (84 : Nat) ({ cls := "TwoWayLines$Sequence", name := "resolveWeak", desc := "()V" } : Jvm.MethodName)) ∈ tw_Wg := tw_Wg_of (i := 499) (by decide +kernel) rfl
theorem tww_500 : (Jvm.Cond.instanceMethod ({ cls := "TwoWayLines$Sequence", name := "resolveWeak", desc := "()V" } : Jvm.MethodName)) ∈ tw_Wg := tw_Wg_of (i := 500) (by decide +kernel) rfl
theorem tww_501 : (Jvm.Cond.selects "TwoWayLines$Sequence" ({ cls := "TwoWayLines$Sequence", name := "resolveWeak", desc := "()V" } : Jvm.MethodName) ({ cls := "TwoWayLines$Sequence", name := "resolveWeak", desc := "()V" } : Jvm.MethodName)) ∈ tw_Wg := tw_Wg_of (i := 501) (by decide +kernel) rfl
theorem tww_502 : (Jvm.Cond.code ({ cls := "TwoWayLines$Sequence", name := "resolveWeak", desc := "()V" } : Jvm.MethodName) prog_8_method_3_code (1 : Nat) (Option.none : Option Jvm.ClassFile.FieldType)) ∈ tw_Wg := tw_Wg_of (i := 502) (by decide +kernel) rfl
theorem tww_503 : (Jvm.Cond.methodLink "TwoWayLines$Sequence" (35 : Nat) ({ cls := "TwoWayLines$Sequence", name := "joinMarks", desc := "()V" } : Jvm.MethodName)) ∈ tw_Wg := tw_Wg_of (i := 503) (by decide +kernel) rfl
theorem tww_505 : (Jvm.Cond.instanceMethod ({ cls := "TwoWayLines$Sequence", name := "joinMarks", desc := "()V" } : Jvm.MethodName)) ∈ tw_Wg := tw_Wg_of (i := 505) (by decide +kernel) rfl
theorem tww_506 : (Jvm.Cond.code ({ cls := "TwoWayLines$Sequence", name := "joinMarks", desc := "()V" } : Jvm.MethodName) prog_8_method_4_code (3 : Nat) (Option.none : Option Jvm.ClassFile.FieldType)) ∈ tw_Wg := tw_Wg_of (i := 506) (by decide +kernel) rfl
theorem tww_508 : (Jvm.Cond.static ({ cls := "TwoWayLines", name := "isIsolateMark", desc := "(I)Z" } : Jvm.MethodName)) ∈ tw_Wg := tw_Wg_of (i := 508) (by decide +kernel) rfl
theorem tww_509 : (Jvm.Cond.code ({ cls := "TwoWayLines", name := "isIsolateMark", desc := "(I)Z" } : Jvm.MethodName) prog_1_method_25_code (1 : Nat) (Option.some Jvm.ClassFile.FieldType.boolean)) ∈ tw_Wg := tw_Wg_of (i := 509) (by decide +kernel) rfl
theorem tww_510 : (Jvm.Cond.methodLink "TwoWayLines$Sequence" (38 : Nat) ({ cls := "TwoWayLines$Sequence", name := "turnArabicNumbers", desc := "()V" } : Jvm.MethodName)) ∈ tw_Wg := tw_Wg_of (i := 510) (by decide +kernel) rfl
theorem tww_512 : (Jvm.Cond.instanceMethod ({ cls := "TwoWayLines$Sequence", name := "turnArabicNumbers", desc := "()V" } : Jvm.MethodName)) ∈ tw_Wg := tw_Wg_of (i := 512) (by decide +kernel) rfl
theorem tww_513 : (Jvm.Cond.code ({ cls := "TwoWayLines$Sequence", name := "turnArabicNumbers", desc := "()V" } : Jvm.MethodName) prog_8_method_5_code (4 : Nat) (Option.none : Option Jvm.ClassFile.FieldType)) ∈ tw_Wg := tw_Wg_of (i := 513) (by decide +kernel) rfl
theorem tww_514 : (Jvm.Cond.methodLink "TwoWayLines$Sequence" (41 : Nat) ({ cls := "TwoWayLines$Sequence", name := "turnSeparators", desc := "()V" } : Jvm.MethodName)) ∈ tw_Wg := tw_Wg_of (i := 514) (by decide +kernel) rfl
theorem tww_516 : (Jvm.Cond.instanceMethod ({ cls := "TwoWayLines$Sequence", name := "turnSeparators", desc := "()V" } : Jvm.MethodName)) ∈ tw_Wg := tw_Wg_of (i := 516) (by decide +kernel) rfl
theorem tww_517 : (Jvm.Cond.code ({ cls := "TwoWayLines$Sequence", name := "turnSeparators", desc := "()V" } : Jvm.MethodName) prog_8_method_6_code (4 : Nat) (Option.none : Option Jvm.ClassFile.FieldType)) ∈ tw_Wg := tw_Wg_of (i := 517) (by decide +kernel) rfl
theorem tww_518 : (Jvm.Cond.methodLink "TwoWayLines$Sequence" (44 : Nat) ({ cls := "TwoWayLines$Sequence", name := "turnTerminators", desc := "()V" } : Jvm.MethodName)) ∈ tw_Wg := tw_Wg_of (i := 518) (by decide +kernel) rfl
theorem tww_520 : (Jvm.Cond.instanceMethod ({ cls := "TwoWayLines$Sequence", name := "turnTerminators", desc := "()V" } : Jvm.MethodName)) ∈ tw_Wg := tw_Wg_of (i := 520) (by decide +kernel) rfl
theorem tww_521 : (Jvm.Cond.code ({ cls := "TwoWayLines$Sequence", name := "turnTerminators", desc := "()V" } : Jvm.MethodName) prog_8_method_7_code (2 : Nat) (Option.none : Option Jvm.ClassFile.FieldType)) ∈ tw_Wg := tw_Wg_of (i := 521) (by decide +kernel) rfl
theorem tww_522 : (Jvm.Cond.methodLink "TwoWayLines$Sequence" (47 : Nat) ({ cls := "TwoWayLines$Sequence", name := "freeLeftovers", desc := "()V" } : Jvm.MethodName)) ∈ tw_Wg := tw_Wg_of (i := 522) (by decide +kernel) rfl
theorem tww_524 : (Jvm.Cond.instanceMethod ({ cls := "TwoWayLines$Sequence", name := "freeLeftovers", desc := "()V" } : Jvm.MethodName)) ∈ tw_Wg := tw_Wg_of (i := 524) (by decide +kernel) rfl
theorem tww_525 : (Jvm.Cond.code ({ cls := "TwoWayLines$Sequence", name := "freeLeftovers", desc := "()V" } : Jvm.MethodName) prog_8_method_8_code (2 : Nat) (Option.none : Option Jvm.ClassFile.FieldType)) ∈ tw_Wg := tw_Wg_of (i := 525) (by decide +kernel) rfl
theorem tww_526 : (Jvm.Cond.methodLink "TwoWayLines$Sequence" (50 : Nat) ({ cls := "TwoWayLines$Sequence", name := "turnLatinNumbers", desc := "()V" } : Jvm.MethodName)) ∈ tw_Wg := tw_Wg_of (i := 526) (by decide +kernel) rfl
theorem tww_528 : (Jvm.Cond.instanceMethod ({ cls := "TwoWayLines$Sequence", name := "turnLatinNumbers", desc := "()V" } : Jvm.MethodName)) ∈ tw_Wg := tw_Wg_of (i := 528) (by decide +kernel) rfl
theorem tww_529 : (Jvm.Cond.code ({ cls := "TwoWayLines$Sequence", name := "turnLatinNumbers", desc := "()V" } : Jvm.MethodName) prog_8_method_9_code (3 : Nat) (Option.none : Option Jvm.ClassFile.FieldType)) ∈ tw_Wg := tw_Wg_of (i := 529) (by decide +kernel) rfl
theorem tww_530 : (Jvm.Cond.methodLink "TwoWayLines$Levels" (87 : Nat) ({ cls := "TwoWayLines$Brackets", name := "resolve", desc := "(LTwoWayLines$Paragraph;LTwoWayLines$Sequence;)V" } : Jvm.MethodName)) ∈ tw_Wg := tw_Wg_of (i := 530) (by decide +kernel) rfl
theorem tww_531 : (Jvm.Cond.instanceMethod ({ cls := "TwoWayLines$Brackets", name := "resolve", desc := "(LTwoWayLines$Paragraph;LTwoWayLines$Sequence;)V" } : Jvm.MethodName)) ∈ tw_Wg := tw_Wg_of (i := 531) (by decide +kernel) rfl
theorem tww_532 : (Jvm.Cond.selects "TwoWayLines$Brackets" ({ cls := "TwoWayLines$Brackets", name := "resolve", desc := "(LTwoWayLines$Paragraph;LTwoWayLines$Sequence;)V" } : Jvm.MethodName) ({ cls := "TwoWayLines$Brackets", name := "resolve", desc := "(LTwoWayLines$Paragraph;LTwoWayLines$Sequence;)V" } : Jvm.MethodName)) ∈ tw_Wg := tw_Wg_of (i := 532) (by decide +kernel) rfl
theorem tww_533 : (Jvm.Cond.code ({ cls := "TwoWayLines$Brackets", name := "resolve", desc := "(LTwoWayLines$Paragraph;LTwoWayLines$Sequence;)V" } : Jvm.MethodName) prog_2_method_2_code (4 : Nat) (Option.none : Option Jvm.ClassFile.FieldType)) ∈ tw_Wg := tw_Wg_of (i := 533) (by decide +kernel) rfl
theorem tww_534 : (Jvm.Cond.methodLink "TwoWayLines$Brackets" (18 : Nat) ({ cls := "TwoWayLines$Brackets", name := "pairUp", desc := "(LTwoWayLines$Paragraph;LTwoWayLines$Sequence;)V" } : Jvm.MethodName)) ∈ tw_Wg := tw_Wg_of (i := 534) (by decide +kernel) rfl
theorem tww_536 : (Jvm.Cond.instanceMethod ({ cls := "TwoWayLines$Brackets", name := "pairUp", desc := "(LTwoWayLines$Paragraph;LTwoWayLines$Sequence;)V" } : Jvm.MethodName)) ∈ tw_Wg := tw_Wg_of (i := 536) (by decide +kernel) rfl
theorem tww_537 : (Jvm.Cond.code ({ cls := "TwoWayLines$Brackets", name := "pairUp", desc := "(LTwoWayLines$Paragraph;LTwoWayLines$Sequence;)V" } : Jvm.MethodName) prog_2_method_3_code (6 : Nat) (Option.none : Option Jvm.ClassFile.FieldType)) ∈ tw_Wg := tw_Wg_of (i := 537) (by decide +kernel) rfl
theorem tww_538 : (Jvm.Cond.methodLink "TwoWayLines$Brackets" (43 : Nat) ({ cls := "TwoWayLines$Brackets", name := "close", desc := "(LTwoWayLines$Paragraph;LTwoWayLines$Sequence;II)I" } : Jvm.MethodName)) ∈ tw_Wg := tw_Wg_of (i := 538) (by decide +kernel) rfl
theorem tww_540 : (Jvm.Cond.instanceMethod ({ cls := "TwoWayLines$Brackets", name := "close", desc := "(LTwoWayLines$Paragraph;LTwoWayLines$Sequence;II)I" } : Jvm.MethodName)) ∈ tw_Wg := tw_Wg_of (i := 540) (by decide +kernel) rfl
theorem tww_541 : (Jvm.Cond.code ({ cls := "TwoWayLines$Brackets", name := "close", desc := "(LTwoWayLines$Paragraph;LTwoWayLines$Sequence;II)I" } : Jvm.MethodName) prog_2_method_4_code (8 : Nat) (Option.some Jvm.ClassFile.FieldType.int)) ∈ tw_Wg := tw_Wg_of (i := 541) (by decide +kernel) rfl
theorem tww_542 : (Jvm.Cond.methodLink "TwoWayLines$Brackets" (28 : Nat) ({ cls := "TwoWayLines$Brackets", name := "settle", desc := "(LTwoWayLines$Sequence;II)V" } : Jvm.MethodName)) ∈ tw_Wg := tw_Wg_of (i := 542) (by decide +kernel) rfl
theorem tww_544 : (Jvm.Cond.instanceMethod ({ cls := "TwoWayLines$Brackets", name := "settle", desc := "(LTwoWayLines$Sequence;II)V" } : Jvm.MethodName)) ∈ tw_Wg := tw_Wg_of (i := 544) (by decide +kernel) rfl
theorem tww_545 : (Jvm.Cond.code ({ cls := "TwoWayLines$Brackets", name := "settle", desc := "(LTwoWayLines$Sequence;II)V" } : Jvm.MethodName) prog_2_method_5_code (5 : Nat) (Option.none : Option Jvm.ClassFile.FieldType)) ∈ tw_Wg := tw_Wg_of (i := 545) (by decide +kernel) rfl
theorem tww_546 : (Jvm.Cond.methodLink "TwoWayLines$Brackets" (47 : Nat) ({ cls := "TwoWayLines$Brackets", name := "strongBetween", desc := "(LTwoWayLines$Sequence;II)I" } : Jvm.MethodName)) ∈ tw_Wg := tw_Wg_of (i := 546) (by decide +kernel) rfl
theorem tww_548 : (Jvm.Cond.instanceMethod ({ cls := "TwoWayLines$Brackets", name := "strongBetween", desc := "(LTwoWayLines$Sequence;II)I" } : Jvm.MethodName)) ∈ tw_Wg := tw_Wg_of (i := 548) (by decide +kernel) rfl
theorem tww_549 : (Jvm.Cond.code ({ cls := "TwoWayLines$Brackets", name := "strongBetween", desc := "(LTwoWayLines$Sequence;II)I" } : Jvm.MethodName) prog_2_method_6_code (7 : Nat) (Option.some Jvm.ClassFile.FieldType.int)) ∈ tw_Wg := tw_Wg_of (i := 549) (by decide +kernel) rfl
theorem tww_550 : (Jvm.Cond.methodLink "TwoWayLines$Brackets" (61 : Nat) ({ cls := "TwoWayLines$Sequence", name := "strongAt", desc := "(I)I" } : Jvm.MethodName)) ∈ tw_Wg := tw_Wg_of (i := 550) (by decide +kernel) rfl
theorem tww_551 : (Jvm.Cond.instanceMethod ({ cls := "TwoWayLines$Sequence", name := "strongAt", desc := "(I)I" } : Jvm.MethodName)) ∈ tw_Wg := tw_Wg_of (i := 551) (by decide +kernel) rfl
theorem tww_552 : (Jvm.Cond.selects "TwoWayLines$Sequence" ({ cls := "TwoWayLines$Sequence", name := "strongAt", desc := "(I)I" } : Jvm.MethodName) ({ cls := "TwoWayLines$Sequence", name := "strongAt", desc := "(I)I" } : Jvm.MethodName)) ∈ tw_Wg := tw_Wg_of (i := 552) (by decide +kernel) rfl
theorem tww_553 : (Jvm.Cond.code ({ cls := "TwoWayLines$Sequence", name := "strongAt", desc := "(I)I" } : Jvm.MethodName) prog_8_method_12_code (3 : Nat) (Option.some Jvm.ClassFile.FieldType.int)) ∈ tw_Wg := tw_Wg_of (i := 553) (by decide +kernel) rfl
theorem tww_554 : (Jvm.Cond.methodLink "TwoWayLines$Brackets" (54 : Nat) ({ cls := "TwoWayLines$Brackets", name := "strongBefore", desc := "(LTwoWayLines$Sequence;I)I" } : Jvm.MethodName)) ∈ tw_Wg := tw_Wg_of (i := 554) (by decide +kernel) rfl
theorem tww_556 : (Jvm.Cond.instanceMethod ({ cls := "TwoWayLines$Brackets", name := "strongBefore", desc := "(LTwoWayLines$Sequence;I)I" } : Jvm.MethodName)) ∈ tw_Wg := tw_Wg_of (i := 556) (by decide +kernel) rfl
theorem tww_557 : (Jvm.Cond.code ({ cls := "TwoWayLines$Brackets", name := "strongBefore", desc := "(LTwoWayLines$Sequence;I)I" } : Jvm.MethodName) prog_2_method_7_code (4 : Nat) (Option.some Jvm.ClassFile.FieldType.int)) ∈ tw_Wg := tw_Wg_of (i := 557) (by decide +kernel) rfl
theorem tww_558 : (Jvm.Cond.methodLink "TwoWayLines$Brackets" (58 : Nat) ({ cls := "TwoWayLines$Brackets", name := "give", desc := "(LTwoWayLines$Sequence;II)V" } : Jvm.MethodName)) ∈ tw_Wg := tw_Wg_of (i := 558) (by decide +kernel) rfl
theorem tww_560 : (Jvm.Cond.instanceMethod ({ cls := "TwoWayLines$Brackets", name := "give", desc := "(LTwoWayLines$Sequence;II)V" } : Jvm.MethodName)) ∈ tw_Wg := tw_Wg_of (i := 560) (by decide +kernel) rfl
theorem tww_561 : (Jvm.Cond.code ({ cls := "TwoWayLines$Brackets", name := "give", desc := "(LTwoWayLines$Sequence;II)V" } : Jvm.MethodName) prog_2_method_8_code (5 : Nat) (Option.none : Option Jvm.ClassFile.FieldType)) ∈ tw_Wg := tw_Wg_of (i := 561) (by decide +kernel) rfl
theorem tww_562 : (Jvm.Cond.methodLink "TwoWayLines$Levels" (91 : Nat) ({ cls := "TwoWayLines$Sequence", name := "resolveNeutral", desc := "()V" } : Jvm.MethodName)) ∈ tw_Wg := tw_Wg_of (i := 562) (by decide +kernel) rfl
theorem tww_563 : (Jvm.Cond.instanceMethod ({ cls := "TwoWayLines$Sequence", name := "resolveNeutral", desc := "()V" } : Jvm.MethodName)) ∈ tw_Wg := tw_Wg_of (i := 563) (by decide +kernel) rfl
theorem tww_564 : (Jvm.Cond.selects "TwoWayLines$Sequence" ({ cls := "TwoWayLines$Sequence", name := "resolveNeutral", desc := "()V" } : Jvm.MethodName) ({ cls := "TwoWayLines$Sequence", name := "resolveNeutral", desc := "()V" } : Jvm.MethodName)) ∈ tw_Wg := tw_Wg_of (i := 564) (by decide +kernel) rfl
theorem tww_565 : (Jvm.Cond.code ({ cls := "TwoWayLines$Sequence", name := "resolveNeutral", desc := "()V" } : Jvm.MethodName) prog_8_method_10_code (5 : Nat) (Option.none : Option Jvm.ClassFile.FieldType)) ∈ tw_Wg := tw_Wg_of (i := 565) (by decide +kernel) rfl
theorem tww_566 : (Jvm.Cond.methodLink "TwoWayLines$Sequence" (57 : Nat) ({ cls := "TwoWayLines$Sequence", name := "strongAt", desc := "(I)I" } : Jvm.MethodName)) ∈ tw_Wg := tw_Wg_of (i := 566) (by decide +kernel) rfl
theorem tww_567 : (Jvm.Cond.methodLink "TwoWayLines$Sequence" (61 : Nat) ({ cls := "TwoWayLines$Sequence", name := "fillTypes", desc := "(III)V" } : Jvm.MethodName)) ∈ tw_Wg := tw_Wg_of (i := 567) (by decide +kernel) rfl
theorem tww_569 : (Jvm.Cond.instanceMethod ({ cls := "TwoWayLines$Sequence", name := "fillTypes", desc := "(III)V" } : Jvm.MethodName)) ∈ tw_Wg := tw_Wg_of (i := 569) (by decide +kernel) rfl
theorem tww_570 : (Jvm.Cond.code ({ cls := "TwoWayLines$Sequence", name := "fillTypes", desc := "(III)V" } : Jvm.MethodName) prog_8_method_11_code (5 : Nat) (Option.none : Option Jvm.ClassFile.FieldType)) ∈ tw_Wg := tw_Wg_of (i := 570) (by decide +kernel) rfl
theorem tww_571 : (Jvm.Cond.methodLink "TwoWayLines$Levels" (94 : Nat) ({ cls := "TwoWayLines$Levels", name := "keep", desc := "()V" } : Jvm.MethodName)) ∈ tw_Wg := tw_Wg_of (i := 571) (by decide +kernel) rfl
theorem tww_573 : (Jvm.Cond.instanceMethod ({ cls := "TwoWayLines$Levels", name := "keep", desc := "()V" } : Jvm.MethodName)) ∈ tw_Wg := tw_Wg_of (i := 573) (by decide +kernel) rfl
theorem tww_574 : (Jvm.Cond.code ({ cls := "TwoWayLines$Levels", name := "keep", desc := "()V" } : Jvm.MethodName) prog_5_method_11_code (3 : Nat) (Option.none : Option Jvm.ClassFile.FieldType)) ∈ tw_Wg := tw_Wg_of (i := 574) (by decide +kernel) rfl
theorem tww_575 : (Jvm.Cond.methodLink "TwoWayLines" (120 : Nat) ({ cls := "TwoWayLines$Levels", name := "raise", desc := "(LTwoWayLines$Paragraph;)V" } : Jvm.MethodName)) ∈ tw_Wg := tw_Wg_of (i := 575) (by decide +kernel) rfl
theorem tww_576 : (Jvm.Cond.instanceMethod ({ cls := "TwoWayLines$Levels", name := "raise", desc := "(LTwoWayLines$Paragraph;)V" } : Jvm.MethodName)) ∈ tw_Wg := tw_Wg_of (i := 576) (by decide +kernel) rfl
theorem tww_577 : (Jvm.Cond.selects "TwoWayLines$Levels" ({ cls := "TwoWayLines$Levels", name := "raise", desc := "(LTwoWayLines$Paragraph;)V" } : Jvm.MethodName) ({ cls := "TwoWayLines$Levels", name := "raise", desc := "(LTwoWayLines$Paragraph;)V" } : Jvm.MethodName)) ∈ tw_Wg := tw_Wg_of (i := 577) (by decide +kernel) rfl
theorem tww_578 : (Jvm.Cond.code ({ cls := "TwoWayLines$Levels", name := "raise", desc := "(LTwoWayLines$Paragraph;)V" } : Jvm.MethodName) prog_5_method_12_code (4 : Nat) (Option.none : Option Jvm.ClassFile.FieldType)) ∈ tw_Wg := tw_Wg_of (i := 578) (by decide +kernel) rfl
theorem tww_579 : (Jvm.Cond.methodLink "TwoWayLines$Levels" (158 : Nat) ({ cls := "TwoWayLines$Levels", name := "raised", desc := "(II)I" } : Jvm.MethodName)) ∈ tw_Wg := tw_Wg_of (i := 579) (by decide +kernel) rfl
theorem tww_580 : (Jvm.Cond.static ({ cls := "TwoWayLines$Levels", name := "raised", desc := "(II)I" } : Jvm.MethodName)) ∈ tw_Wg := tw_Wg_of (i := 580) (by decide +kernel) rfl
theorem tww_581 : (Jvm.Cond.code ({ cls := "TwoWayLines$Levels", name := "raised", desc := "(II)I" } : Jvm.MethodName) prog_5_method_13_code (2 : Nat) (Option.some Jvm.ClassFile.FieldType.int)) ∈ tw_Wg := tw_Wg_of (i := 581) (by decide +kernel) rfl
theorem tww_583 : (Jvm.Cond.methodLink "TwoWayLines" (123 : Nat) ({ cls := "TwoWayLines$Filling", name := "fill", desc := "(LTwoWayLines$Paragraph;I)V" } : Jvm.MethodName)) ∈ tw_Wg := tw_Wg_of (i := 583) (by decide +kernel) rfl
theorem tww_584 : (Jvm.Cond.instanceMethod ({ cls := "TwoWayLines$Filling", name := "fill", desc := "(LTwoWayLines$Paragraph;I)V" } : Jvm.MethodName)) ∈ tw_Wg := tw_Wg_of (i := 584) (by decide +kernel) rfl
theorem tww_585 : (Jvm.Cond.selects "TwoWayLines$Filling" ({ cls := "TwoWayLines$Filling", name := "fill", desc := "(LTwoWayLines$Paragraph;I)V" } : Jvm.MethodName) ({ cls := "TwoWayLines$Filling", name := "fill", desc := "(LTwoWayLines$Paragraph;I)V" } : Jvm.MethodName)) ∈ tw_Wg := tw_Wg_of (i := 585) (by decide +kernel) rfl
theorem tww_586 : (Jvm.Cond.code ({ cls := "TwoWayLines$Filling", name := "fill", desc := "(LTwoWayLines$Paragraph;I)V" } : Jvm.MethodName) prog_4_method_3_code (5 : Nat) (Option.none : Option Jvm.ClassFile.FieldType)) ∈ tw_Wg := tw_Wg_of (i := 586) (by decide +kernel) rfl
theorem tww_587 : (Jvm.Cond.methodLink "TwoWayLines$Filling" (29 : Nat) ({ cls := "TwoWayLines$Filling", name := "findGroups", desc := "(LTwoWayLines$Paragraph;)V" } : Jvm.MethodName)) ∈ tw_Wg := tw_Wg_of (i := 587) (by decide +kernel) rfl
theorem tww_589 : (Jvm.Cond.instanceMethod ({ cls := "TwoWayLines$Filling", name := "findGroups", desc := "(LTwoWayLines$Paragraph;)V" } : Jvm.MethodName)) ∈ tw_Wg := tw_Wg_of (i := 589) (by decide +kernel) rfl
theorem tww_590 : (Jvm.Cond.code ({ cls := "TwoWayLines$Filling", name := "findGroups", desc := "(LTwoWayLines$Paragraph;)V" } : Jvm.MethodName) prog_4_method_4_code (4 : Nat) (Option.none : Option Jvm.ClassFile.FieldType)) ∈ tw_Wg := tw_Wg_of (i := 590) (by decide +kernel) rfl
theorem tww_591 : (Jvm.Cond.methodLink "TwoWayLines$Filling" (33 : Nat) ({ cls := "TwoWayLines$Filling", name := "findBreaks", desc := "(LTwoWayLines$Paragraph;)V" } : Jvm.MethodName)) ∈ tw_Wg := tw_Wg_of (i := 591) (by decide +kernel) rfl
theorem tww_593 : (Jvm.Cond.instanceMethod ({ cls := "TwoWayLines$Filling", name := "findBreaks", desc := "(LTwoWayLines$Paragraph;)V" } : Jvm.MethodName)) ∈ tw_Wg := tw_Wg_of (i := 593) (by decide +kernel) rfl
theorem tww_594 : (Jvm.Cond.code ({ cls := "TwoWayLines$Filling", name := "findBreaks", desc := "(LTwoWayLines$Paragraph;)V" } : Jvm.MethodName) prog_4_method_5_code (5 : Nat) (Option.none : Option Jvm.ClassFile.FieldType)) ∈ tw_Wg := tw_Wg_of (i := 594) (by decide +kernel) rfl
theorem tww_595 : (Jvm.Cond.methodLink "TwoWayLines$Filling" (52 : Nat) ({ cls := "TwoWayLines$Filling", name := "parts", desc := "(III)Z" } : Jvm.MethodName)) ∈ tw_Wg := tw_Wg_of (i := 595) (by decide +kernel) rfl
theorem tww_596 : (Jvm.Cond.static ({ cls := "TwoWayLines$Filling", name := "parts", desc := "(III)Z" } : Jvm.MethodName)) ∈ tw_Wg := tw_Wg_of (i := 596) (by decide +kernel) rfl
theorem tww_597 : (Jvm.Cond.code ({ cls := "TwoWayLines$Filling", name := "parts", desc := "(III)Z" } : Jvm.MethodName) prog_4_method_6_code (3 : Nat) (Option.some Jvm.ClassFile.FieldType.boolean)) ∈ tw_Wg := tw_Wg_of (i := 597) (by decide +kernel) rfl
theorem tww_598 : (Jvm.Cond.methodLink "TwoWayLines$Filling" (41 : Nat) ({ cls := "TwoWayLines$Filling", name := "endOfLine", desc := "(LTwoWayLines$Paragraph;II)I" } : Jvm.MethodName)) ∈ tw_Wg := tw_Wg_of (i := 598) (by decide +kernel) rfl
theorem tww_600 : (Jvm.Cond.instanceMethod ({ cls := "TwoWayLines$Filling", name := "endOfLine", desc := "(LTwoWayLines$Paragraph;II)I" } : Jvm.MethodName)) ∈ tw_Wg := tw_Wg_of (i := 600) (by decide +kernel) rfl
theorem tww_601 : (Jvm.Cond.code ({ cls := "TwoWayLines$Filling", name := "endOfLine", desc := "(LTwoWayLines$Paragraph;II)I" } : Jvm.MethodName) prog_4_method_7_code (12 : Nat) (Option.some Jvm.ClassFile.FieldType.int)) ∈ tw_Wg := tw_Wg_of (i := 601) (by decide +kernel) rfl
theorem tww_602 : (Jvm.Cond.methodLink "TwoWayLines$Filling" (45 : Nat) ({ cls := "TwoWayLines$Filling", name := "extentOf", desc := "(LTwoWayLines$Paragraph;II)I" } : Jvm.MethodName)) ∈ tw_Wg := tw_Wg_of (i := 602) (by decide +kernel) rfl
theorem tww_604 : (Jvm.Cond.instanceMethod ({ cls := "TwoWayLines$Filling", name := "extentOf", desc := "(LTwoWayLines$Paragraph;II)I" } : Jvm.MethodName)) ∈ tw_Wg := tw_Wg_of (i := 604) (by decide +kernel) rfl
theorem tww_605 : (Jvm.Cond.code ({ cls := "TwoWayLines$Filling", name := "extentOf", desc := "(LTwoWayLines$Paragraph;II)I" } : Jvm.MethodName) prog_4_method_8_code (7 : Nat) (Option.some Jvm.ClassFile.FieldType.int)) ∈ tw_Wg := tw_Wg_of (i := 605) (by decide +kernel) rfl
theorem tww_606 : (Jvm.Cond.methodLink "TwoWayLines" (127 : Nat) ({ cls := "TwoWayLines$Showing", name := "arrange", desc := "(LTwoWayLines$Paragraph;LTwoWayLines$Levels;LTwoWayLines$Filling;)V" } : Jvm.MethodName)) ∈ tw_Wg := tw_Wg_of (i := 606) (by decide +kernel) rfl
theorem tww_607 : (Jvm.Cond.instanceMethod ({ cls := "TwoWayLines$Showing", name := "arrange", desc := "(LTwoWayLines$Paragraph;LTwoWayLines$Levels;LTwoWayLines$Filling;)V" } : Jvm.MethodName)) ∈ tw_Wg := tw_Wg_of (i := 607) (by decide +kernel) rfl
theorem tww_608 : (Jvm.Cond.selects "TwoWayLines$Showing" ({ cls := "TwoWayLines$Showing", name := "arrange", desc := "(LTwoWayLines$Paragraph;LTwoWayLines$Levels;LTwoWayLines$Filling;)V" } : Jvm.MethodName) ({ cls := "TwoWayLines$Showing", name := "arrange", desc := "(LTwoWayLines$Paragraph;LTwoWayLines$Levels;LTwoWayLines$Filling;)V" } : Jvm.MethodName)) ∈ tw_Wg := tw_Wg_of (i := 608) (by decide +kernel) rfl
theorem tww_609 : (Jvm.Cond.code ({ cls := "TwoWayLines$Showing", name := "arrange", desc := "(LTwoWayLines$Paragraph;LTwoWayLines$Levels;LTwoWayLines$Filling;)V" } : Jvm.MethodName) prog_9_method_2_code (7 : Nat) (Option.none : Option Jvm.ClassFile.FieldType)) ∈ tw_Wg := tw_Wg_of (i := 609) (by decide +kernel) rfl
theorem tww_610 : (Jvm.Cond.methodLink "TwoWayLines$Showing" (27 : Nat) ({ cls := "TwoWayLines$Showing", name := "setLevels", desc := "(LTwoWayLines$Paragraph;LTwoWayLines$Levels;II)V" } : Jvm.MethodName)) ∈ tw_Wg := tw_Wg_of (i := 610) (by decide +kernel) rfl
theorem tww_612 : (Jvm.Cond.instanceMethod ({ cls := "TwoWayLines$Showing", name := "setLevels", desc := "(LTwoWayLines$Paragraph;LTwoWayLines$Levels;II)V" } : Jvm.MethodName)) ∈ tw_Wg := tw_Wg_of (i := 612) (by decide +kernel) rfl
theorem tww_613 : (Jvm.Cond.code ({ cls := "TwoWayLines$Showing", name := "setLevels", desc := "(LTwoWayLines$Paragraph;LTwoWayLines$Levels;II)V" } : Jvm.MethodName) prog_9_method_3_code (9 : Nat) (Option.none : Option Jvm.ClassFile.FieldType)) ∈ tw_Wg := tw_Wg_of (i := 613) (by decide +kernel) rfl
theorem tww_616 : (Jvm.Cond.methodLink "TwoWayLines$Showing" (31 : Nat) ({ cls := "TwoWayLines$Showing", name := "setOrder", desc := "(II)V" } : Jvm.MethodName)) ∈ tw_Wg := tw_Wg_of (i := 616) (by decide +kernel) rfl
theorem tww_618 : (Jvm.Cond.instanceMethod ({ cls := "TwoWayLines$Showing", name := "setOrder", desc := "(II)V" } : Jvm.MethodName)) ∈ tw_Wg := tw_Wg_of (i := 618) (by decide +kernel) rfl
theorem tww_619 : (Jvm.Cond.code ({ cls := "TwoWayLines$Showing", name := "setOrder", desc := "(II)V" } : Jvm.MethodName) prog_9_method_4_code (5 : Nat) (Option.none : Option Jvm.ClassFile.FieldType)) ∈ tw_Wg := tw_Wg_of (i := 619) (by decide +kernel) rfl
theorem tww_620 : (Jvm.Cond.methodLink "TwoWayLines$Showing" (55 : Nat) ({ cls := "java/lang/Math", name := "max", desc := "(II)I" } : Jvm.MethodName)) ∈ tw_Wg := tw_Wg_of (i := 620) (by decide +kernel) rfl
theorem tww_621 : (Jvm.Cond.methodLink "TwoWayLines$Showing" (61 : Nat) ({ cls := "TwoWayLines$Showing", name := "turnRows", desc := "(III)V" } : Jvm.MethodName)) ∈ tw_Wg := tw_Wg_of (i := 621) (by decide +kernel) rfl
theorem tww_623 : (Jvm.Cond.instanceMethod ({ cls := "TwoWayLines$Showing", name := "turnRows", desc := "(III)V" } : Jvm.MethodName)) ∈ tw_Wg := tw_Wg_of (i := 623) (by decide +kernel) rfl
theorem tww_624 : (Jvm.Cond.code ({ cls := "TwoWayLines$Showing", name := "turnRows", desc := "(III)V" } : Jvm.MethodName) prog_9_method_5_code (6 : Nat) (Option.none : Option Jvm.ClassFile.FieldType)) ∈ tw_Wg := tw_Wg_of (i := 624) (by decide +kernel) rfl
theorem tww_625 : (Jvm.Cond.methodLink "TwoWayLines$Showing" (65 : Nat) ({ cls := "TwoWayLines$Showing", name := "turn", desc := "(II)V" } : Jvm.MethodName)) ∈ tw_Wg := tw_Wg_of (i := 625) (by decide +kernel) rfl
theorem tww_627 : (Jvm.Cond.instanceMethod ({ cls := "TwoWayLines$Showing", name := "turn", desc := "(II)V" } : Jvm.MethodName)) ∈ tw_Wg := tw_Wg_of (i := 627) (by decide +kernel) rfl
theorem tww_628 : (Jvm.Cond.code ({ cls := "TwoWayLines$Showing", name := "turn", desc := "(II)V" } : Jvm.MethodName) prog_9_method_6_code (6 : Nat) (Option.none : Option Jvm.ClassFile.FieldType)) ∈ tw_Wg := tw_Wg_of (i := 628) (by decide +kernel) rfl
theorem tww_633 : (Jvm.Cond.methodLink "TwoWayLines" (65 : Nat) ({ cls := "TwoWayLines$Paragraph", name := "has", desc := "(I)Z" } : Jvm.MethodName)) ∈ tw_Wg := tw_Wg_of (i := 633) (by decide +kernel) rfl
theorem tww_634 : (Jvm.Cond.instanceMethod ({ cls := "TwoWayLines$Paragraph", name := "has", desc := "(I)Z" } : Jvm.MethodName)) ∈ tw_Wg := tw_Wg_of (i := 634) (by decide +kernel) rfl
theorem tww_635 : (Jvm.Cond.selects "TwoWayLines$Paragraph" ({ cls := "TwoWayLines$Paragraph", name := "has", desc := "(I)Z" } : Jvm.MethodName) ({ cls := "TwoWayLines$Paragraph", name := "has", desc := "(I)Z" } : Jvm.MethodName)) ∈ tw_Wg := tw_Wg_of (i := 635) (by decide +kernel) rfl
theorem tww_636 : (Jvm.Cond.code ({ cls := "TwoWayLines$Paragraph", name := "has", desc := "(I)Z" } : Jvm.MethodName) prog_7_method_3_code (2 : Nat) (Option.some Jvm.ClassFile.FieldType.boolean)) ∈ tw_Wg := tw_Wg_of (i := 636) (by decide +kernel) rfl
theorem tww_665 : (Jvm.Cond.methodLink "TwoWayLines" (98 : Nat) ({ cls := "TwoWayLines$Filling", name := "has", desc := "(I)Z" } : Jvm.MethodName)) ∈ tw_Wg := tw_Wg_of (i := 665) (by decide +kernel) rfl
theorem tww_666 : (Jvm.Cond.instanceMethod ({ cls := "TwoWayLines$Filling", name := "has", desc := "(I)Z" } : Jvm.MethodName)) ∈ tw_Wg := tw_Wg_of (i := 666) (by decide +kernel) rfl
theorem tww_667 : (Jvm.Cond.selects "TwoWayLines$Filling" ({ cls := "TwoWayLines$Filling", name := "has", desc := "(I)Z" } : Jvm.MethodName) ({ cls := "TwoWayLines$Filling", name := "has", desc := "(I)Z" } : Jvm.MethodName)) ∈ tw_Wg := tw_Wg_of (i := 667) (by decide +kernel) rfl
theorem tww_668 : (Jvm.Cond.code ({ cls := "TwoWayLines$Filling", name := "has", desc := "(I)Z" } : Jvm.MethodName) prog_4_method_2_code (2 : Nat) (Option.some Jvm.ClassFile.FieldType.boolean)) ∈ tw_Wg := tw_Wg_of (i := 668) (by decide +kernel) rfl
theorem tww_687 : (Jvm.Cond.fieldLink "TwoWayLinesModel" (7 : Nat) "TwoWayLinesModel" "base" "I") ∈ tw_Wg := tw_Wg_of (i := 687) (by decide +kernel) rfl
theorem tww_688 : (Jvm.Cond.fieldLink "TwoWayLinesModel" (13 : Nat) "TwoWayLinesModel" "measure" "I") ∈ tw_Wg := tw_Wg_of (i := 688) (by decide +kernel) rfl
theorem tww_689 : (Jvm.Cond.fieldLink "TwoWayLinesModel" (69 : Nat) "TwoWayLinesModel" "size" "I") ∈ tw_Wg := tw_Wg_of (i := 689) (by decide +kernel) rfl
theorem tww_690 : (Jvm.Cond.fieldLink "TwoWayLinesModel" (16 : Nat) "TwoWayLinesModel" "kind" "[I") ∈ tw_Wg := tw_Wg_of (i := 690) (by decide +kernel) rfl
theorem tww_691 : (Jvm.Cond.fieldLink "TwoWayLinesModel" (20 : Nat) "TwoWayLinesModel" "group" "[I") ∈ tw_Wg := tw_Wg_of (i := 691) (by decide +kernel) rfl
theorem tww_692 : (Jvm.Cond.fieldLink "TwoWayLinesModel" (23 : Nat) "TwoWayLinesModel" "width" "[I") ∈ tw_Wg := tw_Wg_of (i := 692) (by decide +kernel) rfl
theorem tww_693 : (Jvm.Cond.fieldLink "TwoWayLinesModel" (26 : Nat) "TwoWayLinesModel" "pair" "[I") ∈ tw_Wg := tw_Wg_of (i := 693) (by decide +kernel) rfl
theorem tww_694 : (Jvm.Cond.fieldLink "TwoWayLinesModel" (72 : Nat) "TwoWayLinesModel" "known" "Z") ∈ tw_Wg := tw_Wg_of (i := 694) (by decide +kernel) rfl
theorem tww_695 : (Jvm.Cond.fieldLink "TwoWayLinesModel" (115 : Nat) "TwoWayLinesModel" "root" "I") ∈ tw_Wg := tw_Wg_of (i := 695) (by decide +kernel) rfl
theorem tww_696 : (Jvm.Cond.fieldLink "TwoWayLinesModel" (29 : Nat) "TwoWayLinesModel" "level" "[I") ∈ tw_Wg := tw_Wg_of (i := 696) (by decide +kernel) rfl
theorem tww_697 : (Jvm.Cond.fieldLink "TwoWayLinesModel" (32 : Nat) "TwoWayLinesModel" "type" "[I") ∈ tw_Wg := tw_Wg_of (i := 697) (by decide +kernel) rfl
theorem tww_698 : (Jvm.Cond.fieldLink "TwoWayLinesModel" (35 : Nat) "TwoWayLinesModel" "resolved" "[I") ∈ tw_Wg := tw_Wg_of (i := 698) (by decide +kernel) rfl
theorem tww_699 : (Jvm.Cond.fieldLink "TwoWayLinesModel" (38 : Nat) "TwoWayLinesModel" "partner" "[I") ∈ tw_Wg := tw_Wg_of (i := 699) (by decide +kernel) rfl
theorem tww_700 : (Jvm.Cond.fieldLink "TwoWayLinesModel" (84 : Nat) "TwoWayLinesModel" "top" "I") ∈ tw_Wg := tw_Wg_of (i := 700) (by decide +kernel) rfl
theorem tww_701 : (Jvm.Cond.fieldLink "TwoWayLinesModel" (41 : Nat) "TwoWayLinesModel" "entry" "[I") ∈ tw_Wg := tw_Wg_of (i := 701) (by decide +kernel) rfl
theorem tww_702 : (Jvm.Cond.fieldLink "TwoWayLinesModel" (44 : Nat) "TwoWayLinesModel" "override" "[I") ∈ tw_Wg := tw_Wg_of (i := 702) (by decide +kernel) rfl
theorem tww_703 : (Jvm.Cond.fieldLink "TwoWayLinesModel" (47 : Nat) "TwoWayLinesModel" "isolate" "[Z") ∈ tw_Wg := tw_Wg_of (i := 703) (by decide +kernel) rfl
theorem tww_704 : (Jvm.Cond.fieldLink "TwoWayLinesModel" (87 : Nat) "TwoWayLinesModel" "lostIsolates" "I") ∈ tw_Wg := tw_Wg_of (i := 704) (by decide +kernel) rfl
theorem tww_705 : (Jvm.Cond.fieldLink "TwoWayLinesModel" (90 : Nat) "TwoWayLinesModel" "lostEmbeddings" "I") ∈ tw_Wg := tw_Wg_of (i := 705) (by decide +kernel) rfl
theorem tww_706 : (Jvm.Cond.fieldLink "TwoWayLinesModel" (112 : Nat) "TwoWayLinesModel" "openIsolates" "I") ∈ tw_Wg := tw_Wg_of (i := 706) (by decide +kernel) rfl
theorem tww_707 : (Jvm.Cond.fieldLink "TwoWayLinesModel" (139 : Nat) "TwoWayLinesModel" "n" "I") ∈ tw_Wg := tw_Wg_of (i := 707) (by decide +kernel) rfl
theorem tww_708 : (Jvm.Cond.fieldLink "TwoWayLinesModel" (51 : Nat) "TwoWayLinesModel" "seq" "[I") ∈ tw_Wg := tw_Wg_of (i := 708) (by decide +kernel) rfl
theorem tww_709 : (Jvm.Cond.fieldLink "TwoWayLinesModel" (54 : Nat) "TwoWayLinesModel" "mark" "[Z") ∈ tw_Wg := tw_Wg_of (i := 709) (by decide +kernel) rfl
theorem tww_710 : (Jvm.Cond.fieldLink "TwoWayLinesModel" (160 : Nat) "TwoWayLinesModel" "beginning" "I") ∈ tw_Wg := tw_Wg_of (i := 710) (by decide +kernel) rfl
theorem tww_711 : (Jvm.Cond.fieldLink "TwoWayLinesModel" (163 : Nat) "TwoWayLinesModel" "ending" "I") ∈ tw_Wg := tw_Wg_of (i := 711) (by decide +kernel) rfl
theorem tww_712 : (Jvm.Cond.fieldLink "TwoWayLinesModel" (166 : Nat) "TwoWayLinesModel" "embedding" "I") ∈ tw_Wg := tw_Wg_of (i := 712) (by decide +kernel) rfl
theorem tww_713 : (Jvm.Cond.fieldLink "TwoWayLinesModel" (57 : Nat) "TwoWayLinesModel" "list" "[I") ∈ tw_Wg := tw_Wg_of (i := 713) (by decide +kernel) rfl
theorem tww_714 : (Jvm.Cond.fieldLink "TwoWayLinesModel" (197 : Nat) "TwoWayLinesModel" "lines" "I") ∈ tw_Wg := tw_Wg_of (i := 714) (by decide +kernel) rfl
theorem tww_715 : (Jvm.Cond.fieldLink "TwoWayLinesModel" (60 : Nat) "TwoWayLinesModel" "starts" "[I") ∈ tw_Wg := tw_Wg_of (i := 715) (by decide +kernel) rfl
theorem tww_716 : (Jvm.Cond.fieldLink "TwoWayLinesModel" (63 : Nat) "TwoWayLinesModel" "shownLevels" "[I") ∈ tw_Wg := tw_Wg_of (i := 716) (by decide +kernel) rfl
theorem tww_717 : (Jvm.Cond.fieldLink "TwoWayLinesModel" (66 : Nat) "TwoWayLinesModel" "order" "[I") ∈ tw_Wg := tw_Wg_of (i := 717) (by decide +kernel) rfl
theorem tww_806 : (Jvm.Cond.instanceMethod ({ cls := "TwoWayLinesModel", name := "match", desc := "(I)I" } : Jvm.MethodName)) ∈ tw_Wg := tw_Wg_of (i := 806) (by decide +kernel) rfl
theorem tww_807 : (Jvm.Cond.selects "TwoWayLinesModel" ({ cls := "TwoWayLinesModel", name := "match", desc := "(I)I" } : Jvm.MethodName) ({ cls := "TwoWayLinesModel", name := "match", desc := "(I)I" } : Jvm.MethodName)) ∈ tw_Wg := tw_Wg_of (i := 807) (by decide +kernel) rfl
theorem tww_808 : (Jvm.Cond.code ({ cls := "TwoWayLinesModel", name := "match", desc := "(I)I" } : Jvm.MethodName) prog_11_method_11_code (3 : Nat) (Option.some Jvm.ClassFile.FieldType.int)) ∈ tw_Wg := tw_Wg_of (i := 808) (by decide +kernel) rfl
theorem tww_809 : (Jvm.Cond.methodLink "TwoWayLinesModel" (76 : Nat) ({ cls := "TwoWayLinesModel", name := "opener", desc := "(I)Z" } : Jvm.MethodName)) ∈ tw_Wg := tw_Wg_of (i := 809) (by decide +kernel) rfl
theorem tww_811 : (Jvm.Cond.instanceMethod ({ cls := "TwoWayLinesModel", name := "opener", desc := "(I)Z" } : Jvm.MethodName)) ∈ tw_Wg := tw_Wg_of (i := 811) (by decide +kernel) rfl
theorem tww_812 : (Jvm.Cond.code ({ cls := "TwoWayLinesModel", name := "opener", desc := "(I)Z" } : Jvm.MethodName) prog_11_method_8_code (2 : Nat) (Option.some Jvm.ClassFile.FieldType.boolean)) ∈ tw_Wg := tw_Wg_of (i := 812) (by decide +kernel) rfl
theorem tww_813 : (Jvm.Cond.methodLink "TwoWayLinesModel" (80 : Nat) ({ cls := "TwoWayLinesModel", name := "closing", desc := "(I)I" } : Jvm.MethodName)) ∈ tw_Wg := tw_Wg_of (i := 813) (by decide +kernel) rfl
theorem tww_815 : (Jvm.Cond.instanceMethod ({ cls := "TwoWayLinesModel", name := "closing", desc := "(I)I" } : Jvm.MethodName)) ∈ tw_Wg := tw_Wg_of (i := 815) (by decide +kernel) rfl
theorem tww_816 : (Jvm.Cond.code ({ cls := "TwoWayLinesModel", name := "closing", desc := "(I)I" } : Jvm.MethodName) prog_11_method_10_code (4 : Nat) (Option.some Jvm.ClassFile.FieldType.int)) ∈ tw_Wg := tw_Wg_of (i := 816) (by decide +kernel) rfl
theorem tww_818 : (Jvm.Cond.instanceMethod ({ cls := "TwoWayLinesModel", name := "mayBreak", desc := "(I)Z" } : Jvm.MethodName)) ∈ tw_Wg := tw_Wg_of (i := 818) (by decide +kernel) rfl
theorem tww_819 : (Jvm.Cond.selects "TwoWayLinesModel" ({ cls := "TwoWayLinesModel", name := "mayBreak", desc := "(I)Z" } : Jvm.MethodName) ({ cls := "TwoWayLinesModel", name := "mayBreak", desc := "(I)Z" } : Jvm.MethodName)) ∈ tw_Wg := tw_Wg_of (i := 819) (by decide +kernel) rfl
theorem tww_820 : (Jvm.Cond.code ({ cls := "TwoWayLinesModel", name := "mayBreak", desc := "(I)Z" } : Jvm.MethodName) prog_11_method_38_code (5 : Nat) (Option.some Jvm.ClassFile.FieldType.boolean)) ∈ tw_Wg := tw_Wg_of (i := 820) (by decide +kernel) rfl
theorem tww_821 : (Jvm.Cond.methodLink "TwoWayLinesModel" (188 : Nat) ({ cls := "TwoWayLinesModel", name := "groupOf", desc := "(I)I" } : Jvm.MethodName)) ∈ tw_Wg := tw_Wg_of (i := 821) (by decide +kernel) rfl
theorem tww_823 : (Jvm.Cond.instanceMethod ({ cls := "TwoWayLinesModel", name := "groupOf", desc := "(I)I" } : Jvm.MethodName)) ∈ tw_Wg := tw_Wg_of (i := 823) (by decide +kernel) rfl
theorem tww_824 : (Jvm.Cond.code ({ cls := "TwoWayLinesModel", name := "groupOf", desc := "(I)I" } : Jvm.MethodName) prog_11_method_37_code (3 : Nat) (Option.some Jvm.ClassFile.FieldType.int)) ∈ tw_Wg := tw_Wg_of (i := 824) (by decide +kernel) rfl
theorem tww_829 : (Jvm.Cond.methodLink "TwoWayLinesModel" (221 : Nat) ({ cls := "TwoWayLinesModel", name := "work", desc := "()V" } : Jvm.MethodName)) ∈ tw_Wg := tw_Wg_of (i := 829) (by decide +kernel) rfl
theorem tww_831 : (Jvm.Cond.instanceMethod ({ cls := "TwoWayLinesModel", name := "work", desc := "()V" } : Jvm.MethodName)) ∈ tw_Wg := tw_Wg_of (i := 831) (by decide +kernel) rfl
theorem tww_832 : (Jvm.Cond.code ({ cls := "TwoWayLinesModel", name := "work", desc := "()V" } : Jvm.MethodName) prog_11_method_44_code (1 : Nat) (Option.none : Option Jvm.ClassFile.FieldType)) ∈ tw_Wg := tw_Wg_of (i := 832) (by decide +kernel) rfl
theorem tww_833 : (Jvm.Cond.methodLink "TwoWayLinesModel" (209 : Nat) ({ cls := "TwoWayLinesModel", name := "explicit", desc := "()V" } : Jvm.MethodName)) ∈ tw_Wg := tw_Wg_of (i := 833) (by decide +kernel) rfl
theorem tww_835 : (Jvm.Cond.instanceMethod ({ cls := "TwoWayLinesModel", name := "explicit", desc := "()V" } : Jvm.MethodName)) ∈ tw_Wg := tw_Wg_of (i := 835) (by decide +kernel) rfl
theorem tww_836 : (Jvm.Cond.code ({ cls := "TwoWayLinesModel", name := "explicit", desc := "()V" } : Jvm.MethodName) prog_11_method_21_code (3 : Nat) (Option.none : Option Jvm.ClassFile.FieldType)) ∈ tw_Wg := tw_Wg_of (i := 836) (by decide +kernel) rfl
theorem tww_837 : (Jvm.Cond.methodLink "TwoWayLinesModel" (108 : Nat) ({ cls := "TwoWayLinesModel", name := "direction", desc := "(II)I" } : Jvm.MethodName)) ∈ tw_Wg := tw_Wg_of (i := 837) (by decide +kernel) rfl
theorem tww_839 : (Jvm.Cond.instanceMethod ({ cls := "TwoWayLinesModel", name := "direction", desc := "(II)I" } : Jvm.MethodName)) ∈ tw_Wg := tw_Wg_of (i := 839) (by decide +kernel) rfl
theorem tww_840 : (Jvm.Cond.code ({ cls := "TwoWayLinesModel", name := "direction", desc := "(II)I" } : Jvm.MethodName) prog_11_method_12_code (5 : Nat) (Option.some Jvm.ClassFile.FieldType.int)) ∈ tw_Wg := tw_Wg_of (i := 840) (by decide +kernel) rfl
theorem tww_841 : (Jvm.Cond.methodLink "TwoWayLinesModel" (100 : Nat) ({ cls := "TwoWayLinesModel", name := "put", desc := "(IIZ)V" } : Jvm.MethodName)) ∈ tw_Wg := tw_Wg_of (i := 841) (by decide +kernel) rfl
theorem tww_843 : (Jvm.Cond.instanceMethod ({ cls := "TwoWayLinesModel", name := "put", desc := "(IIZ)V" } : Jvm.MethodName)) ∈ tw_Wg := tw_Wg_of (i := 843) (by decide +kernel) rfl
theorem tww_844 : (Jvm.Cond.code ({ cls := "TwoWayLinesModel", name := "put", desc := "(IIZ)V" } : Jvm.MethodName) prog_11_method_13_code (4 : Nat) (Option.none : Option Jvm.ClassFile.FieldType)) ∈ tw_Wg := tw_Wg_of (i := 844) (by decide +kernel) rfl
theorem tww_845 : (Jvm.Cond.methodLink "TwoWayLinesModel" (118 : Nat) ({ cls := "TwoWayLinesModel", name := "embed", desc := "(I)V" } : Jvm.MethodName)) ∈ tw_Wg := tw_Wg_of (i := 845) (by decide +kernel) rfl
theorem tww_847 : (Jvm.Cond.instanceMethod ({ cls := "TwoWayLinesModel", name := "embed", desc := "(I)V" } : Jvm.MethodName)) ∈ tw_Wg := tw_Wg_of (i := 847) (by decide +kernel) rfl
theorem tww_848 : (Jvm.Cond.code ({ cls := "TwoWayLinesModel", name := "embed", desc := "(I)V" } : Jvm.MethodName) prog_11_method_17_code (3 : Nat) (Option.none : Option Jvm.ClassFile.FieldType)) ∈ tw_Wg := tw_Wg_of (i := 848) (by decide +kernel) rfl
theorem tww_849 : (Jvm.Cond.methodLink "TwoWayLinesModel" (93 : Nat) ({ cls := "TwoWayLinesModel", name := "next", desc := "(Z)I" } : Jvm.MethodName)) ∈ tw_Wg := tw_Wg_of (i := 849) (by decide +kernel) rfl
theorem tww_851 : (Jvm.Cond.instanceMethod ({ cls := "TwoWayLinesModel", name := "next", desc := "(Z)I" } : Jvm.MethodName)) ∈ tw_Wg := tw_Wg_of (i := 851) (by decide +kernel) rfl
theorem tww_852 : (Jvm.Cond.code ({ cls := "TwoWayLinesModel", name := "next", desc := "(Z)I" } : Jvm.MethodName) prog_11_method_14_code (3 : Nat) (Option.some Jvm.ClassFile.FieldType.int)) ∈ tw_Wg := tw_Wg_of (i := 852) (by decide +kernel) rfl
theorem tww_853 : (Jvm.Cond.methodLink "TwoWayLinesModel" (97 : Nat) ({ cls := "TwoWayLinesModel", name := "fits", desc := "(I)Z" } : Jvm.MethodName)) ∈ tw_Wg := tw_Wg_of (i := 853) (by decide +kernel) rfl
theorem tww_855 : (Jvm.Cond.instanceMethod ({ cls := "TwoWayLinesModel", name := "fits", desc := "(I)Z" } : Jvm.MethodName)) ∈ tw_Wg := tw_Wg_of (i := 855) (by decide +kernel) rfl
theorem tww_856 : (Jvm.Cond.code ({ cls := "TwoWayLinesModel", name := "fits", desc := "(I)Z" } : Jvm.MethodName) prog_11_method_15_code (2 : Nat) (Option.some Jvm.ClassFile.FieldType.boolean)) ∈ tw_Wg := tw_Wg_of (i := 856) (by decide +kernel) rfl
theorem tww_857 : (Jvm.Cond.methodLink "TwoWayLinesModel" (121 : Nat) ({ cls := "TwoWayLinesModel", name := "pop", desc := "()V" } : Jvm.MethodName)) ∈ tw_Wg := tw_Wg_of (i := 857) (by decide +kernel) rfl
theorem tww_859 : (Jvm.Cond.instanceMethod ({ cls := "TwoWayLinesModel", name := "pop", desc := "()V" } : Jvm.MethodName)) ∈ tw_Wg := tw_Wg_of (i := 859) (by decide +kernel) rfl
theorem tww_860 : (Jvm.Cond.code ({ cls := "TwoWayLinesModel", name := "pop", desc := "()V" } : Jvm.MethodName) prog_11_method_20_code (1 : Nat) (Option.none : Option Jvm.ClassFile.FieldType)) ∈ tw_Wg := tw_Wg_of (i := 860) (by decide +kernel) rfl
theorem tww_861 : (Jvm.Cond.methodLink "TwoWayLinesModel" (124 : Nat) ({ cls := "TwoWayLinesModel", name := "isolateAt", desc := "(I)V" } : Jvm.MethodName)) ∈ tw_Wg := tw_Wg_of (i := 861) (by decide +kernel) rfl
theorem tww_863 : (Jvm.Cond.instanceMethod ({ cls := "TwoWayLinesModel", name := "isolateAt", desc := "(I)V" } : Jvm.MethodName)) ∈ tw_Wg := tw_Wg_of (i := 863) (by decide +kernel) rfl
theorem tww_864 : (Jvm.Cond.code ({ cls := "TwoWayLinesModel", name := "isolateAt", desc := "(I)V" } : Jvm.MethodName) prog_11_method_18_code (5 : Nat) (Option.none : Option Jvm.ClassFile.FieldType)) ∈ tw_Wg := tw_Wg_of (i := 864) (by decide +kernel) rfl
theorem tww_865 : (Jvm.Cond.methodLink "TwoWayLinesModel" (104 : Nat) ({ cls := "TwoWayLinesModel", name := "settle", desc := "(I)V" } : Jvm.MethodName)) ∈ tw_Wg := tw_Wg_of (i := 865) (by decide +kernel) rfl
theorem tww_867 : (Jvm.Cond.instanceMethod ({ cls := "TwoWayLinesModel", name := "settle", desc := "(I)V" } : Jvm.MethodName)) ∈ tw_Wg := tw_Wg_of (i := 867) (by decide +kernel) rfl
theorem tww_868 : (Jvm.Cond.code ({ cls := "TwoWayLinesModel", name := "settle", desc := "(I)V" } : Jvm.MethodName) prog_11_method_16_code (2 : Nat) (Option.none : Option Jvm.ClassFile.FieldType)) ∈ tw_Wg := tw_Wg_of (i := 868) (by decide +kernel) rfl
theorem tww_869 : (Jvm.Cond.methodLink "TwoWayLinesModel" (127 : Nat) ({ cls := "TwoWayLinesModel", name := "leave", desc := "(I)V" } : Jvm.MethodName)) ∈ tw_Wg := tw_Wg_of (i := 869) (by decide +kernel) rfl
theorem tww_871 : (Jvm.Cond.instanceMethod ({ cls := "TwoWayLinesModel", name := "leave", desc := "(I)V" } : Jvm.MethodName)) ∈ tw_Wg := tw_Wg_of (i := 871) (by decide +kernel) rfl
theorem tww_872 : (Jvm.Cond.code ({ cls := "TwoWayLinesModel", name := "leave", desc := "(I)V" } : Jvm.MethodName) prog_11_method_19_code (2 : Nat) (Option.none : Option Jvm.ClassFile.FieldType)) ∈ tw_Wg := tw_Wg_of (i := 872) (by decide +kernel) rfl
theorem tww_873 : (Jvm.Cond.methodLink "TwoWayLinesModel" (212 : Nat) ({ cls := "TwoWayLinesModel", name := "sequences", desc := "()V" } : Jvm.MethodName)) ∈ tw_Wg := tw_Wg_of (i := 873) (by decide +kernel) rfl
theorem tww_875 : (Jvm.Cond.instanceMethod ({ cls := "TwoWayLinesModel", name := "sequences", desc := "()V" } : Jvm.MethodName)) ∈ tw_Wg := tw_Wg_of (i := 875) (by decide +kernel) rfl
theorem tww_876 : (Jvm.Cond.code ({ cls := "TwoWayLinesModel", name := "sequences", desc := "()V" } : Jvm.MethodName) prog_11_method_25_code (4 : Nat) (Option.none : Option Jvm.ClassFile.FieldType)) ∈ tw_Wg := tw_Wg_of (i := 876) (by decide +kernel) rfl
theorem tww_877 : (Jvm.Cond.methodLink "TwoWayLinesModel" (130 : Nat) ({ cls := "TwoWayLinesModel", name := "hidden", desc := "(I)Z" } : Jvm.MethodName)) ∈ tw_Wg := tw_Wg_of (i := 877) (by decide +kernel) rfl
theorem tww_879 : (Jvm.Cond.instanceMethod ({ cls := "TwoWayLinesModel", name := "hidden", desc := "(I)Z" } : Jvm.MethodName)) ∈ tw_Wg := tw_Wg_of (i := 879) (by decide +kernel) rfl
theorem tww_880 : (Jvm.Cond.code ({ cls := "TwoWayLinesModel", name := "hidden", desc := "(I)Z" } : Jvm.MethodName) prog_11_method_9_code (2 : Nat) (Option.some Jvm.ClassFile.FieldType.boolean)) ∈ tw_Wg := tw_Wg_of (i := 880) (by decide +kernel) rfl
theorem tww_881 : (Jvm.Cond.methodLink "TwoWayLinesModel" (136 : Nat) ({ cls := "TwoWayLinesModel", name := "beginsRun", desc := "(I)Z" } : Jvm.MethodName)) ∈ tw_Wg := tw_Wg_of (i := 881) (by decide +kernel) rfl
theorem tww_883 : (Jvm.Cond.instanceMethod ({ cls := "TwoWayLinesModel", name := "beginsRun", desc := "(I)Z" } : Jvm.MethodName)) ∈ tw_Wg := tw_Wg_of (i := 883) (by decide +kernel) rfl
theorem tww_884 : (Jvm.Cond.code ({ cls := "TwoWayLinesModel", name := "beginsRun", desc := "(I)Z" } : Jvm.MethodName) prog_11_method_23_code (3 : Nat) (Option.some Jvm.ClassFile.FieldType.boolean)) ∈ tw_Wg := tw_Wg_of (i := 884) (by decide +kernel) rfl
theorem tww_885 : (Jvm.Cond.methodLink "TwoWayLinesModel" (133 : Nat) ({ cls := "TwoWayLinesModel", name := "seen", desc := "(II)I" } : Jvm.MethodName)) ∈ tw_Wg := tw_Wg_of (i := 885) (by decide +kernel) rfl
theorem tww_887 : (Jvm.Cond.instanceMethod ({ cls := "TwoWayLinesModel", name := "seen", desc := "(II)I" } : Jvm.MethodName)) ∈ tw_Wg := tw_Wg_of (i := 887) (by decide +kernel) rfl
theorem tww_888 : (Jvm.Cond.code ({ cls := "TwoWayLinesModel", name := "seen", desc := "(II)I" } : Jvm.MethodName) prog_11_method_22_code (4 : Nat) (Option.some Jvm.ClassFile.FieldType.int)) ∈ tw_Wg := tw_Wg_of (i := 888) (by decide +kernel) rfl
theorem tww_889 : (Jvm.Cond.methodLink "TwoWayLinesModel" (142 : Nat) ({ cls := "TwoWayLinesModel", name := "match", desc := "(I)I" } : Jvm.MethodName)) ∈ tw_Wg := tw_Wg_of (i := 889) (by decide +kernel) rfl
theorem tww_890 : (Jvm.Cond.methodLink "TwoWayLinesModel" (145 : Nat) ({ cls := "TwoWayLinesModel", name := "addRun", desc := "(I)V" } : Jvm.MethodName)) ∈ tw_Wg := tw_Wg_of (i := 890) (by decide +kernel) rfl
theorem tww_892 : (Jvm.Cond.instanceMethod ({ cls := "TwoWayLinesModel", name := "addRun", desc := "(I)V" } : Jvm.MethodName)) ∈ tw_Wg := tw_Wg_of (i := 892) (by decide +kernel) rfl
theorem tww_893 : (Jvm.Cond.code ({ cls := "TwoWayLinesModel", name := "addRun", desc := "(I)V" } : Jvm.MethodName) prog_11_method_24_code (4 : Nat) (Option.none : Option Jvm.ClassFile.FieldType)) ∈ tw_Wg := tw_Wg_of (i := 893) (by decide +kernel) rfl
theorem tww_894 : (Jvm.Cond.methodLink "TwoWayLinesModel" (148 : Nat) ({ cls := "TwoWayLinesModel", name := "bounds", desc := "()V" } : Jvm.MethodName)) ∈ tw_Wg := tw_Wg_of (i := 894) (by decide +kernel) rfl
theorem tww_896 : (Jvm.Cond.instanceMethod ({ cls := "TwoWayLinesModel", name := "bounds", desc := "()V" } : Jvm.MethodName)) ∈ tw_Wg := tw_Wg_of (i := 896) (by decide +kernel) rfl
theorem tww_897 : (Jvm.Cond.code ({ cls := "TwoWayLinesModel", name := "bounds", desc := "()V" } : Jvm.MethodName) prog_11_method_26_code (7 : Nat) (Option.none : Option Jvm.ClassFile.FieldType)) ∈ tw_Wg := tw_Wg_of (i := 897) (by decide +kernel) rfl
theorem tww_898 : (Jvm.Cond.methodLink "TwoWayLinesModel" (151 : Nat) ({ cls := "TwoWayLinesModel", name := "weak", desc := "()V" } : Jvm.MethodName)) ∈ tw_Wg := tw_Wg_of (i := 898) (by decide +kernel) rfl
theorem tww_900 : (Jvm.Cond.instanceMethod ({ cls := "TwoWayLinesModel", name := "weak", desc := "()V" } : Jvm.MethodName)) ∈ tw_Wg := tw_Wg_of (i := 900) (by decide +kernel) rfl
theorem tww_901 : (Jvm.Cond.code ({ cls := "TwoWayLinesModel", name := "weak", desc := "()V" } : Jvm.MethodName) prog_11_method_29_code (4 : Nat) (Option.none : Option Jvm.ClassFile.FieldType)) ∈ tw_Wg := tw_Wg_of (i := 901) (by decide +kernel) rfl
theorem tww_902 : (Jvm.Cond.methodLink "TwoWayLinesModel" (169 : Nat) ({ cls := "TwoWayLinesModel", name := "at", desc := "(I)I" } : Jvm.MethodName)) ∈ tw_Wg := tw_Wg_of (i := 902) (by decide +kernel) rfl
theorem tww_904 : (Jvm.Cond.instanceMethod ({ cls := "TwoWayLinesModel", name := "at", desc := "(I)I" } : Jvm.MethodName)) ∈ tw_Wg := tw_Wg_of (i := 904) (by decide +kernel) rfl
theorem tww_905 : (Jvm.Cond.code ({ cls := "TwoWayLinesModel", name := "at", desc := "(I)I" } : Jvm.MethodName) prog_11_method_27_code (2 : Nat) (Option.some Jvm.ClassFile.FieldType.int)) ∈ tw_Wg := tw_Wg_of (i := 905) (by decide +kernel) rfl
theorem tww_906 : (Jvm.Cond.methodLink "TwoWayLinesModel" (172 : Nat) ({ cls := "TwoWayLinesModel", name := "set", desc := "(II)V" } : Jvm.MethodName)) ∈ tw_Wg := tw_Wg_of (i := 906) (by decide +kernel) rfl
theorem tww_908 : (Jvm.Cond.instanceMethod ({ cls := "TwoWayLinesModel", name := "set", desc := "(II)V" } : Jvm.MethodName)) ∈ tw_Wg := tw_Wg_of (i := 908) (by decide +kernel) rfl
theorem tww_909 : (Jvm.Cond.code ({ cls := "TwoWayLinesModel", name := "set", desc := "(II)V" } : Jvm.MethodName) prog_11_method_28_code (3 : Nat) (Option.none : Option Jvm.ClassFile.FieldType)) ∈ tw_Wg := tw_Wg_of (i := 909) (by decide +kernel) rfl
theorem tww_910 : (Jvm.Cond.methodLink "TwoWayLinesModel" (176 : Nat) ({ cls := "TwoWayLinesModel", name := "terminators", desc := "()V" } : Jvm.MethodName)) ∈ tw_Wg := tw_Wg_of (i := 910) (by decide +kernel) rfl
theorem tww_912 : (Jvm.Cond.instanceMethod ({ cls := "TwoWayLinesModel", name := "terminators", desc := "()V" } : Jvm.MethodName)) ∈ tw_Wg := tw_Wg_of (i := 912) (by decide +kernel) rfl
theorem tww_913 : (Jvm.Cond.code ({ cls := "TwoWayLinesModel", name := "terminators", desc := "()V" } : Jvm.MethodName) prog_11_method_30_code (5 : Nat) (Option.none : Option Jvm.ClassFile.FieldType)) ∈ tw_Wg := tw_Wg_of (i := 913) (by decide +kernel) rfl
theorem tww_914 : (Jvm.Cond.methodLink "TwoWayLinesModel" (154 : Nat) ({ cls := "TwoWayLinesModel", name := "brackets", desc := "()V" } : Jvm.MethodName)) ∈ tw_Wg := tw_Wg_of (i := 914) (by decide +kernel) rfl
theorem tww_916 : (Jvm.Cond.instanceMethod ({ cls := "TwoWayLinesModel", name := "brackets", desc := "()V" } : Jvm.MethodName)) ∈ tw_Wg := tw_Wg_of (i := 916) (by decide +kernel) rfl
theorem tww_917 : (Jvm.Cond.code ({ cls := "TwoWayLinesModel", name := "brackets", desc := "()V" } : Jvm.MethodName) prog_11_method_32_code (5 : Nat) (Option.none : Option Jvm.ClassFile.FieldType)) ∈ tw_Wg := tw_Wg_of (i := 917) (by decide +kernel) rfl
theorem tww_918 : (Jvm.Cond.methodLink "TwoWayLinesModel" (179 : Nat) ({ cls := "TwoWayLinesModel", name := "enclose", desc := "(II)V" } : Jvm.MethodName)) ∈ tw_Wg := tw_Wg_of (i := 918) (by decide +kernel) rfl
theorem tww_920 : (Jvm.Cond.instanceMethod ({ cls := "TwoWayLinesModel", name := "enclose", desc := "(II)V" } : Jvm.MethodName)) ∈ tw_Wg := tw_Wg_of (i := 920) (by decide +kernel) rfl
theorem tww_921 : (Jvm.Cond.code ({ cls := "TwoWayLinesModel", name := "enclose", desc := "(II)V" } : Jvm.MethodName) prog_11_method_33_code (7 : Nat) (Option.none : Option Jvm.ClassFile.FieldType)) ∈ tw_Wg := tw_Wg_of (i := 921) (by decide +kernel) rfl
theorem tww_922 : (Jvm.Cond.methodLink "TwoWayLinesModel" (182 : Nat) ({ cls := "TwoWayLinesModel", name := "strong", desc := "(I)I" } : Jvm.MethodName)) ∈ tw_Wg := tw_Wg_of (i := 922) (by decide +kernel) rfl
theorem tww_924 : (Jvm.Cond.instanceMethod ({ cls := "TwoWayLinesModel", name := "strong", desc := "(I)I" } : Jvm.MethodName)) ∈ tw_Wg := tw_Wg_of (i := 924) (by decide +kernel) rfl
theorem tww_925 : (Jvm.Cond.code ({ cls := "TwoWayLinesModel", name := "strong", desc := "(I)I" } : Jvm.MethodName) prog_11_method_31_code (3 : Nat) (Option.some Jvm.ClassFile.FieldType.int)) ∈ tw_Wg := tw_Wg_of (i := 925) (by decide +kernel) rfl
theorem tww_926 : (Jvm.Cond.methodLink "TwoWayLinesModel" (185 : Nat) ({ cls := "TwoWayLinesModel", name := "give", desc := "(II)V" } : Jvm.MethodName)) ∈ tw_Wg := tw_Wg_of (i := 926) (by decide +kernel) rfl
theorem tww_928 : (Jvm.Cond.instanceMethod ({ cls := "TwoWayLinesModel", name := "give", desc := "(II)V" } : Jvm.MethodName)) ∈ tw_Wg := tw_Wg_of (i := 928) (by decide +kernel) rfl
theorem tww_929 : (Jvm.Cond.code ({ cls := "TwoWayLinesModel", name := "give", desc := "(II)V" } : Jvm.MethodName) prog_11_method_34_code (4 : Nat) (Option.none : Option Jvm.ClassFile.FieldType)) ∈ tw_Wg := tw_Wg_of (i := 929) (by decide +kernel) rfl
theorem tww_930 : (Jvm.Cond.methodLink "TwoWayLinesModel" (157 : Nat) ({ cls := "TwoWayLinesModel", name := "neutral", desc := "()V" } : Jvm.MethodName)) ∈ tw_Wg := tw_Wg_of (i := 930) (by decide +kernel) rfl
theorem tww_932 : (Jvm.Cond.instanceMethod ({ cls := "TwoWayLinesModel", name := "neutral", desc := "()V" } : Jvm.MethodName)) ∈ tw_Wg := tw_Wg_of (i := 932) (by decide +kernel) rfl
theorem tww_933 : (Jvm.Cond.code ({ cls := "TwoWayLinesModel", name := "neutral", desc := "()V" } : Jvm.MethodName) prog_11_method_35_code (6 : Nat) (Option.none : Option Jvm.ClassFile.FieldType)) ∈ tw_Wg := tw_Wg_of (i := 933) (by decide +kernel) rfl
theorem tww_934 : (Jvm.Cond.methodLink "TwoWayLinesModel" (215 : Nat) ({ cls := "TwoWayLinesModel", name := "resolve", desc := "()V" } : Jvm.MethodName)) ∈ tw_Wg := tw_Wg_of (i := 934) (by decide +kernel) rfl
theorem tww_936 : (Jvm.Cond.instanceMethod ({ cls := "TwoWayLinesModel", name := "resolve", desc := "()V" } : Jvm.MethodName)) ∈ tw_Wg := tw_Wg_of (i := 936) (by decide +kernel) rfl
theorem tww_937 : (Jvm.Cond.code ({ cls := "TwoWayLinesModel", name := "resolve", desc := "()V" } : Jvm.MethodName) prog_11_method_36_code (5 : Nat) (Option.none : Option Jvm.ClassFile.FieldType)) ∈ tw_Wg := tw_Wg_of (i := 937) (by decide +kernel) rfl
theorem tww_938 : (Jvm.Cond.methodLink "TwoWayLinesModel" (218 : Nat) ({ cls := "TwoWayLinesModel", name := "fill", desc := "()V" } : Jvm.MethodName)) ∈ tw_Wg := tw_Wg_of (i := 938) (by decide +kernel) rfl
theorem tww_940 : (Jvm.Cond.instanceMethod ({ cls := "TwoWayLinesModel", name := "fill", desc := "()V" } : Jvm.MethodName)) ∈ tw_Wg := tw_Wg_of (i := 940) (by decide +kernel) rfl
theorem tww_941 : (Jvm.Cond.code ({ cls := "TwoWayLinesModel", name := "fill", desc := "()V" } : Jvm.MethodName) prog_11_method_41_code (3 : Nat) (Option.none : Option Jvm.ClassFile.FieldType)) ∈ tw_Wg := tw_Wg_of (i := 941) (by decide +kernel) rfl
theorem tww_942 : (Jvm.Cond.methodLink "TwoWayLinesModel" (200 : Nat) ({ cls := "TwoWayLinesModel", name := "endOf", desc := "(I)I" } : Jvm.MethodName)) ∈ tw_Wg := tw_Wg_of (i := 942) (by decide +kernel) rfl
theorem tww_944 : (Jvm.Cond.instanceMethod ({ cls := "TwoWayLinesModel", name := "endOf", desc := "(I)I" } : Jvm.MethodName)) ∈ tw_Wg := tw_Wg_of (i := 944) (by decide +kernel) rfl
theorem tww_945 : (Jvm.Cond.code ({ cls := "TwoWayLinesModel", name := "endOf", desc := "(I)I" } : Jvm.MethodName) prog_11_method_40_code (4 : Nat) (Option.some Jvm.ClassFile.FieldType.int)) ∈ tw_Wg := tw_Wg_of (i := 945) (by decide +kernel) rfl
theorem tww_946 : (Jvm.Cond.methodLink "TwoWayLinesModel" (191 : Nat) ({ cls := "TwoWayLinesModel", name := "mayBreak", desc := "(I)Z" } : Jvm.MethodName)) ∈ tw_Wg := tw_Wg_of (i := 946) (by decide +kernel) rfl
theorem tww_947 : (Jvm.Cond.methodLink "TwoWayLinesModel" (194 : Nat) ({ cls := "TwoWayLinesModel", name := "extentOf", desc := "(II)I" } : Jvm.MethodName)) ∈ tw_Wg := tw_Wg_of (i := 947) (by decide +kernel) rfl
theorem tww_949 : (Jvm.Cond.instanceMethod ({ cls := "TwoWayLinesModel", name := "extentOf", desc := "(II)I" } : Jvm.MethodName)) ∈ tw_Wg := tw_Wg_of (i := 949) (by decide +kernel) rfl
theorem tww_950 : (Jvm.Cond.code ({ cls := "TwoWayLinesModel", name := "extentOf", desc := "(II)I" } : Jvm.MethodName) prog_11_method_39_code (6 : Nat) (Option.some Jvm.ClassFile.FieldType.int)) ∈ tw_Wg := tw_Wg_of (i := 950) (by decide +kernel) rfl
theorem tww_951 : (Jvm.Cond.methodLink "TwoWayLinesModel" (203 : Nat) ({ cls := "TwoWayLinesModel", name := "showLine", desc := "(II)V" } : Jvm.MethodName)) ∈ tw_Wg := tw_Wg_of (i := 951) (by decide +kernel) rfl
theorem tww_953 : (Jvm.Cond.instanceMethod ({ cls := "TwoWayLinesModel", name := "showLine", desc := "(II)V" } : Jvm.MethodName)) ∈ tw_Wg := tw_Wg_of (i := 953) (by decide +kernel) rfl
theorem tww_954 : (Jvm.Cond.code ({ cls := "TwoWayLinesModel", name := "showLine", desc := "(II)V" } : Jvm.MethodName) prog_11_method_43_code (7 : Nat) (Option.none : Option Jvm.ClassFile.FieldType)) ∈ tw_Wg := tw_Wg_of (i := 954) (by decide +kernel) rfl
theorem tww_955 : (Jvm.Cond.methodLink "TwoWayLinesModel" (206 : Nat) ({ cls := "TwoWayLinesModel", name := "turn", desc := "(II)V" } : Jvm.MethodName)) ∈ tw_Wg := tw_Wg_of (i := 955) (by decide +kernel) rfl
theorem tww_957 : (Jvm.Cond.instanceMethod ({ cls := "TwoWayLinesModel", name := "turn", desc := "(II)V" } : Jvm.MethodName)) ∈ tw_Wg := tw_Wg_of (i := 957) (by decide +kernel) rfl
theorem tww_958 : (Jvm.Cond.code ({ cls := "TwoWayLinesModel", name := "turn", desc := "(II)V" } : Jvm.MethodName) prog_11_method_42_code (6 : Nat) (Option.none : Option Jvm.ClassFile.FieldType)) ∈ tw_Wg := tw_Wg_of (i := 958) (by decide +kernel) rfl
theorem tww_963 : (Jvm.Cond.methodLink "TwoWayLinesModel" (224 : Nat) ({ cls := "TwoWayLinesModel", name := "is", desc := "(I)Z" } : Jvm.MethodName)) ∈ tw_Wg := tw_Wg_of (i := 963) (by decide +kernel) rfl
theorem tww_965 : (Jvm.Cond.instanceMethod ({ cls := "TwoWayLinesModel", name := "is", desc := "(I)Z" } : Jvm.MethodName)) ∈ tw_Wg := tw_Wg_of (i := 965) (by decide +kernel) rfl
theorem tww_966 : (Jvm.Cond.code ({ cls := "TwoWayLinesModel", name := "is", desc := "(I)Z" } : Jvm.MethodName) prog_11_method_45_code (2 : Nat) (Option.some Jvm.ClassFile.FieldType.boolean)) ∈ tw_Wg := tw_Wg_of (i := 966) (by decide +kernel) rfl
set_option maxRecDepth 20000 in
theorem twin_tl : ∀ w ∈ u_ws twR_tl twT_tl 6, w ∈ tw_Wg := by
  have h : u_ws twR_tl twT_tl 6 = [332, 334, 336, 338, 340, 342].filterMap (fun i => lw_tbl[i]?) := by decide +kernel
  have g : (u_ws twR_tl twT_tl 6).all goodWord = true := by decide +kernel
  intro w hw
  refine List.mem_filter.mpr ⟨?_, List.all_eq_true.mp g w hw⟩
  rw [h] at hw
  obtain ⟨i, -, hi⟩ := List.mem_filterMap.mp hw
  exact List.mem_of_getElem? hi
set_option maxRecDepth 20000 in
theorem twin_pa : ∀ w ∈ u_ws twR_pa twT_pa 6, w ∈ tw_Wg := by
  have h : u_ws twR_pa twT_pa 6 = [124, 126, 128, 130, 132, 134].filterMap (fun i => lw_tbl[i]?) := by decide +kernel
  have g : (u_ws twR_pa twT_pa 6).all goodWord = true := by decide +kernel
  intro w hw
  refine List.mem_filter.mpr ⟨?_, List.all_eq_true.mp g w hw⟩
  rw [h] at hw
  obtain ⟨i, -, hi⟩ := List.mem_filterMap.mp hw
  exact List.mem_of_getElem? hi
set_option maxRecDepth 20000 in
theorem twin_le : ∀ w ∈ u_ws twR_le twT_le 8, w ∈ tw_Wg := by
  have h : u_ws twR_le twT_le 8 = [266, 268, 270, 272, 274, 276, 278, 280].filterMap (fun i => lw_tbl[i]?) := by decide +kernel
  have g : (u_ws twR_le twT_le 8).all goodWord = true := by decide +kernel
  intro w hw
  refine List.mem_filter.mpr ⟨?_, List.all_eq_true.mp g w hw⟩
  rw [h] at hw
  obtain ⟨i, -, hi⟩ := List.mem_filterMap.mp hw
  exact List.mem_of_getElem? hi
set_option maxRecDepth 20000 in
theorem twin_ma : ∀ w ∈ u_ws twR_ma twT_ma 2, w ∈ tw_Wg := by
  have h : u_ws twR_ma twT_ma 2 = [155, 157].filterMap (fun i => lw_tbl[i]?) := by decide +kernel
  have g : (u_ws twR_ma twT_ma 2).all goodWord = true := by decide +kernel
  intro w hw
  refine List.mem_filter.mpr ⟨?_, List.all_eq_true.mp g w hw⟩
  rw [h] at hw
  obtain ⟨i, -, hi⟩ := List.mem_filterMap.mp hw
  exact List.mem_of_getElem? hi
set_option maxRecDepth 20000 in
theorem twin_ex : ∀ w ∈ u_ws twR_ex twT_ex 9, w ∈ tw_Wg := by
  have h : u_ws twR_ex twT_ex 9 = [177, 179, 181, 183, 185, 187, 189, 191, 193].filterMap (fun i => lw_tbl[i]?) := by decide +kernel
  have g : (u_ws twR_ex twT_ex 9).all goodWord = true := by decide +kernel
  intro w hw
  refine List.mem_filter.mpr ⟨?_, List.all_eq_true.mp g w hw⟩
  rw [h] at hw
  obtain ⟨i, -, hi⟩ := List.mem_filterMap.mp hw
  exact List.mem_of_getElem? hi
set_option maxRecDepth 20000 in
theorem twin_se : ∀ w ∈ u_ws twR_se twT_se 7, w ∈ tw_Wg := by
  have h : u_ws twR_se twT_se 7 = [222, 224, 226, 228, 230, 232, 234].filterMap (fun i => lw_tbl[i]?) := by decide +kernel
  have g : (u_ws twR_se twT_se 7).all goodWord = true := by decide +kernel
  intro w hw
  refine List.mem_filter.mpr ⟨?_, List.all_eq_true.mp g w hw⟩
  rw [h] at hw
  obtain ⟨i, -, hi⟩ := List.mem_filterMap.mp hw
  exact List.mem_of_getElem? hi
set_option maxRecDepth 20000 in
theorem twin_br : ∀ w ∈ u_ws twR_br twT_br 2, w ∈ tw_Wg := by
  have h : u_ws twR_br twT_br 2 = [246, 248].filterMap (fun i => lw_tbl[i]?) := by decide +kernel
  have g : (u_ws twR_br twT_br 2).all goodWord = true := by decide +kernel
  intro w hw
  refine List.mem_filter.mpr ⟨?_, List.all_eq_true.mp g w hw⟩
  rw [h] at hw
  obtain ⟨i, -, hi⟩ := List.mem_filterMap.mp hw
  exact List.mem_of_getElem? hi
set_option maxRecDepth 20000 in
theorem twin_fi : ∀ w ∈ u_ws twR_fi twT_fi 5, w ∈ tw_Wg := by
  have h : u_ws twR_fi twT_fi 5 = [300, 302, 304, 306, 308].filterMap (fun i => lw_tbl[i]?) := by decide +kernel
  have g : (u_ws twR_fi twT_fi 5).all goodWord = true := by decide +kernel
  intro w hw
  refine List.mem_filter.mpr ⟨?_, List.all_eq_true.mp g w hw⟩
  rw [h] at hw
  obtain ⟨i, -, hi⟩ := List.mem_filterMap.mp hw
  exact List.mem_of_getElem? hi
set_option maxRecDepth 20000 in
theorem twin_sh : ∀ w ∈ u_ws twR_sh twT_sh 2, w ∈ tw_Wg := by
  have h : u_ws twR_sh twT_sh 2 = [321, 323].filterMap (fun i => lw_tbl[i]?) := by decide +kernel
  have g : (u_ws twR_sh twT_sh 2).all goodWord = true := by decide +kernel
  intro w hw
  refine List.mem_filter.mpr ⟨?_, List.all_eq_true.mp g w hw⟩
  rw [h] at hw
  obtain ⟨i, -, hi⟩ := List.mem_filterMap.mp hw
  exact List.mem_of_getElem? hi
set_option maxRecDepth 20000 in
theorem twin_mo : ∀ w ∈ u_ws twR_mo twT_mo 31, w ∈ tw_Wg := by
  have h : u_ws twR_mo twT_mo 31 = [718, 720, 722, 724, 726, 728, 730, 732, 734, 736, 738, 740, 742, 744, 746, 748, 750, 752, 754, 756, 758, 760, 762, 764, 766, 768, 770, 772, 774, 776, 778].filterMap (fun i => lw_tbl[i]?) := by decide +kernel
  have g : (u_ws twR_mo twT_mo 31).all goodWord = true := by decide +kernel
  intro w hw
  refine List.mem_filter.mpr ⟨?_, List.all_eq_true.mp g w hw⟩
  rw [h] at hw
  obtain ⟨i, -, hi⟩ := List.mem_filterMap.mp hw
  exact List.mem_of_getElem? hi
def tw_mC (pa_kinds : Nat → Int) (pa_groups : Nat → Int) (pa_widths : Nat → Int) (pa_pairs : Nat → Int) (pa_size : Int) (pa_base : Int) (ma_others : Nat → Int) (ma_waiting : Nat → Int) (le_types : Nat → Int) (le_partners : Nat → Int) (le_resolved : Nat → Int) (le_ofParagraph : Int) (ex_levels : Nat → Int) (ex_types : Nat → Int) (ex_entryLevels : Nat → Int) (ex_entryOverrides : Nat → Int) (ex_entryIsolates : Nat → Int) (ex_last : Int) (ex_lostIsolates : Int) (ex_lostEmbeddings : Int) (ex_openIsolates : Int) (se_places : Nat → Int) (se_types : Nat → Int) (se_marks : Nat → Int) (se_count : Int) (se_embedding : Int) (se_beginning : Int) (se_end : Int) (br_partners : Nat → Int) (br_list : Nat → Int) (fi_breaks : Nat → Int) (fi_starts : Nat → Int) (fi_extents : Nat → Int) (fi_count : Int) (fi_groups : Nat → Int) (sh_levels : Nat → Int) (sh_order : Nat → Int) (tl_measure : Int) (tl_stale : Int) : List tw_c := [.inr (0, [.inr 1, .inr 6, .inr 26, .inr 31, .inl tl_measure, .inl tl_stale]), .inr (1, [.inr 2, .inr 3, .inr 4, .inr 5, .inl pa_size, .inl pa_base]), .inl (false, 64, pa_kinds), .inl (false, 64, pa_groups), .inl (false, 64, pa_widths), .inl (false, 64, pa_pairs), .inr (2, [.inr 7, .inr 10, .inr 11, .inr 12, .inl le_ofParagraph, .inr 13, .inr 19, .inr 23]), .inr (3, [.inr 8, .inr 9]), .inl (false, 64, ma_others), .inl (false, 64, ma_waiting), .inl (false, 64, le_types), .inl (false, 64, le_partners), .inl (false, 64, le_resolved), .inr (4, [.inr 14, .inr 15, .inr 16, .inr 17, .inr 18, .inl ex_last, .inl ex_lostIsolates, .inl ex_lostEmbeddings, .inl ex_openIsolates]), .inl (false, 64, ex_levels), .inl (false, 64, ex_types), .inl (false, 6, ex_entryLevels), .inl (false, 6, ex_entryOverrides), .inl (true, 6, ex_entryIsolates), .inr (5, [.inr 20, .inr 21, .inr 22, .inl se_count, .inl se_embedding, .inl se_beginning, .inl se_end]), .inl (false, 64, se_places), .inl (false, 64, se_types), .inl (true, 64, se_marks), .inr (6, [.inr 24, .inr 25]), .inl (false, 64, br_partners), .inl (false, 64, br_list), .inr (7, [.inr 27, .inr 28, .inr 29, .inl fi_count, .inr 30]), .inl (true, 64, fi_breaks), .inl (false, 65, fi_starts), .inl (false, 64, fi_extents), .inl (false, 64, fi_groups), .inr (8, [.inr 32, .inr 33]), .inl (false, 64, sh_levels), .inl (false, 64, sh_order)]
def tw_mM (mo_base : Int) (mo_measure : Int) (mo_size : Int) (mo_kind : Nat → Int) (mo_group : Nat → Int) (mo_width : Nat → Int) (mo_pair : Nat → Int) (mo_known : Int) (mo_root : Int) (mo_level : Nat → Int) (mo_type : Nat → Int) (mo_resolved : Nat → Int) (mo_partner : Nat → Int) (mo_top : Int) (mo_entry : Nat → Int) (mo_override : Nat → Int) (mo_isolate : Nat → Int) (mo_lostIsolates : Int) (mo_lostEmbeddings : Int) (mo_openIsolates : Int) (mo_n : Int) (mo_seq : Nat → Int) (mo_mark : Nat → Int) (mo_beginning : Int) (mo_ending : Int) (mo_embedding : Int) (mo_list : Nat → Int) (mo_lines : Int) (mo_starts : Nat → Int) (mo_shownLevels : Nat → Int) (mo_order : Nat → Int) : List tw_c := [.inr (9, [.inl mo_base, .inl mo_measure, .inl mo_size, .inr 1, .inr 2, .inr 3, .inr 4, .inl mo_known, .inl mo_root, .inr 5, .inr 6, .inr 7, .inr 8, .inl mo_top, .inr 9, .inr 10, .inr 11, .inl mo_lostIsolates, .inl mo_lostEmbeddings, .inl mo_openIsolates, .inl mo_n, .inr 12, .inr 13, .inl mo_beginning, .inl mo_ending, .inl mo_embedding, .inr 14, .inl mo_lines, .inr 15, .inr 16, .inr 17]), .inl (false, 64, mo_kind), .inl (false, 64, mo_group), .inl (false, 64, mo_width), .inl (false, 64, mo_pair), .inl (false, 64, mo_level), .inl (false, 64, mo_type), .inl (false, 64, mo_resolved), .inl (false, 64, mo_partner), .inl (false, 8, mo_entry), .inl (false, 8, mo_override), .inl (true, 8, mo_isolate), .inl (false, 64, mo_seq), .inl (true, 64, mo_mark), .inl (false, 64, mo_list), .inl (false, 66, mo_starts), .inl (false, 64, mo_shownLevels), .inl (false, 64, mo_order)]
def tw_Nst : tw_N := [(twR_ma, 27, twy_tl_isOpener, "TwoWayLines"), (twR_ex, 90, twy_tl_isOdd, "TwoWayLines"), (twR_ex, 59, twy_tl_isHidden, "TwoWayLines"), (twR_ex, 70, twy_tl_isOpener, "TwoWayLines"), (twR_le, 100, twy_tl_isHidden, "TwoWayLines"), (twR_le, 120, twy_tl_isOpener, "TwoWayLines"), (twR_le, 134, twy_tl_sideOf, "TwoWayLines"), (twR_se, 53, twy_tl_isIsolateMark, "TwoWayLines"), (twR_le, 161, twy_tl_isOdd, "TwoWayLines"), (twR_sh, 40, twy_tl_isIsolateMark, "TwoWayLines"), (twR_sh, 44, twy_tl_isHidden, "TwoWayLines")]
abbrev tw_YC (l : Launch) (D : va_G) (ad : Nat → Nat) (cI cZ : ClassId) : tw_Y := (l, D, tw_cls, ad, 34, cI, cZ, tw_Nst)
abbrev tw_YM (l : Launch) (D : va_G) (ad : Nat → Nat) (cI cZ : ClassId) : tw_Y := (l, D, tw_cls, ad, 18, cI, cZ, [])
theorem twn_0 {l : Launch} {D : va_G} {ad : Nat → Nat} {cI cZ : ClassId} : (twR_ma, 27, twy_tl_isOpener, "TwoWayLines") ∈ tw_ns (tw_YC l D ad cI cZ) := List.mem_of_getElem? (i := 0) rfl
theorem twn_1 {l : Launch} {D : va_G} {ad : Nat → Nat} {cI cZ : ClassId} : (twR_ex, 90, twy_tl_isOdd, "TwoWayLines") ∈ tw_ns (tw_YC l D ad cI cZ) := List.mem_of_getElem? (i := 1) rfl
theorem twn_2 {l : Launch} {D : va_G} {ad : Nat → Nat} {cI cZ : ClassId} : (twR_ex, 59, twy_tl_isHidden, "TwoWayLines") ∈ tw_ns (tw_YC l D ad cI cZ) := List.mem_of_getElem? (i := 2) rfl
theorem twn_3 {l : Launch} {D : va_G} {ad : Nat → Nat} {cI cZ : ClassId} : (twR_ex, 70, twy_tl_isOpener, "TwoWayLines") ∈ tw_ns (tw_YC l D ad cI cZ) := List.mem_of_getElem? (i := 3) rfl
theorem twn_4 {l : Launch} {D : va_G} {ad : Nat → Nat} {cI cZ : ClassId} : (twR_le, 100, twy_tl_isHidden, "TwoWayLines") ∈ tw_ns (tw_YC l D ad cI cZ) := List.mem_of_getElem? (i := 4) rfl
theorem twn_5 {l : Launch} {D : va_G} {ad : Nat → Nat} {cI cZ : ClassId} : (twR_le, 120, twy_tl_isOpener, "TwoWayLines") ∈ tw_ns (tw_YC l D ad cI cZ) := List.mem_of_getElem? (i := 5) rfl
theorem twn_6 {l : Launch} {D : va_G} {ad : Nat → Nat} {cI cZ : ClassId} : (twR_le, 134, twy_tl_sideOf, "TwoWayLines") ∈ tw_ns (tw_YC l D ad cI cZ) := List.mem_of_getElem? (i := 6) rfl
theorem twn_7 {l : Launch} {D : va_G} {ad : Nat → Nat} {cI cZ : ClassId} : (twR_se, 53, twy_tl_isIsolateMark, "TwoWayLines") ∈ tw_ns (tw_YC l D ad cI cZ) := List.mem_of_getElem? (i := 7) rfl
theorem twn_8 {l : Launch} {D : va_G} {ad : Nat → Nat} {cI cZ : ClassId} : (twR_le, 161, twy_tl_isOdd, "TwoWayLines") ∈ tw_ns (tw_YC l D ad cI cZ) := List.mem_of_getElem? (i := 8) rfl
theorem twn_9 {l : Launch} {D : va_G} {ad : Nat → Nat} {cI cZ : ClassId} : (twR_sh, 40, twy_tl_isIsolateMark, "TwoWayLines") ∈ tw_ns (tw_YC l D ad cI cZ) := List.mem_of_getElem? (i := 9) rfl
theorem twn_10 {l : Launch} {D : va_G} {ad : Nat → Nat} {cI cZ : ClassId} : (twR_sh, 44, twy_tl_isHidden, "TwoWayLines") ∈ tw_ns (tw_YC l D ad cI cZ) := List.mem_of_getElem? (i := 10) rfl
end
section
theorem twd_tl_within_0 : decode prog_1_method_21_code 0 = .ok (.iload_n 0, 1) := by decide +kernel
theorem twd_tl_within_1 : decode prog_1_method_21_code 1 = .ok (.iload_n 1, 1) := by decide +kernel
theorem twd_tl_within_2 : decode prog_1_method_21_code 2 = .ok (.if_icmp .lt 12, 3) := by decide +kernel
theorem twd_tl_within_5 : decode prog_1_method_21_code 5 = .ok (.iload_n 0, 1) := by decide +kernel
theorem twd_tl_within_6 : decode prog_1_method_21_code 6 = .ok (.iload_n 2, 1) := by decide +kernel
theorem twd_tl_within_7 : decode prog_1_method_21_code 7 = .ok (.if_icmp .gt 7, 3) := by decide +kernel
theorem twd_tl_within_10 : decode prog_1_method_21_code 10 = .ok (.iconst 1, 1) := by decide +kernel
theorem twd_tl_within_11 : decode prog_1_method_21_code 11 = .ok (.goto 4, 3) := by decide +kernel
theorem twd_tl_within_14 : decode prog_1_method_21_code 14 = .ok (.iconst 0, 1) := by decide +kernel
theorem twd_tl_within_15 : decode prog_1_method_21_code 15 = .ok (.ireturn, 1) := by decide +kernel
theorem twk_tl_within : tw_dc twy_tl_within 3 := ⟨by decide +kernel, by decide +kernel, by decide +kernel⟩
theorem twd_pa_append_0 : decode prog_7_method_2_code 0 = .ok (.aload_n 0, 1) := by decide +kernel
theorem twd_pa_append_1 : decode prog_7_method_2_code 1 = .ok (.getfield 24, 3) := by decide +kernel
theorem twd_pa_append_4 : decode prog_7_method_2_code 4 = .ok (.bipush 64, 2) := by decide +kernel
theorem twd_pa_append_6 : decode prog_7_method_2_code 6 = .ok (.if_icmp .lt 5, 3) := by decide +kernel
theorem twd_pa_append_9 : decode prog_7_method_2_code 9 = .ok (.iconst 0, 1) := by decide +kernel
theorem twd_pa_append_10 : decode prog_7_method_2_code 10 = .ok (.ireturn, 1) := by decide +kernel
theorem twd_pa_append_11 : decode prog_7_method_2_code 11 = .ok (.aload_n 0, 1) := by decide +kernel
theorem twd_pa_append_12 : decode prog_7_method_2_code 12 = .ok (.getfield 9, 3) := by decide +kernel
theorem twd_pa_append_15 : decode prog_7_method_2_code 15 = .ok (.aload_n 0, 1) := by decide +kernel
theorem twd_pa_append_16 : decode prog_7_method_2_code 16 = .ok (.getfield 24, 3) := by decide +kernel
theorem twd_pa_append_19 : decode prog_7_method_2_code 19 = .ok (.iload_n 1, 1) := by decide +kernel
theorem twd_pa_append_20 : decode prog_7_method_2_code 20 = .ok (.iastore, 1) := by decide +kernel
theorem twd_pa_append_21 : decode prog_7_method_2_code 21 = .ok (.aload_n 0, 1) := by decide +kernel
theorem twd_pa_append_22 : decode prog_7_method_2_code 22 = .ok (.getfield 15, 3) := by decide +kernel
theorem twd_pa_append_25 : decode prog_7_method_2_code 25 = .ok (.aload_n 0, 1) := by decide +kernel
theorem twd_pa_append_26 : decode prog_7_method_2_code 26 = .ok (.getfield 24, 3) := by decide +kernel
theorem twd_pa_append_29 : decode prog_7_method_2_code 29 = .ok (.iload_n 2, 1) := by decide +kernel
theorem twd_pa_append_30 : decode prog_7_method_2_code 30 = .ok (.iastore, 1) := by decide +kernel
theorem twd_pa_append_31 : decode prog_7_method_2_code 31 = .ok (.aload_n 0, 1) := by decide +kernel
theorem twd_pa_append_32 : decode prog_7_method_2_code 32 = .ok (.getfield 18, 3) := by decide +kernel
theorem twd_pa_append_35 : decode prog_7_method_2_code 35 = .ok (.aload_n 0, 1) := by decide +kernel
theorem twd_pa_append_36 : decode prog_7_method_2_code 36 = .ok (.getfield 24, 3) := by decide +kernel
theorem twd_pa_append_39 : decode prog_7_method_2_code 39 = .ok (.iload_n 1, 1) := by decide +kernel
theorem twd_pa_append_40 : decode prog_7_method_2_code 40 = .ok (.bipush 12, 2) := by decide +kernel
theorem twd_pa_append_42 : decode prog_7_method_2_code 42 = .ok (.if_icmp .lt 7, 3) := by decide +kernel
theorem twd_pa_append_45 : decode prog_7_method_2_code 45 = .ok (.iconst 0, 1) := by decide +kernel
theorem twd_pa_append_46 : decode prog_7_method_2_code 46 = .ok (.goto 4, 3) := by decide +kernel
theorem twd_pa_append_49 : decode prog_7_method_2_code 49 = .ok (.iload_n 3, 1) := by decide +kernel
theorem twd_pa_append_50 : decode prog_7_method_2_code 50 = .ok (.iastore, 1) := by decide +kernel
theorem twd_pa_append_51 : decode prog_7_method_2_code 51 = .ok (.aload_n 0, 1) := by decide +kernel
theorem twd_pa_append_52 : decode prog_7_method_2_code 52 = .ok (.getfield 21, 3) := by decide +kernel
theorem twd_pa_append_55 : decode prog_7_method_2_code 55 = .ok (.aload_n 0, 1) := by decide +kernel
theorem twd_pa_append_56 : decode prog_7_method_2_code 56 = .ok (.getfield 24, 3) := by decide +kernel
theorem twd_pa_append_59 : decode prog_7_method_2_code 59 = .ok (.iload_n 1, 1) := by decide +kernel
theorem twd_pa_append_60 : decode prog_7_method_2_code 60 = .ok (.bipush 11, 2) := by decide +kernel
theorem twd_pa_append_62 : decode prog_7_method_2_code 62 = .ok (.if_icmp .ne 8, 3) := by decide +kernel
theorem twd_pa_append_65 : decode prog_7_method_2_code 65 = .ok (.iload 4, 2) := by decide +kernel
theorem twd_pa_append_67 : decode prog_7_method_2_code 67 = .ok (.goto 4, 3) := by decide +kernel
theorem twd_pa_append_70 : decode prog_7_method_2_code 70 = .ok (.iconst 0, 1) := by decide +kernel
theorem twd_pa_append_71 : decode prog_7_method_2_code 71 = .ok (.iastore, 1) := by decide +kernel
theorem twd_pa_append_72 : decode prog_7_method_2_code 72 = .ok (.aload_n 0, 1) := by decide +kernel
theorem twd_pa_append_73 : decode prog_7_method_2_code 73 = .ok (.dup, 1) := by decide +kernel
theorem twd_pa_append_74 : decode prog_7_method_2_code 74 = .ok (.getfield 24, 3) := by decide +kernel
theorem twd_pa_append_77 : decode prog_7_method_2_code 77 = .ok (.iconst 1, 1) := by decide +kernel
theorem twd_pa_append_78 : decode prog_7_method_2_code 78 = .ok (.iadd, 1) := by decide +kernel
theorem twd_pa_append_79 : decode prog_7_method_2_code 79 = .ok (.putfield 24, 3) := by decide +kernel
theorem twd_pa_append_82 : decode prog_7_method_2_code 82 = .ok (.iconst 1, 1) := by decide +kernel
theorem twd_pa_append_83 : decode prog_7_method_2_code 83 = .ok (.ireturn, 1) := by decide +kernel
theorem twk_pa_append : tw_dc twy_pa_append 4 := ⟨by decide +kernel, by decide +kernel, by decide +kernel⟩
theorem twd_tl_add_0 : decode prog_1_method_2_code 0 = .ok (.iload_n 1, 1) := by decide +kernel
theorem twd_tl_add_1 : decode prog_1_method_2_code 1 = .ok (.iconst 0, 1) := by decide +kernel
theorem twd_tl_add_2 : decode prog_1_method_2_code 2 = .ok (.bipush 20, 2) := by decide +kernel
theorem twd_tl_add_4 : decode prog_1_method_2_code 4 = .ok (.invokestatic 45, 3) := by decide +kernel
theorem twd_tl_add_7 : decode prog_1_method_2_code 7 = .ok (.ifCond .eq 13, 3) := by decide +kernel
theorem twd_tl_add_10 : decode prog_1_method_2_code 10 = .ok (.iload_n 2, 1) := by decide +kernel
theorem twd_tl_add_11 : decode prog_1_method_2_code 11 = .ok (.iconst 0, 1) := by decide +kernel
theorem twd_tl_add_12 : decode prog_1_method_2_code 12 = .ok (.bipush 6, 2) := by decide +kernel
theorem twd_tl_add_14 : decode prog_1_method_2_code 14 = .ok (.invokestatic 45, 3) := by decide +kernel
theorem twd_tl_add_17 : decode prog_1_method_2_code 17 = .ok (.ifCond .ne 5, 3) := by decide +kernel
theorem twd_tl_add_20 : decode prog_1_method_2_code 20 = .ok (.iconst 0, 1) := by decide +kernel
theorem twd_tl_add_21 : decode prog_1_method_2_code 21 = .ok (.ireturn, 1) := by decide +kernel
theorem twd_tl_add_22 : decode prog_1_method_2_code 22 = .ok (.iload_n 3, 1) := by decide +kernel
theorem twd_tl_add_23 : decode prog_1_method_2_code 23 = .ok (.iconst 0, 1) := by decide +kernel
theorem twd_tl_add_24 : decode prog_1_method_2_code 24 = .ok (.iconst 3, 1) := by decide +kernel
theorem twd_tl_add_25 : decode prog_1_method_2_code 25 = .ok (.invokestatic 45, 3) := by decide +kernel
theorem twd_tl_add_28 : decode prog_1_method_2_code 28 = .ok (.ifCond .eq 14, 3) := by decide +kernel
theorem twd_tl_add_31 : decode prog_1_method_2_code 31 = .ok (.iload 4, 2) := by decide +kernel
theorem twd_tl_add_33 : decode prog_1_method_2_code 33 = .ok (.bipush (-3), 2) := by decide +kernel
theorem twd_tl_add_35 : decode prog_1_method_2_code 35 = .ok (.iconst 3, 1) := by decide +kernel
theorem twd_tl_add_36 : decode prog_1_method_2_code 36 = .ok (.invokestatic 45, 3) := by decide +kernel
theorem twd_tl_add_39 : decode prog_1_method_2_code 39 = .ok (.ifCond .ne 5, 3) := by decide +kernel
theorem twd_tl_add_42 : decode prog_1_method_2_code 42 = .ok (.iconst 0, 1) := by decide +kernel
theorem twd_tl_add_43 : decode prog_1_method_2_code 43 = .ok (.ireturn, 1) := by decide +kernel
theorem twd_tl_add_44 : decode prog_1_method_2_code 44 = .ok (.aload_n 0, 1) := by decide +kernel
theorem twd_tl_add_45 : decode prog_1_method_2_code 45 = .ok (.getfield 10, 3) := by decide +kernel
theorem twd_tl_add_48 : decode prog_1_method_2_code 48 = .ok (.iload_n 1, 1) := by decide +kernel
theorem twd_tl_add_49 : decode prog_1_method_2_code 49 = .ok (.iload_n 2, 1) := by decide +kernel
theorem twd_tl_add_50 : decode prog_1_method_2_code 50 = .ok (.iload_n 3, 1) := by decide +kernel
theorem twd_tl_add_51 : decode prog_1_method_2_code 51 = .ok (.iload 4, 2) := by decide +kernel
theorem twd_tl_add_53 : decode prog_1_method_2_code 53 = .ok (.invokevirtual 49, 3) := by decide +kernel
theorem twd_tl_add_56 : decode prog_1_method_2_code 56 = .ok (.ifCond .ne 5, 3) := by decide +kernel
theorem twd_tl_add_59 : decode prog_1_method_2_code 59 = .ok (.iconst 0, 1) := by decide +kernel
theorem twd_tl_add_60 : decode prog_1_method_2_code 60 = .ok (.ireturn, 1) := by decide +kernel
theorem twd_tl_add_61 : decode prog_1_method_2_code 61 = .ok (.aload_n 0, 1) := by decide +kernel
theorem twd_tl_add_62 : decode prog_1_method_2_code 62 = .ok (.iconst 1, 1) := by decide +kernel
theorem twd_tl_add_63 : decode prog_1_method_2_code 63 = .ok (.putfield 41, 3) := by decide +kernel
theorem twd_tl_add_66 : decode prog_1_method_2_code 66 = .ok (.iconst 1, 1) := by decide +kernel
theorem twd_tl_add_67 : decode prog_1_method_2_code 67 = .ok (.ireturn, 1) := by decide +kernel
theorem twk_tl_add : tw_dc twy_tl_add 4 := ⟨by decide +kernel, by decide +kernel, by decide +kernel⟩
theorem twd_tl_drop_0 : decode prog_1_method_3_code 0 = .ok (.aload_n 0, 1) := by decide +kernel
theorem twd_tl_drop_1 : decode prog_1_method_3_code 1 = .ok (.getfield 10, 3) := by decide +kernel
theorem twd_tl_drop_4 : decode prog_1_method_3_code 4 = .ok (.getfield 53, 3) := by decide +kernel
theorem twd_tl_drop_7 : decode prog_1_method_3_code 7 = .ok (.ifCond .ne 5, 3) := by decide +kernel
theorem twd_tl_drop_10 : decode prog_1_method_3_code 10 = .ok (.iconst 0, 1) := by decide +kernel
theorem twd_tl_drop_11 : decode prog_1_method_3_code 11 = .ok (.ireturn, 1) := by decide +kernel
theorem twd_tl_drop_12 : decode prog_1_method_3_code 12 = .ok (.aload_n 0, 1) := by decide +kernel
theorem twd_tl_drop_13 : decode prog_1_method_3_code 13 = .ok (.getfield 10, 3) := by decide +kernel
theorem twd_tl_drop_16 : decode prog_1_method_3_code 16 = .ok (.dup, 1) := by decide +kernel
theorem twd_tl_drop_17 : decode prog_1_method_3_code 17 = .ok (.getfield 53, 3) := by decide +kernel
theorem twd_tl_drop_20 : decode prog_1_method_3_code 20 = .ok (.iconst 1, 1) := by decide +kernel
theorem twd_tl_drop_21 : decode prog_1_method_3_code 21 = .ok (.isub, 1) := by decide +kernel
theorem twd_tl_drop_22 : decode prog_1_method_3_code 22 = .ok (.putfield 53, 3) := by decide +kernel
theorem twd_tl_drop_25 : decode prog_1_method_3_code 25 = .ok (.aload_n 0, 1) := by decide +kernel
theorem twd_tl_drop_26 : decode prog_1_method_3_code 26 = .ok (.iconst 1, 1) := by decide +kernel
theorem twd_tl_drop_27 : decode prog_1_method_3_code 27 = .ok (.putfield 41, 3) := by decide +kernel
theorem twd_tl_drop_30 : decode prog_1_method_3_code 30 = .ok (.iconst 1, 1) := by decide +kernel
theorem twd_tl_drop_31 : decode prog_1_method_3_code 31 = .ok (.ireturn, 1) := by decide +kernel
theorem twk_tl_drop : tw_dc twy_tl_drop 0 := ⟨by decide +kernel, by decide +kernel, by decide +kernel⟩
theorem twd_tl_clear_0 : decode prog_1_method_4_code 0 = .ok (.aload_n 0, 1) := by decide +kernel
theorem twd_tl_clear_1 : decode prog_1_method_4_code 1 = .ok (.getfield 10, 3) := by decide +kernel
theorem twd_tl_clear_4 : decode prog_1_method_4_code 4 = .ok (.iconst 0, 1) := by decide +kernel
theorem twd_tl_clear_5 : decode prog_1_method_4_code 5 = .ok (.putfield 53, 3) := by decide +kernel
theorem twd_tl_clear_8 : decode prog_1_method_4_code 8 = .ok (.aload_n 0, 1) := by decide +kernel
theorem twd_tl_clear_9 : decode prog_1_method_4_code 9 = .ok (.iconst 1, 1) := by decide +kernel
theorem twd_tl_clear_10 : decode prog_1_method_4_code 10 = .ok (.putfield 41, 3) := by decide +kernel
theorem twd_tl_clear_13 : decode prog_1_method_4_code 13 = .ok (.return_, 1) := by decide +kernel
theorem twk_tl_clear : tw_dc twy_tl_clear 0 := ⟨by decide +kernel, by decide +kernel, by decide +kernel⟩
theorem twd_tl_base_0 : decode prog_1_method_5_code 0 = .ok (.iload_n 1, 1) := by decide +kernel
theorem twd_tl_base_1 : decode prog_1_method_5_code 1 = .ok (.iconst 0, 1) := by decide +kernel
theorem twd_tl_base_2 : decode prog_1_method_5_code 2 = .ok (.iconst 2, 1) := by decide +kernel
theorem twd_tl_base_3 : decode prog_1_method_5_code 3 = .ok (.invokestatic 45, 3) := by decide +kernel
theorem twd_tl_base_6 : decode prog_1_method_5_code 6 = .ok (.ifCond .ne 5, 3) := by decide +kernel
theorem twd_tl_base_9 : decode prog_1_method_5_code 9 = .ok (.iconst 0, 1) := by decide +kernel
theorem twd_tl_base_10 : decode prog_1_method_5_code 10 = .ok (.ireturn, 1) := by decide +kernel
theorem twd_tl_base_11 : decode prog_1_method_5_code 11 = .ok (.aload_n 0, 1) := by decide +kernel
theorem twd_tl_base_12 : decode prog_1_method_5_code 12 = .ok (.getfield 10, 3) := by decide +kernel
theorem twd_tl_base_15 : decode prog_1_method_5_code 15 = .ok (.iload_n 1, 1) := by decide +kernel
theorem twd_tl_base_16 : decode prog_1_method_5_code 16 = .ok (.putfield 56, 3) := by decide +kernel
theorem twd_tl_base_19 : decode prog_1_method_5_code 19 = .ok (.aload_n 0, 1) := by decide +kernel
theorem twd_tl_base_20 : decode prog_1_method_5_code 20 = .ok (.iconst 1, 1) := by decide +kernel
theorem twd_tl_base_21 : decode prog_1_method_5_code 21 = .ok (.putfield 41, 3) := by decide +kernel
theorem twd_tl_base_24 : decode prog_1_method_5_code 24 = .ok (.iconst 1, 1) := by decide +kernel
theorem twd_tl_base_25 : decode prog_1_method_5_code 25 = .ok (.ireturn, 1) := by decide +kernel
theorem twk_tl_base : tw_dc twy_tl_base 1 := ⟨by decide +kernel, by decide +kernel, by decide +kernel⟩
theorem twd_tl_measure_0 : decode prog_1_method_6_code 0 = .ok (.iload_n 1, 1) := by decide +kernel
theorem twd_tl_measure_1 : decode prog_1_method_6_code 1 = .ok (.iconst 1, 1) := by decide +kernel
theorem twd_tl_measure_2 : decode prog_1_method_6_code 2 = .ok (.bipush 100, 2) := by decide +kernel
theorem twd_tl_measure_4 : decode prog_1_method_6_code 4 = .ok (.invokestatic 45, 3) := by decide +kernel
theorem twd_tl_measure_7 : decode prog_1_method_6_code 7 = .ok (.ifCond .ne 5, 3) := by decide +kernel
theorem twd_tl_measure_10 : decode prog_1_method_6_code 10 = .ok (.iconst 0, 1) := by decide +kernel
theorem twd_tl_measure_11 : decode prog_1_method_6_code 11 = .ok (.ireturn, 1) := by decide +kernel
theorem twd_tl_measure_12 : decode prog_1_method_6_code 12 = .ok (.aload_n 0, 1) := by decide +kernel
theorem twd_tl_measure_13 : decode prog_1_method_6_code 13 = .ok (.iload_n 1, 1) := by decide +kernel
theorem twd_tl_measure_14 : decode prog_1_method_6_code 14 = .ok (.putfield 37, 3) := by decide +kernel
theorem twd_tl_measure_17 : decode prog_1_method_6_code 17 = .ok (.aload_n 0, 1) := by decide +kernel
theorem twd_tl_measure_18 : decode prog_1_method_6_code 18 = .ok (.iconst 1, 1) := by decide +kernel
theorem twd_tl_measure_19 : decode prog_1_method_6_code 19 = .ok (.putfield 41, 3) := by decide +kernel
theorem twd_tl_measure_22 : decode prog_1_method_6_code 22 = .ok (.iconst 1, 1) := by decide +kernel
theorem twd_tl_measure_23 : decode prog_1_method_6_code 23 = .ok (.ireturn, 1) := by decide +kernel
theorem twk_tl_measure : tw_dc twy_tl_measure 1 := ⟨by decide +kernel, by decide +kernel, by decide +kernel⟩
theorem twd_tl_length_0 : decode prog_1_method_7_code 0 = .ok (.aload_n 0, 1) := by decide +kernel
theorem twd_tl_length_1 : decode prog_1_method_7_code 1 = .ok (.getfield 10, 3) := by decide +kernel
theorem twd_tl_length_4 : decode prog_1_method_7_code 4 = .ok (.getfield 53, 3) := by decide +kernel
theorem twd_tl_length_7 : decode prog_1_method_7_code 7 = .ok (.ireturn, 1) := by decide +kernel
theorem twk_tl_length : tw_dc twy_tl_length 0 := ⟨by decide +kernel, by decide +kernel, by decide +kernel⟩
theorem twd_tl_isOpener_0 : decode prog_1_method_24_code 0 = .ok (.iload_n 0, 1) := by decide +kernel
theorem twd_tl_isOpener_1 : decode prog_1_method_24_code 1 = .ok (.bipush 17, 2) := by decide +kernel
theorem twd_tl_isOpener_3 : decode prog_1_method_24_code 3 = .ok (.if_icmp .lt 13, 3) := by decide +kernel
theorem twd_tl_isOpener_6 : decode prog_1_method_24_code 6 = .ok (.iload_n 0, 1) := by decide +kernel
theorem twd_tl_isOpener_7 : decode prog_1_method_24_code 7 = .ok (.bipush 19, 2) := by decide +kernel
theorem twd_tl_isOpener_9 : decode prog_1_method_24_code 9 = .ok (.if_icmp .gt 7, 3) := by decide +kernel
theorem twd_tl_isOpener_12 : decode prog_1_method_24_code 12 = .ok (.iconst 1, 1) := by decide +kernel
theorem twd_tl_isOpener_13 : decode prog_1_method_24_code 13 = .ok (.goto 4, 3) := by decide +kernel
theorem twd_tl_isOpener_16 : decode prog_1_method_24_code 16 = .ok (.iconst 0, 1) := by decide +kernel
theorem twd_tl_isOpener_17 : decode prog_1_method_24_code 17 = .ok (.ireturn, 1) := by decide +kernel
theorem twk_tl_isOpener : tw_dc twy_tl_isOpener 1 := ⟨by decide +kernel, by decide +kernel, by decide +kernel⟩
theorem twd_ma_find_0 : decode prog_6_method_2_code 0 = .ok (.iconst 0, 1) := by decide +kernel
theorem twd_ma_find_1 : decode prog_6_method_2_code 1 = .ok (.istore_n 2, 1) := by decide +kernel
theorem twd_ma_find_2 : decode prog_6_method_2_code 2 = .ok (.iconst 0, 1) := by decide +kernel
theorem twd_ma_find_3 : decode prog_6_method_2_code 3 = .ok (.istore_n 3, 1) := by decide +kernel
theorem twd_ma_find_4 : decode prog_6_method_2_code 4 = .ok (.iload_n 3, 1) := by decide +kernel
theorem twd_ma_find_5 : decode prog_6_method_2_code 5 = .ok (.aload_n 1, 1) := by decide +kernel
theorem twd_ma_find_6 : decode prog_6_method_2_code 6 = .ok (.getfield 18, 3) := by decide +kernel
theorem twd_ma_find_9 : decode prog_6_method_2_code 9 = .ok (.if_icmp .ge 83, 3) := by decide +kernel
theorem twd_ma_find_12 : decode prog_6_method_2_code 12 = .ok (.aload_n 1, 1) := by decide +kernel
theorem twd_ma_find_13 : decode prog_6_method_2_code 13 = .ok (.getfield 24, 3) := by decide +kernel
theorem twd_ma_find_16 : decode prog_6_method_2_code 16 = .ok (.iload_n 3, 1) := by decide +kernel
theorem twd_ma_find_17 : decode prog_6_method_2_code 17 = .ok (.iaload, 1) := by decide +kernel
theorem twd_ma_find_18 : decode prog_6_method_2_code 18 = .ok (.istore 4, 2) := by decide +kernel
theorem twd_ma_find_20 : decode prog_6_method_2_code 20 = .ok (.aload_n 0, 1) := by decide +kernel
theorem twd_ma_find_21 : decode prog_6_method_2_code 21 = .ok (.getfield 9, 3) := by decide +kernel
theorem twd_ma_find_24 : decode prog_6_method_2_code 24 = .ok (.iload_n 3, 1) := by decide +kernel
theorem twd_ma_find_25 : decode prog_6_method_2_code 25 = .ok (.iconst (-1), 1) := by decide +kernel
theorem twd_ma_find_26 : decode prog_6_method_2_code 26 = .ok (.iastore, 1) := by decide +kernel
theorem twd_ma_find_27 : decode prog_6_method_2_code 27 = .ok (.iload 4, 2) := by decide +kernel
theorem twd_ma_find_29 : decode prog_6_method_2_code 29 = .ok (.invokestatic 27, 3) := by decide +kernel
theorem twd_ma_find_32 : decode prog_6_method_2_code 32 = .ok (.ifCond .eq 16, 3) := by decide +kernel
theorem twd_ma_find_35 : decode prog_6_method_2_code 35 = .ok (.aload_n 0, 1) := by decide +kernel
theorem twd_ma_find_36 : decode prog_6_method_2_code 36 = .ok (.getfield 15, 3) := by decide +kernel
theorem twd_ma_find_39 : decode prog_6_method_2_code 39 = .ok (.iload_n 2, 1) := by decide +kernel
theorem twd_ma_find_40 : decode prog_6_method_2_code 40 = .ok (.iload_n 3, 1) := by decide +kernel
theorem twd_ma_find_41 : decode prog_6_method_2_code 41 = .ok (.iastore, 1) := by decide +kernel
theorem twd_ma_find_42 : decode prog_6_method_2_code 42 = .ok (.iinc 2 1, 3) := by decide +kernel
theorem twd_ma_find_45 : decode prog_6_method_2_code 45 = .ok (.goto 41, 3) := by decide +kernel
theorem twd_ma_find_48 : decode prog_6_method_2_code 48 = .ok (.iload 4, 2) := by decide +kernel
theorem twd_ma_find_50 : decode prog_6_method_2_code 50 = .ok (.bipush 20, 2) := by decide +kernel
theorem twd_ma_find_52 : decode prog_6_method_2_code 52 = .ok (.if_icmp .ne 34, 3) := by decide +kernel
theorem twd_ma_find_55 : decode prog_6_method_2_code 55 = .ok (.iload_n 2, 1) := by decide +kernel
theorem twd_ma_find_56 : decode prog_6_method_2_code 56 = .ok (.ifCond .le 30, 3) := by decide +kernel
theorem twd_ma_find_59 : decode prog_6_method_2_code 59 = .ok (.iinc 2 (-1), 3) := by decide +kernel
theorem twd_ma_find_62 : decode prog_6_method_2_code 62 = .ok (.aload_n 0, 1) := by decide +kernel
theorem twd_ma_find_63 : decode prog_6_method_2_code 63 = .ok (.getfield 15, 3) := by decide +kernel
theorem twd_ma_find_66 : decode prog_6_method_2_code 66 = .ok (.iload_n 2, 1) := by decide +kernel
theorem twd_ma_find_67 : decode prog_6_method_2_code 67 = .ok (.iaload, 1) := by decide +kernel
theorem twd_ma_find_68 : decode prog_6_method_2_code 68 = .ok (.istore 5, 2) := by decide +kernel
theorem twd_ma_find_70 : decode prog_6_method_2_code 70 = .ok (.aload_n 0, 1) := by decide +kernel
theorem twd_ma_find_71 : decode prog_6_method_2_code 71 = .ok (.getfield 9, 3) := by decide +kernel
theorem twd_ma_find_74 : decode prog_6_method_2_code 74 = .ok (.iload 5, 2) := by decide +kernel
theorem twd_ma_find_76 : decode prog_6_method_2_code 76 = .ok (.iload_n 3, 1) := by decide +kernel
theorem twd_ma_find_77 : decode prog_6_method_2_code 77 = .ok (.iastore, 1) := by decide +kernel
theorem twd_ma_find_78 : decode prog_6_method_2_code 78 = .ok (.aload_n 0, 1) := by decide +kernel
theorem twd_ma_find_79 : decode prog_6_method_2_code 79 = .ok (.getfield 9, 3) := by decide +kernel
theorem twd_ma_find_82 : decode prog_6_method_2_code 82 = .ok (.iload_n 3, 1) := by decide +kernel
theorem twd_ma_find_83 : decode prog_6_method_2_code 83 = .ok (.iload 5, 2) := by decide +kernel
theorem twd_ma_find_85 : decode prog_6_method_2_code 85 = .ok (.iastore, 1) := by decide +kernel
theorem twd_ma_find_86 : decode prog_6_method_2_code 86 = .ok (.iinc 3 1, 3) := by decide +kernel
theorem twd_ma_find_89 : decode prog_6_method_2_code 89 = .ok (.goto (-85), 3) := by decide +kernel
theorem twd_ma_find_92 : decode prog_6_method_2_code 92 = .ok (.return_, 1) := by decide +kernel
theorem twk_ma_find : tw_dc twy_ma_find 1 := ⟨by decide +kernel, by decide +kernel, by decide +kernel⟩
theorem twd_ma_direction_0 : decode prog_6_method_3_code 0 = .ok (.iload_n 2, 1) := by decide +kernel
theorem twd_ma_direction_1 : decode prog_6_method_3_code 1 = .ok (.istore 4, 2) := by decide +kernel
theorem twd_ma_direction_3 : decode prog_6_method_3_code 3 = .ok (.iload_n 2, 1) := by decide +kernel
theorem twd_ma_direction_4 : decode prog_6_method_3_code 4 = .ok (.istore 5, 2) := by decide +kernel
theorem twd_ma_direction_6 : decode prog_6_method_3_code 6 = .ok (.iload 5, 2) := by decide +kernel
theorem twd_ma_direction_8 : decode prog_6_method_3_code 8 = .ok (.iload_n 3, 1) := by decide +kernel
theorem twd_ma_direction_9 : decode prog_6_method_3_code 9 = .ok (.if_icmp .ge 81, 3) := by decide +kernel
theorem twd_ma_direction_12 : decode prog_6_method_3_code 12 = .ok (.iload 5, 2) := by decide +kernel
theorem twd_ma_direction_14 : decode prog_6_method_3_code 14 = .ok (.iload 4, 2) := by decide +kernel
theorem twd_ma_direction_16 : decode prog_6_method_3_code 16 = .ok (.if_icmp .ge 6, 3) := by decide +kernel
theorem twd_ma_direction_19 : decode prog_6_method_3_code 19 = .ok (.goto 65, 3) := by decide +kernel
theorem twd_ma_direction_22 : decode prog_6_method_3_code 22 = .ok (.aload_n 1, 1) := by decide +kernel
theorem twd_ma_direction_23 : decode prog_6_method_3_code 23 = .ok (.getfield 24, 3) := by decide +kernel
theorem twd_ma_direction_26 : decode prog_6_method_3_code 26 = .ok (.iload 5, 2) := by decide +kernel
theorem twd_ma_direction_28 : decode prog_6_method_3_code 28 = .ok (.iaload, 1) := by decide +kernel
theorem twd_ma_direction_29 : decode prog_6_method_3_code 29 = .ok (.istore 6, 2) := by decide +kernel
theorem twd_ma_direction_31 : decode prog_6_method_3_code 31 = .ok (.iload 6, 2) := by decide +kernel
theorem twd_ma_direction_33 : decode prog_6_method_3_code 33 = .ok (.ifCond .ne 5, 3) := by decide +kernel
theorem twd_ma_direction_36 : decode prog_6_method_3_code 36 = .ok (.iconst 0, 1) := by decide +kernel
theorem twd_ma_direction_37 : decode prog_6_method_3_code 37 = .ok (.ireturn, 1) := by decide +kernel
theorem twd_ma_direction_38 : decode prog_6_method_3_code 38 = .ok (.iload 6, 2) := by decide +kernel
theorem twd_ma_direction_40 : decode prog_6_method_3_code 40 = .ok (.iconst 1, 1) := by decide +kernel
theorem twd_ma_direction_41 : decode prog_6_method_3_code 41 = .ok (.if_icmp .eq 9, 3) := by decide +kernel
theorem twd_ma_direction_44 : decode prog_6_method_3_code 44 = .ok (.iload 6, 2) := by decide +kernel
theorem twd_ma_direction_46 : decode prog_6_method_3_code 46 = .ok (.iconst 2, 1) := by decide +kernel
theorem twd_ma_direction_47 : decode prog_6_method_3_code 47 = .ok (.if_icmp .ne 5, 3) := by decide +kernel
theorem twd_ma_direction_50 : decode prog_6_method_3_code 50 = .ok (.iconst 1, 1) := by decide +kernel
theorem twd_ma_direction_51 : decode prog_6_method_3_code 51 = .ok (.ireturn, 1) := by decide +kernel
theorem twd_ma_direction_52 : decode prog_6_method_3_code 52 = .ok (.iload 6, 2) := by decide +kernel
theorem twd_ma_direction_54 : decode prog_6_method_3_code 54 = .ok (.invokestatic 27, 3) := by decide +kernel
theorem twd_ma_direction_57 : decode prog_6_method_3_code 57 = .ok (.ifCond .eq 27, 3) := by decide +kernel
theorem twd_ma_direction_60 : decode prog_6_method_3_code 60 = .ok (.aload_n 0, 1) := by decide +kernel
theorem twd_ma_direction_61 : decode prog_6_method_3_code 61 = .ok (.getfield 9, 3) := by decide +kernel
theorem twd_ma_direction_64 : decode prog_6_method_3_code 64 = .ok (.iload 5, 2) := by decide +kernel
theorem twd_ma_direction_66 : decode prog_6_method_3_code 66 = .ok (.iaload, 1) := by decide +kernel
theorem twd_ma_direction_67 : decode prog_6_method_3_code 67 = .ok (.iconst (-1), 1) := by decide +kernel
theorem twd_ma_direction_68 : decode prog_6_method_3_code 68 = .ok (.if_icmp .ne 5, 3) := by decide +kernel
theorem twd_ma_direction_71 : decode prog_6_method_3_code 71 = .ok (.iconst 0, 1) := by decide +kernel
theorem twd_ma_direction_72 : decode prog_6_method_3_code 72 = .ok (.ireturn, 1) := by decide +kernel
theorem twd_ma_direction_73 : decode prog_6_method_3_code 73 = .ok (.aload_n 0, 1) := by decide +kernel
theorem twd_ma_direction_74 : decode prog_6_method_3_code 74 = .ok (.getfield 9, 3) := by decide +kernel
theorem twd_ma_direction_77 : decode prog_6_method_3_code 77 = .ok (.iload 5, 2) := by decide +kernel
theorem twd_ma_direction_79 : decode prog_6_method_3_code 79 = .ok (.iaload, 1) := by decide +kernel
theorem twd_ma_direction_80 : decode prog_6_method_3_code 80 = .ok (.iconst 1, 1) := by decide +kernel
theorem twd_ma_direction_81 : decode prog_6_method_3_code 81 = .ok (.iadd, 1) := by decide +kernel
theorem twd_ma_direction_82 : decode prog_6_method_3_code 82 = .ok (.istore 4, 2) := by decide +kernel
theorem twd_ma_direction_84 : decode prog_6_method_3_code 84 = .ok (.iinc 5 1, 3) := by decide +kernel
theorem twd_ma_direction_87 : decode prog_6_method_3_code 87 = .ok (.goto (-81), 3) := by decide +kernel
theorem twd_ma_direction_90 : decode prog_6_method_3_code 90 = .ok (.iconst 0, 1) := by decide +kernel
theorem twd_ma_direction_91 : decode prog_6_method_3_code 91 = .ok (.ireturn, 1) := by decide +kernel
theorem twk_ma_direction : tw_dc twy_ma_direction 3 := ⟨by decide +kernel, by decide +kernel, by decide +kernel⟩
theorem twd_ex_begin_0 : decode prog_3_method_3_code 0 = .ok (.aload_n 0, 1) := by decide +kernel
theorem twd_ex_begin_1 : decode prog_3_method_3_code 1 = .ok (.iconst 0, 1) := by decide +kernel
theorem twd_ex_begin_2 : decode prog_3_method_3_code 2 = .ok (.putfield 32, 3) := by decide +kernel
theorem twd_ex_begin_5 : decode prog_3_method_3_code 5 = .ok (.aload_n 0, 1) := by decide +kernel
theorem twd_ex_begin_6 : decode prog_3_method_3_code 6 = .ok (.iconst 0, 1) := by decide +kernel
theorem twd_ex_begin_7 : decode prog_3_method_3_code 7 = .ok (.putfield 35, 3) := by decide +kernel
theorem twd_ex_begin_10 : decode prog_3_method_3_code 10 = .ok (.aload_n 0, 1) := by decide +kernel
theorem twd_ex_begin_11 : decode prog_3_method_3_code 11 = .ok (.iconst 0, 1) := by decide +kernel
theorem twd_ex_begin_12 : decode prog_3_method_3_code 12 = .ok (.putfield 38, 3) := by decide +kernel
theorem twd_ex_begin_15 : decode prog_3_method_3_code 15 = .ok (.aload_n 0, 1) := by decide +kernel
theorem twd_ex_begin_16 : decode prog_3_method_3_code 16 = .ok (.iconst 0, 1) := by decide +kernel
theorem twd_ex_begin_17 : decode prog_3_method_3_code 17 = .ok (.putfield 28, 3) := by decide +kernel
theorem twd_ex_begin_20 : decode prog_3_method_3_code 20 = .ok (.aload_n 0, 1) := by decide +kernel
theorem twd_ex_begin_21 : decode prog_3_method_3_code 21 = .ok (.getfield 18, 3) := by decide +kernel
theorem twd_ex_begin_24 : decode prog_3_method_3_code 24 = .ok (.iconst 0, 1) := by decide +kernel
theorem twd_ex_begin_25 : decode prog_3_method_3_code 25 = .ok (.iload_n 1, 1) := by decide +kernel
theorem twd_ex_begin_26 : decode prog_3_method_3_code 26 = .ok (.iastore, 1) := by decide +kernel
theorem twd_ex_begin_27 : decode prog_3_method_3_code 27 = .ok (.aload_n 0, 1) := by decide +kernel
theorem twd_ex_begin_28 : decode prog_3_method_3_code 28 = .ok (.getfield 21, 3) := by decide +kernel
theorem twd_ex_begin_31 : decode prog_3_method_3_code 31 = .ok (.iconst 0, 1) := by decide +kernel
theorem twd_ex_begin_32 : decode prog_3_method_3_code 32 = .ok (.iconst (-1), 1) := by decide +kernel
theorem twd_ex_begin_33 : decode prog_3_method_3_code 33 = .ok (.iastore, 1) := by decide +kernel
theorem twd_ex_begin_34 : decode prog_3_method_3_code 34 = .ok (.aload_n 0, 1) := by decide +kernel
theorem twd_ex_begin_35 : decode prog_3_method_3_code 35 = .ok (.getfield 24, 3) := by decide +kernel
theorem twd_ex_begin_38 : decode prog_3_method_3_code 38 = .ok (.iconst 0, 1) := by decide +kernel
theorem twd_ex_begin_39 : decode prog_3_method_3_code 39 = .ok (.iconst 0, 1) := by decide +kernel
theorem twd_ex_begin_40 : decode prog_3_method_3_code 40 = .ok (.bastore, 1) := by decide +kernel
theorem twd_ex_begin_41 : decode prog_3_method_3_code 41 = .ok (.return_, 1) := by decide +kernel
theorem twk_ex_begin : tw_dc twy_ex_begin 1 := ⟨by decide +kernel, by decide +kernel, by decide +kernel⟩
theorem twd_ex_endIsolate_0 : decode prog_3_method_13_code 0 = .ok (.aload_n 0, 1) := by decide +kernel
theorem twd_ex_endIsolate_1 : decode prog_3_method_13_code 1 = .ok (.getfield 32, 3) := by decide +kernel
theorem twd_ex_endIsolate_4 : decode prog_3_method_13_code 4 = .ok (.ifCond .le 16, 3) := by decide +kernel
theorem twd_ex_endIsolate_7 : decode prog_3_method_13_code 7 = .ok (.aload_n 0, 1) := by decide +kernel
theorem twd_ex_endIsolate_8 : decode prog_3_method_13_code 8 = .ok (.dup, 1) := by decide +kernel
theorem twd_ex_endIsolate_9 : decode prog_3_method_13_code 9 = .ok (.getfield 32, 3) := by decide +kernel
theorem twd_ex_endIsolate_12 : decode prog_3_method_13_code 12 = .ok (.iconst 1, 1) := by decide +kernel
theorem twd_ex_endIsolate_13 : decode prog_3_method_13_code 13 = .ok (.isub, 1) := by decide +kernel
theorem twd_ex_endIsolate_14 : decode prog_3_method_13_code 14 = .ok (.putfield 32, 3) := by decide +kernel
theorem twd_ex_endIsolate_17 : decode prog_3_method_13_code 17 = .ok (.goto 76, 3) := by decide +kernel
theorem twd_ex_endIsolate_20 : decode prog_3_method_13_code 20 = .ok (.aload_n 0, 1) := by decide +kernel
theorem twd_ex_endIsolate_21 : decode prog_3_method_13_code 21 = .ok (.getfield 38, 3) := by decide +kernel
theorem twd_ex_endIsolate_24 : decode prog_3_method_13_code 24 = .ok (.ifCond .le 69, 3) := by decide +kernel
theorem twd_ex_endIsolate_27 : decode prog_3_method_13_code 27 = .ok (.aload_n 0, 1) := by decide +kernel
theorem twd_ex_endIsolate_28 : decode prog_3_method_13_code 28 = .ok (.iconst 0, 1) := by decide +kernel
theorem twd_ex_endIsolate_29 : decode prog_3_method_13_code 29 = .ok (.putfield 35, 3) := by decide +kernel
theorem twd_ex_endIsolate_32 : decode prog_3_method_13_code 32 = .ok (.aload_n 0, 1) := by decide +kernel
theorem twd_ex_endIsolate_33 : decode prog_3_method_13_code 33 = .ok (.getfield 28, 3) := by decide +kernel
theorem twd_ex_endIsolate_36 : decode prog_3_method_13_code 36 = .ok (.istore_n 1, 1) := by decide +kernel
theorem twd_ex_endIsolate_37 : decode prog_3_method_13_code 37 = .ok (.iload_n 1, 1) := by decide +kernel
theorem twd_ex_endIsolate_38 : decode prog_3_method_13_code 38 = .ok (.ifCond .le 28, 3) := by decide +kernel
theorem twd_ex_endIsolate_41 : decode prog_3_method_13_code 41 = .ok (.aload_n 0, 1) := by decide +kernel
theorem twd_ex_endIsolate_42 : decode prog_3_method_13_code 42 = .ok (.getfield 24, 3) := by decide +kernel
theorem twd_ex_endIsolate_45 : decode prog_3_method_13_code 45 = .ok (.iload_n 1, 1) := by decide +kernel
theorem twd_ex_endIsolate_46 : decode prog_3_method_13_code 46 = .ok (.baload, 1) := by decide +kernel
theorem twd_ex_endIsolate_47 : decode prog_3_method_13_code 47 = .ok (.ifCond .ne 19, 3) := by decide +kernel
theorem twd_ex_endIsolate_50 : decode prog_3_method_13_code 50 = .ok (.aload_n 0, 1) := by decide +kernel
theorem twd_ex_endIsolate_51 : decode prog_3_method_13_code 51 = .ok (.dup, 1) := by decide +kernel
theorem twd_ex_endIsolate_52 : decode prog_3_method_13_code 52 = .ok (.getfield 28, 3) := by decide +kernel
theorem twd_ex_endIsolate_55 : decode prog_3_method_13_code 55 = .ok (.iconst 1, 1) := by decide +kernel
theorem twd_ex_endIsolate_56 : decode prog_3_method_13_code 56 = .ok (.isub, 1) := by decide +kernel
theorem twd_ex_endIsolate_57 : decode prog_3_method_13_code 57 = .ok (.putfield 28, 3) := by decide +kernel
theorem twd_ex_endIsolate_60 : decode prog_3_method_13_code 60 = .ok (.iinc 1 (-1), 3) := by decide +kernel
theorem twd_ex_endIsolate_63 : decode prog_3_method_13_code 63 = .ok (.goto (-26), 3) := by decide +kernel
theorem twd_ex_endIsolate_66 : decode prog_3_method_13_code 66 = .ok (.aload_n 0, 1) := by decide +kernel
theorem twd_ex_endIsolate_67 : decode prog_3_method_13_code 67 = .ok (.getfield 28, 3) := by decide +kernel
theorem twd_ex_endIsolate_70 : decode prog_3_method_13_code 70 = .ok (.ifCond .le 13, 3) := by decide +kernel
theorem twd_ex_endIsolate_73 : decode prog_3_method_13_code 73 = .ok (.aload_n 0, 1) := by decide +kernel
theorem twd_ex_endIsolate_74 : decode prog_3_method_13_code 74 = .ok (.dup, 1) := by decide +kernel
theorem twd_ex_endIsolate_75 : decode prog_3_method_13_code 75 = .ok (.getfield 28, 3) := by decide +kernel
theorem twd_ex_endIsolate_78 : decode prog_3_method_13_code 78 = .ok (.iconst 1, 1) := by decide +kernel
theorem twd_ex_endIsolate_79 : decode prog_3_method_13_code 79 = .ok (.isub, 1) := by decide +kernel
theorem twd_ex_endIsolate_80 : decode prog_3_method_13_code 80 = .ok (.putfield 28, 3) := by decide +kernel
theorem twd_ex_endIsolate_83 : decode prog_3_method_13_code 83 = .ok (.aload_n 0, 1) := by decide +kernel
theorem twd_ex_endIsolate_84 : decode prog_3_method_13_code 84 = .ok (.dup, 1) := by decide +kernel
theorem twd_ex_endIsolate_85 : decode prog_3_method_13_code 85 = .ok (.getfield 38, 3) := by decide +kernel
theorem twd_ex_endIsolate_88 : decode prog_3_method_13_code 88 = .ok (.iconst 1, 1) := by decide +kernel
theorem twd_ex_endIsolate_89 : decode prog_3_method_13_code 89 = .ok (.isub, 1) := by decide +kernel
theorem twd_ex_endIsolate_90 : decode prog_3_method_13_code 90 = .ok (.putfield 38, 3) := by decide +kernel
theorem twd_ex_endIsolate_93 : decode prog_3_method_13_code 93 = .ok (.return_, 1) := by decide +kernel
theorem twk_ex_endIsolate : tw_dc twy_ex_endIsolate 0 := ⟨by decide +kernel, by decide +kernel, by decide +kernel⟩
theorem twd_ex_endEmbedding_0 : decode prog_3_method_11_code 0 = .ok (.aload_n 0, 1) := by decide +kernel
theorem twd_ex_endEmbedding_1 : decode prog_3_method_11_code 1 = .ok (.getfield 32, 3) := by decide +kernel
theorem twd_ex_endEmbedding_4 : decode prog_3_method_11_code 4 = .ok (.ifCond .le 4, 3) := by decide +kernel
theorem twd_ex_endEmbedding_7 : decode prog_3_method_11_code 7 = .ok (.return_, 1) := by decide +kernel
theorem twd_ex_endEmbedding_8 : decode prog_3_method_11_code 8 = .ok (.aload_n 0, 1) := by decide +kernel
theorem twd_ex_endEmbedding_9 : decode prog_3_method_11_code 9 = .ok (.getfield 35, 3) := by decide +kernel
theorem twd_ex_endEmbedding_12 : decode prog_3_method_11_code 12 = .ok (.ifCond .le 16, 3) := by decide +kernel
theorem twd_ex_endEmbedding_15 : decode prog_3_method_11_code 15 = .ok (.aload_n 0, 1) := by decide +kernel
theorem twd_ex_endEmbedding_16 : decode prog_3_method_11_code 16 = .ok (.dup, 1) := by decide +kernel
theorem twd_ex_endEmbedding_17 : decode prog_3_method_11_code 17 = .ok (.getfield 35, 3) := by decide +kernel
theorem twd_ex_endEmbedding_20 : decode prog_3_method_11_code 20 = .ok (.iconst 1, 1) := by decide +kernel
theorem twd_ex_endEmbedding_21 : decode prog_3_method_11_code 21 = .ok (.isub, 1) := by decide +kernel
theorem twd_ex_endEmbedding_22 : decode prog_3_method_11_code 22 = .ok (.putfield 35, 3) := by decide +kernel
theorem twd_ex_endEmbedding_25 : decode prog_3_method_11_code 25 = .ok (.goto 32, 3) := by decide +kernel
theorem twd_ex_endEmbedding_28 : decode prog_3_method_11_code 28 = .ok (.aload_n 0, 1) := by decide +kernel
theorem twd_ex_endEmbedding_29 : decode prog_3_method_11_code 29 = .ok (.getfield 28, 3) := by decide +kernel
theorem twd_ex_endEmbedding_32 : decode prog_3_method_11_code 32 = .ok (.ifCond .le 25, 3) := by decide +kernel
theorem twd_ex_endEmbedding_35 : decode prog_3_method_11_code 35 = .ok (.aload_n 0, 1) := by decide +kernel
theorem twd_ex_endEmbedding_36 : decode prog_3_method_11_code 36 = .ok (.getfield 24, 3) := by decide +kernel
theorem twd_ex_endEmbedding_39 : decode prog_3_method_11_code 39 = .ok (.aload_n 0, 1) := by decide +kernel
theorem twd_ex_endEmbedding_40 : decode prog_3_method_11_code 40 = .ok (.getfield 28, 3) := by decide +kernel
theorem twd_ex_endEmbedding_43 : decode prog_3_method_11_code 43 = .ok (.baload, 1) := by decide +kernel
theorem twd_ex_endEmbedding_44 : decode prog_3_method_11_code 44 = .ok (.ifCond .ne 13, 3) := by decide +kernel
theorem twd_ex_endEmbedding_47 : decode prog_3_method_11_code 47 = .ok (.aload_n 0, 1) := by decide +kernel
theorem twd_ex_endEmbedding_48 : decode prog_3_method_11_code 48 = .ok (.dup, 1) := by decide +kernel
theorem twd_ex_endEmbedding_49 : decode prog_3_method_11_code 49 = .ok (.getfield 28, 3) := by decide +kernel
theorem twd_ex_endEmbedding_52 : decode prog_3_method_11_code 52 = .ok (.iconst 1, 1) := by decide +kernel
theorem twd_ex_endEmbedding_53 : decode prog_3_method_11_code 53 = .ok (.isub, 1) := by decide +kernel
theorem twd_ex_endEmbedding_54 : decode prog_3_method_11_code 54 = .ok (.putfield 28, 3) := by decide +kernel
theorem twd_ex_endEmbedding_57 : decode prog_3_method_11_code 57 = .ok (.return_, 1) := by decide +kernel
theorem twk_ex_endEmbedding : tw_dc twy_ex_endEmbedding 0 := ⟨by decide +kernel, by decide +kernel, by decide +kernel⟩
theorem twd_tl_isHidden_0 : decode prog_1_method_23_code 0 = .ok (.iload_n 0, 1) := by decide +kernel
theorem twd_tl_isHidden_1 : decode prog_1_method_23_code 1 = .ok (.bipush 12, 2) := by decide +kernel
theorem twd_tl_isHidden_3 : decode prog_1_method_23_code 3 = .ok (.if_icmp .lt 13, 3) := by decide +kernel
theorem twd_tl_isHidden_6 : decode prog_1_method_23_code 6 = .ok (.iload_n 0, 1) := by decide +kernel
theorem twd_tl_isHidden_7 : decode prog_1_method_23_code 7 = .ok (.bipush 16, 2) := by decide +kernel
theorem twd_tl_isHidden_9 : decode prog_1_method_23_code 9 = .ok (.if_icmp .gt 7, 3) := by decide +kernel
theorem twd_tl_isHidden_12 : decode prog_1_method_23_code 12 = .ok (.iconst 1, 1) := by decide +kernel
theorem twd_tl_isHidden_13 : decode prog_1_method_23_code 13 = .ok (.goto 4, 3) := by decide +kernel
theorem twd_tl_isHidden_16 : decode prog_1_method_23_code 16 = .ok (.iconst 0, 1) := by decide +kernel
theorem twd_tl_isHidden_17 : decode prog_1_method_23_code 17 = .ok (.ireturn, 1) := by decide +kernel
theorem twk_tl_isHidden : tw_dc twy_tl_isHidden 1 := ⟨by decide +kernel, by decide +kernel, by decide +kernel⟩
theorem twd_tl_isOdd_0 : decode prog_1_method_22_code 0 = .ok (.iload_n 0, 1) := by decide +kernel
theorem twd_tl_isOdd_1 : decode prog_1_method_22_code 1 = .ok (.iconst 1, 1) := by decide +kernel
theorem twd_tl_isOdd_2 : decode prog_1_method_22_code 2 = .ok (.iand, 1) := by decide +kernel
theorem twd_tl_isOdd_3 : decode prog_1_method_22_code 3 = .ok (.iconst 1, 1) := by decide +kernel
theorem twd_tl_isOdd_4 : decode prog_1_method_22_code 4 = .ok (.if_icmp .ne 7, 3) := by decide +kernel
theorem twd_tl_isOdd_7 : decode prog_1_method_22_code 7 = .ok (.iconst 1, 1) := by decide +kernel
theorem twd_tl_isOdd_8 : decode prog_1_method_22_code 8 = .ok (.goto 4, 3) := by decide +kernel
theorem twd_tl_isOdd_11 : decode prog_1_method_22_code 11 = .ok (.iconst 0, 1) := by decide +kernel
theorem twd_tl_isOdd_12 : decode prog_1_method_22_code 12 = .ok (.ireturn, 1) := by decide +kernel
theorem twk_tl_isOdd : tw_dc twy_tl_isOdd 1 := ⟨by decide +kernel, by decide +kernel, by decide +kernel⟩
theorem twd_ex_nextLevel_0 : decode prog_3_method_6_code 0 = .ok (.aload_n 0, 1) := by decide +kernel
theorem twd_ex_nextLevel_1 : decode prog_3_method_6_code 1 = .ok (.getfield 18, 3) := by decide +kernel
theorem twd_ex_nextLevel_4 : decode prog_3_method_6_code 4 = .ok (.aload_n 0, 1) := by decide +kernel
theorem twd_ex_nextLevel_5 : decode prog_3_method_6_code 5 = .ok (.getfield 28, 3) := by decide +kernel
theorem twd_ex_nextLevel_8 : decode prog_3_method_6_code 8 = .ok (.iaload, 1) := by decide +kernel
theorem twd_ex_nextLevel_9 : decode prog_3_method_6_code 9 = .ok (.iconst 1, 1) := by decide +kernel
theorem twd_ex_nextLevel_10 : decode prog_3_method_6_code 10 = .ok (.iadd, 1) := by decide +kernel
theorem twd_ex_nextLevel_11 : decode prog_3_method_6_code 11 = .ok (.istore_n 2, 1) := by decide +kernel
theorem twd_ex_nextLevel_12 : decode prog_3_method_6_code 12 = .ok (.iload_n 2, 1) := by decide +kernel
theorem twd_ex_nextLevel_13 : decode prog_3_method_6_code 13 = .ok (.invokestatic 90, 3) := by decide +kernel
theorem twd_ex_nextLevel_16 : decode prog_3_method_6_code 16 = .ok (.iload_n 1, 1) := by decide +kernel
theorem twd_ex_nextLevel_17 : decode prog_3_method_6_code 17 = .ok (.if_icmp .ne 7, 3) := by decide +kernel
theorem twd_ex_nextLevel_20 : decode prog_3_method_6_code 20 = .ok (.iload_n 2, 1) := by decide +kernel
theorem twd_ex_nextLevel_21 : decode prog_3_method_6_code 21 = .ok (.goto 6, 3) := by decide +kernel
theorem twd_ex_nextLevel_24 : decode prog_3_method_6_code 24 = .ok (.iload_n 2, 1) := by decide +kernel
theorem twd_ex_nextLevel_25 : decode prog_3_method_6_code 25 = .ok (.iconst 1, 1) := by decide +kernel
theorem twd_ex_nextLevel_26 : decode prog_3_method_6_code 26 = .ok (.iadd, 1) := by decide +kernel
theorem twd_ex_nextLevel_27 : decode prog_3_method_6_code 27 = .ok (.ireturn, 1) := by decide +kernel
theorem twk_ex_nextLevel : tw_dc twy_ex_nextLevel 1 := ⟨by decide +kernel, by decide +kernel, by decide +kernel⟩
theorem twd_ex_fits_0 : decode prog_3_method_7_code 0 = .ok (.iload_n 1, 1) := by decide +kernel
theorem twd_ex_fits_1 : decode prog_3_method_7_code 1 = .ok (.iconst 5, 1) := by decide +kernel
theorem twd_ex_fits_2 : decode prog_3_method_7_code 2 = .ok (.if_icmp .gt 21, 3) := by decide +kernel
theorem twd_ex_fits_5 : decode prog_3_method_7_code 5 = .ok (.aload_n 0, 1) := by decide +kernel
theorem twd_ex_fits_6 : decode prog_3_method_7_code 6 = .ok (.getfield 32, 3) := by decide +kernel
theorem twd_ex_fits_9 : decode prog_3_method_7_code 9 = .ok (.ifCond .ne 14, 3) := by decide +kernel
theorem twd_ex_fits_12 : decode prog_3_method_7_code 12 = .ok (.aload_n 0, 1) := by decide +kernel
theorem twd_ex_fits_13 : decode prog_3_method_7_code 13 = .ok (.getfield 35, 3) := by decide +kernel
theorem twd_ex_fits_16 : decode prog_3_method_7_code 16 = .ok (.ifCond .ne 7, 3) := by decide +kernel
theorem twd_ex_fits_19 : decode prog_3_method_7_code 19 = .ok (.iconst 1, 1) := by decide +kernel
theorem twd_ex_fits_20 : decode prog_3_method_7_code 20 = .ok (.goto 4, 3) := by decide +kernel
theorem twd_ex_fits_23 : decode prog_3_method_7_code 23 = .ok (.iconst 0, 1) := by decide +kernel
theorem twd_ex_fits_24 : decode prog_3_method_7_code 24 = .ok (.ireturn, 1) := by decide +kernel
theorem twk_ex_fits : tw_dc twy_ex_fits 1 := ⟨by decide +kernel, by decide +kernel, by decide +kernel⟩
theorem twd_ex_overrideOf_0 : decode prog_3_method_10_code 0 = .ok (.iload_n 0, 1) := by decide +kernel
theorem twd_ex_overrideOf_1 : decode prog_3_method_10_code 1 = .ok (.bipush 14, 2) := by decide +kernel
theorem twd_ex_overrideOf_3 : decode prog_3_method_10_code 3 = .ok (.if_icmp .ne 5, 3) := by decide +kernel
theorem twd_ex_overrideOf_6 : decode prog_3_method_10_code 6 = .ok (.iconst 0, 1) := by decide +kernel
theorem twd_ex_overrideOf_7 : decode prog_3_method_10_code 7 = .ok (.ireturn, 1) := by decide +kernel
theorem twd_ex_overrideOf_8 : decode prog_3_method_10_code 8 = .ok (.iload_n 0, 1) := by decide +kernel
theorem twd_ex_overrideOf_9 : decode prog_3_method_10_code 9 = .ok (.bipush 15, 2) := by decide +kernel
theorem twd_ex_overrideOf_11 : decode prog_3_method_10_code 11 = .ok (.if_icmp .ne 7, 3) := by decide +kernel
theorem twd_ex_overrideOf_14 : decode prog_3_method_10_code 14 = .ok (.iconst 1, 1) := by decide +kernel
theorem twd_ex_overrideOf_15 : decode prog_3_method_10_code 15 = .ok (.goto 4, 3) := by decide +kernel
theorem twd_ex_overrideOf_18 : decode prog_3_method_10_code 18 = .ok (.iconst (-1), 1) := by decide +kernel
theorem twd_ex_overrideOf_19 : decode prog_3_method_10_code 19 = .ok (.ireturn, 1) := by decide +kernel
theorem twk_ex_overrideOf : tw_dc twy_ex_overrideOf 1 := ⟨by decide +kernel, by decide +kernel, by decide +kernel⟩
theorem twd_ex_push_0 : decode prog_3_method_8_code 0 = .ok (.aload_n 0, 1) := by decide +kernel
theorem twd_ex_push_1 : decode prog_3_method_8_code 1 = .ok (.getfield 28, 3) := by decide +kernel
theorem twd_ex_push_4 : decode prog_3_method_8_code 4 = .ok (.iconst 5, 1) := by decide +kernel
theorem twd_ex_push_5 : decode prog_3_method_8_code 5 = .ok (.if_icmp .ge 43, 3) := by decide +kernel
theorem twd_ex_push_8 : decode prog_3_method_8_code 8 = .ok (.aload_n 0, 1) := by decide +kernel
theorem twd_ex_push_9 : decode prog_3_method_8_code 9 = .ok (.dup, 1) := by decide +kernel
theorem twd_ex_push_10 : decode prog_3_method_8_code 10 = .ok (.getfield 28, 3) := by decide +kernel
theorem twd_ex_push_13 : decode prog_3_method_8_code 13 = .ok (.iconst 1, 1) := by decide +kernel
theorem twd_ex_push_14 : decode prog_3_method_8_code 14 = .ok (.iadd, 1) := by decide +kernel
theorem twd_ex_push_15 : decode prog_3_method_8_code 15 = .ok (.putfield 28, 3) := by decide +kernel
theorem twd_ex_push_18 : decode prog_3_method_8_code 18 = .ok (.aload_n 0, 1) := by decide +kernel
theorem twd_ex_push_19 : decode prog_3_method_8_code 19 = .ok (.getfield 18, 3) := by decide +kernel
theorem twd_ex_push_22 : decode prog_3_method_8_code 22 = .ok (.aload_n 0, 1) := by decide +kernel
theorem twd_ex_push_23 : decode prog_3_method_8_code 23 = .ok (.getfield 28, 3) := by decide +kernel
theorem twd_ex_push_26 : decode prog_3_method_8_code 26 = .ok (.iload_n 1, 1) := by decide +kernel
theorem twd_ex_push_27 : decode prog_3_method_8_code 27 = .ok (.iastore, 1) := by decide +kernel
theorem twd_ex_push_28 : decode prog_3_method_8_code 28 = .ok (.aload_n 0, 1) := by decide +kernel
theorem twd_ex_push_29 : decode prog_3_method_8_code 29 = .ok (.getfield 21, 3) := by decide +kernel
theorem twd_ex_push_32 : decode prog_3_method_8_code 32 = .ok (.aload_n 0, 1) := by decide +kernel
theorem twd_ex_push_33 : decode prog_3_method_8_code 33 = .ok (.getfield 28, 3) := by decide +kernel
theorem twd_ex_push_36 : decode prog_3_method_8_code 36 = .ok (.iload_n 2, 1) := by decide +kernel
theorem twd_ex_push_37 : decode prog_3_method_8_code 37 = .ok (.iastore, 1) := by decide +kernel
theorem twd_ex_push_38 : decode prog_3_method_8_code 38 = .ok (.aload_n 0, 1) := by decide +kernel
theorem twd_ex_push_39 : decode prog_3_method_8_code 39 = .ok (.getfield 24, 3) := by decide +kernel
theorem twd_ex_push_42 : decode prog_3_method_8_code 42 = .ok (.aload_n 0, 1) := by decide +kernel
theorem twd_ex_push_43 : decode prog_3_method_8_code 43 = .ok (.getfield 28, 3) := by decide +kernel
theorem twd_ex_push_46 : decode prog_3_method_8_code 46 = .ok (.iload_n 3, 1) := by decide +kernel
theorem twd_ex_push_47 : decode prog_3_method_8_code 47 = .ok (.bastore, 1) := by decide +kernel
theorem twd_ex_push_48 : decode prog_3_method_8_code 48 = .ok (.return_, 1) := by decide +kernel
theorem twk_ex_push : tw_dc twy_ex_push 3 := ⟨by decide +kernel, by decide +kernel, by decide +kernel⟩
theorem twd_ex_beginEmbedding_0 : decode prog_3_method_9_code 0 = .ok (.aload_n 0, 1) := by decide +kernel
theorem twd_ex_beginEmbedding_1 : decode prog_3_method_9_code 1 = .ok (.iload_n 1, 1) := by decide +kernel
theorem twd_ex_beginEmbedding_2 : decode prog_3_method_9_code 2 = .ok (.bipush 13, 2) := by decide +kernel
theorem twd_ex_beginEmbedding_4 : decode prog_3_method_9_code 4 = .ok (.if_icmp .eq 9, 3) := by decide +kernel
theorem twd_ex_beginEmbedding_7 : decode prog_3_method_9_code 7 = .ok (.iload_n 1, 1) := by decide +kernel
theorem twd_ex_beginEmbedding_8 : decode prog_3_method_9_code 8 = .ok (.bipush 15, 2) := by decide +kernel
theorem twd_ex_beginEmbedding_10 : decode prog_3_method_9_code 10 = .ok (.if_icmp .ne 7, 3) := by decide +kernel
theorem twd_ex_beginEmbedding_13 : decode prog_3_method_9_code 13 = .ok (.iconst 1, 1) := by decide +kernel
theorem twd_ex_beginEmbedding_14 : decode prog_3_method_9_code 14 = .ok (.goto 4, 3) := by decide +kernel
theorem twd_ex_beginEmbedding_17 : decode prog_3_method_9_code 17 = .ok (.iconst 0, 1) := by decide +kernel
theorem twd_ex_beginEmbedding_18 : decode prog_3_method_9_code 18 = .ok (.invokevirtual 93, 3) := by decide +kernel
theorem twd_ex_beginEmbedding_21 : decode prog_3_method_9_code 21 = .ok (.istore_n 2, 1) := by decide +kernel
theorem twd_ex_beginEmbedding_22 : decode prog_3_method_9_code 22 = .ok (.aload_n 0, 1) := by decide +kernel
theorem twd_ex_beginEmbedding_23 : decode prog_3_method_9_code 23 = .ok (.iload_n 2, 1) := by decide +kernel
theorem twd_ex_beginEmbedding_24 : decode prog_3_method_9_code 24 = .ok (.invokevirtual 97, 3) := by decide +kernel
theorem twd_ex_beginEmbedding_27 : decode prog_3_method_9_code 27 = .ok (.ifCond .eq 16, 3) := by decide +kernel
theorem twd_ex_beginEmbedding_30 : decode prog_3_method_9_code 30 = .ok (.aload_n 0, 1) := by decide +kernel
theorem twd_ex_beginEmbedding_31 : decode prog_3_method_9_code 31 = .ok (.iload_n 2, 1) := by decide +kernel
theorem twd_ex_beginEmbedding_32 : decode prog_3_method_9_code 32 = .ok (.iload_n 1, 1) := by decide +kernel
theorem twd_ex_beginEmbedding_33 : decode prog_3_method_9_code 33 = .ok (.invokestatic 100, 3) := by decide +kernel
theorem twd_ex_beginEmbedding_36 : decode prog_3_method_9_code 36 = .ok (.iconst 0, 1) := by decide +kernel
theorem twd_ex_beginEmbedding_37 : decode prog_3_method_9_code 37 = .ok (.invokevirtual 104, 3) := by decide +kernel
theorem twd_ex_beginEmbedding_40 : decode prog_3_method_9_code 40 = .ok (.goto 20, 3) := by decide +kernel
theorem twd_ex_beginEmbedding_43 : decode prog_3_method_9_code 43 = .ok (.aload_n 0, 1) := by decide +kernel
theorem twd_ex_beginEmbedding_44 : decode prog_3_method_9_code 44 = .ok (.getfield 32, 3) := by decide +kernel
theorem twd_ex_beginEmbedding_47 : decode prog_3_method_9_code 47 = .ok (.ifCond .ne 13, 3) := by decide +kernel
theorem twd_ex_beginEmbedding_50 : decode prog_3_method_9_code 50 = .ok (.aload_n 0, 1) := by decide +kernel
theorem twd_ex_beginEmbedding_51 : decode prog_3_method_9_code 51 = .ok (.dup, 1) := by decide +kernel
theorem twd_ex_beginEmbedding_52 : decode prog_3_method_9_code 52 = .ok (.getfield 35, 3) := by decide +kernel
theorem twd_ex_beginEmbedding_55 : decode prog_3_method_9_code 55 = .ok (.iconst 1, 1) := by decide +kernel
theorem twd_ex_beginEmbedding_56 : decode prog_3_method_9_code 56 = .ok (.iadd, 1) := by decide +kernel
theorem twd_ex_beginEmbedding_57 : decode prog_3_method_9_code 57 = .ok (.putfield 35, 3) := by decide +kernel
theorem twd_ex_beginEmbedding_60 : decode prog_3_method_9_code 60 = .ok (.return_, 1) := by decide +kernel
theorem twk_ex_beginEmbedding : tw_dc twy_ex_beginEmbedding 1 := ⟨by decide +kernel, by decide +kernel, by decide +kernel⟩
theorem twd_ex_give_0 : decode prog_3_method_4_code 0 = .ok (.aload_n 0, 1) := by decide +kernel
theorem twd_ex_give_1 : decode prog_3_method_4_code 1 = .ok (.getfield 9, 3) := by decide +kernel
theorem twd_ex_give_4 : decode prog_3_method_4_code 4 = .ok (.iload_n 1, 1) := by decide +kernel
theorem twd_ex_give_5 : decode prog_3_method_4_code 5 = .ok (.aload_n 0, 1) := by decide +kernel
theorem twd_ex_give_6 : decode prog_3_method_4_code 6 = .ok (.getfield 18, 3) := by decide +kernel
theorem twd_ex_give_9 : decode prog_3_method_4_code 9 = .ok (.aload_n 0, 1) := by decide +kernel
theorem twd_ex_give_10 : decode prog_3_method_4_code 10 = .ok (.getfield 28, 3) := by decide +kernel
theorem twd_ex_give_13 : decode prog_3_method_4_code 13 = .ok (.iaload, 1) := by decide +kernel
theorem twd_ex_give_14 : decode prog_3_method_4_code 14 = .ok (.iastore, 1) := by decide +kernel
theorem twd_ex_give_15 : decode prog_3_method_4_code 15 = .ok (.aload_n 0, 1) := by decide +kernel
theorem twd_ex_give_16 : decode prog_3_method_4_code 16 = .ok (.getfield 15, 3) := by decide +kernel
theorem twd_ex_give_19 : decode prog_3_method_4_code 19 = .ok (.iload_n 1, 1) := by decide +kernel
theorem twd_ex_give_20 : decode prog_3_method_4_code 20 = .ok (.aload_n 0, 1) := by decide +kernel
theorem twd_ex_give_21 : decode prog_3_method_4_code 21 = .ok (.getfield 21, 3) := by decide +kernel
theorem twd_ex_give_24 : decode prog_3_method_4_code 24 = .ok (.aload_n 0, 1) := by decide +kernel
theorem twd_ex_give_25 : decode prog_3_method_4_code 25 = .ok (.getfield 28, 3) := by decide +kernel
theorem twd_ex_give_28 : decode prog_3_method_4_code 28 = .ok (.iaload, 1) := by decide +kernel
theorem twd_ex_give_29 : decode prog_3_method_4_code 29 = .ok (.iconst (-1), 1) := by decide +kernel
theorem twd_ex_give_30 : decode prog_3_method_4_code 30 = .ok (.if_icmp .ne 7, 3) := by decide +kernel
theorem twd_ex_give_33 : decode prog_3_method_4_code 33 = .ok (.iload_n 2, 1) := by decide +kernel
theorem twd_ex_give_34 : decode prog_3_method_4_code 34 = .ok (.goto 12, 3) := by decide +kernel
theorem twd_ex_give_37 : decode prog_3_method_4_code 37 = .ok (.aload_n 0, 1) := by decide +kernel
theorem twd_ex_give_38 : decode prog_3_method_4_code 38 = .ok (.getfield 21, 3) := by decide +kernel
theorem twd_ex_give_41 : decode prog_3_method_4_code 41 = .ok (.aload_n 0, 1) := by decide +kernel
theorem twd_ex_give_42 : decode prog_3_method_4_code 42 = .ok (.getfield 28, 3) := by decide +kernel
theorem twd_ex_give_45 : decode prog_3_method_4_code 45 = .ok (.iaload, 1) := by decide +kernel
theorem twd_ex_give_46 : decode prog_3_method_4_code 46 = .ok (.iastore, 1) := by decide +kernel
theorem twd_ex_give_47 : decode prog_3_method_4_code 47 = .ok (.return_, 1) := by decide +kernel
theorem twk_ex_give : tw_dc twy_ex_give 2 := ⟨by decide +kernel, by decide +kernel, by decide +kernel⟩
theorem twd_ex_wantsOdd_0 : decode prog_3_method_5_code 0 = .ok (.aload_n 1, 1) := by decide +kernel
theorem twd_ex_wantsOdd_1 : decode prog_3_method_5_code 1 = .ok (.getfield 50, 3) := by decide +kernel
theorem twd_ex_wantsOdd_4 : decode prog_3_method_5_code 4 = .ok (.iload_n 3, 1) := by decide +kernel
theorem twd_ex_wantsOdd_5 : decode prog_3_method_5_code 5 = .ok (.iaload, 1) := by decide +kernel
theorem twd_ex_wantsOdd_6 : decode prog_3_method_5_code 6 = .ok (.bipush 19, 2) := by decide +kernel
theorem twd_ex_wantsOdd_8 : decode prog_3_method_5_code 8 = .ok (.if_icmp .eq 20, 3) := by decide +kernel
theorem twd_ex_wantsOdd_11 : decode prog_3_method_5_code 11 = .ok (.aload_n 1, 1) := by decide +kernel
theorem twd_ex_wantsOdd_12 : decode prog_3_method_5_code 12 = .ok (.getfield 50, 3) := by decide +kernel
theorem twd_ex_wantsOdd_15 : decode prog_3_method_5_code 15 = .ok (.iload_n 3, 1) := by decide +kernel
theorem twd_ex_wantsOdd_16 : decode prog_3_method_5_code 16 = .ok (.iaload, 1) := by decide +kernel
theorem twd_ex_wantsOdd_17 : decode prog_3_method_5_code 17 = .ok (.bipush 18, 2) := by decide +kernel
theorem twd_ex_wantsOdd_19 : decode prog_3_method_5_code 19 = .ok (.if_icmp .ne 7, 3) := by decide +kernel
theorem twd_ex_wantsOdd_22 : decode prog_3_method_5_code 22 = .ok (.iconst 1, 1) := by decide +kernel
theorem twd_ex_wantsOdd_23 : decode prog_3_method_5_code 23 = .ok (.goto 4, 3) := by decide +kernel
theorem twd_ex_wantsOdd_26 : decode prog_3_method_5_code 26 = .ok (.iconst 0, 1) := by decide +kernel
theorem twd_ex_wantsOdd_27 : decode prog_3_method_5_code 27 = .ok (.ireturn, 1) := by decide +kernel
theorem twd_ex_wantsOdd_28 : decode prog_3_method_5_code 28 = .ok (.aload_n 2, 1) := by decide +kernel
theorem twd_ex_wantsOdd_29 : decode prog_3_method_5_code 29 = .ok (.getfield 81, 3) := by decide +kernel
theorem twd_ex_wantsOdd_32 : decode prog_3_method_5_code 32 = .ok (.iload_n 3, 1) := by decide +kernel
theorem twd_ex_wantsOdd_33 : decode prog_3_method_5_code 33 = .ok (.iaload, 1) := by decide +kernel
theorem twd_ex_wantsOdd_34 : decode prog_3_method_5_code 34 = .ok (.istore 4, 2) := by decide +kernel
theorem twd_ex_wantsOdd_36 : decode prog_3_method_5_code 36 = .ok (.iload 4, 2) := by decide +kernel
theorem twd_ex_wantsOdd_38 : decode prog_3_method_5_code 38 = .ok (.iconst (-1), 1) := by decide +kernel
theorem twd_ex_wantsOdd_39 : decode prog_3_method_5_code 39 = .ok (.if_icmp .ne 10, 3) := by decide +kernel
theorem twd_ex_wantsOdd_42 : decode prog_3_method_5_code 42 = .ok (.aload_n 1, 1) := by decide +kernel
theorem twd_ex_wantsOdd_43 : decode prog_3_method_5_code 43 = .ok (.getfield 45, 3) := by decide +kernel
theorem twd_ex_wantsOdd_46 : decode prog_3_method_5_code 46 = .ok (.goto 5, 3) := by decide +kernel
theorem twd_ex_wantsOdd_49 : decode prog_3_method_5_code 49 = .ok (.iload 4, 2) := by decide +kernel
theorem twd_ex_wantsOdd_51 : decode prog_3_method_5_code 51 = .ok (.istore 5, 2) := by decide +kernel
theorem twd_ex_wantsOdd_53 : decode prog_3_method_5_code 53 = .ok (.aload_n 2, 1) := by decide +kernel
theorem twd_ex_wantsOdd_54 : decode prog_3_method_5_code 54 = .ok (.aload_n 1, 1) := by decide +kernel
theorem twd_ex_wantsOdd_55 : decode prog_3_method_5_code 55 = .ok (.iload_n 3, 1) := by decide +kernel
theorem twd_ex_wantsOdd_56 : decode prog_3_method_5_code 56 = .ok (.iconst 1, 1) := by decide +kernel
theorem twd_ex_wantsOdd_57 : decode prog_3_method_5_code 57 = .ok (.iadd, 1) := by decide +kernel
theorem twd_ex_wantsOdd_58 : decode prog_3_method_5_code 58 = .ok (.iload 5, 2) := by decide +kernel
theorem twd_ex_wantsOdd_60 : decode prog_3_method_5_code 60 = .ok (.invokevirtual 86, 3) := by decide +kernel
theorem twd_ex_wantsOdd_63 : decode prog_3_method_5_code 63 = .ok (.iconst 1, 1) := by decide +kernel
theorem twd_ex_wantsOdd_64 : decode prog_3_method_5_code 64 = .ok (.if_icmp .ne 7, 3) := by decide +kernel
theorem twd_ex_wantsOdd_67 : decode prog_3_method_5_code 67 = .ok (.iconst 1, 1) := by decide +kernel
theorem twd_ex_wantsOdd_68 : decode prog_3_method_5_code 68 = .ok (.goto 4, 3) := by decide +kernel
theorem twd_ex_wantsOdd_71 : decode prog_3_method_5_code 71 = .ok (.iconst 0, 1) := by decide +kernel
theorem twd_ex_wantsOdd_72 : decode prog_3_method_5_code 72 = .ok (.ireturn, 1) := by decide +kernel
theorem twk_ex_wantsOdd : tw_dc twy_ex_wantsOdd 3 := ⟨by decide +kernel, by decide +kernel, by decide +kernel⟩
theorem twd_ex_beginIsolate_0 : decode prog_3_method_12_code 0 = .ok (.aload_n 0, 1) := by decide +kernel
theorem twd_ex_beginIsolate_1 : decode prog_3_method_12_code 1 = .ok (.iload_n 1, 1) := by decide +kernel
theorem twd_ex_beginIsolate_2 : decode prog_3_method_12_code 2 = .ok (.invokevirtual 93, 3) := by decide +kernel
theorem twd_ex_beginIsolate_5 : decode prog_3_method_12_code 5 = .ok (.istore_n 2, 1) := by decide +kernel
theorem twd_ex_beginIsolate_6 : decode prog_3_method_12_code 6 = .ok (.aload_n 0, 1) := by decide +kernel
theorem twd_ex_beginIsolate_7 : decode prog_3_method_12_code 7 = .ok (.iload_n 2, 1) := by decide +kernel
theorem twd_ex_beginIsolate_8 : decode prog_3_method_12_code 8 = .ok (.invokevirtual 97, 3) := by decide +kernel
theorem twd_ex_beginIsolate_11 : decode prog_3_method_12_code 11 = .ok (.ifCond .eq 23, 3) := by decide +kernel
theorem twd_ex_beginIsolate_14 : decode prog_3_method_12_code 14 = .ok (.aload_n 0, 1) := by decide +kernel
theorem twd_ex_beginIsolate_15 : decode prog_3_method_12_code 15 = .ok (.dup, 1) := by decide +kernel
theorem twd_ex_beginIsolate_16 : decode prog_3_method_12_code 16 = .ok (.getfield 38, 3) := by decide +kernel
theorem twd_ex_beginIsolate_19 : decode prog_3_method_12_code 19 = .ok (.iconst 1, 1) := by decide +kernel
theorem twd_ex_beginIsolate_20 : decode prog_3_method_12_code 20 = .ok (.iadd, 1) := by decide +kernel
theorem twd_ex_beginIsolate_21 : decode prog_3_method_12_code 21 = .ok (.putfield 38, 3) := by decide +kernel
theorem twd_ex_beginIsolate_24 : decode prog_3_method_12_code 24 = .ok (.aload_n 0, 1) := by decide +kernel
theorem twd_ex_beginIsolate_25 : decode prog_3_method_12_code 25 = .ok (.iload_n 2, 1) := by decide +kernel
theorem twd_ex_beginIsolate_26 : decode prog_3_method_12_code 26 = .ok (.iconst (-1), 1) := by decide +kernel
theorem twd_ex_beginIsolate_27 : decode prog_3_method_12_code 27 = .ok (.iconst 1, 1) := by decide +kernel
theorem twd_ex_beginIsolate_28 : decode prog_3_method_12_code 28 = .ok (.invokevirtual 104, 3) := by decide +kernel
theorem twd_ex_beginIsolate_31 : decode prog_3_method_12_code 31 = .ok (.goto 13, 3) := by decide +kernel
theorem twd_ex_beginIsolate_34 : decode prog_3_method_12_code 34 = .ok (.aload_n 0, 1) := by decide +kernel
theorem twd_ex_beginIsolate_35 : decode prog_3_method_12_code 35 = .ok (.dup, 1) := by decide +kernel
theorem twd_ex_beginIsolate_36 : decode prog_3_method_12_code 36 = .ok (.getfield 32, 3) := by decide +kernel
theorem twd_ex_beginIsolate_39 : decode prog_3_method_12_code 39 = .ok (.iconst 1, 1) := by decide +kernel
theorem twd_ex_beginIsolate_40 : decode prog_3_method_12_code 40 = .ok (.iadd, 1) := by decide +kernel
theorem twd_ex_beginIsolate_41 : decode prog_3_method_12_code 41 = .ok (.putfield 32, 3) := by decide +kernel
theorem twd_ex_beginIsolate_44 : decode prog_3_method_12_code 44 = .ok (.return_, 1) := by decide +kernel
theorem twk_ex_beginIsolate : tw_dc twy_ex_beginIsolate 1 := ⟨by decide +kernel, by decide +kernel, by decide +kernel⟩
theorem twd_ex_assign_0 : decode prog_3_method_2_code 0 = .ok (.aload_n 0, 1) := by decide +kernel
theorem twd_ex_assign_1 : decode prog_3_method_2_code 1 = .ok (.iload_n 3, 1) := by decide +kernel
theorem twd_ex_assign_2 : decode prog_3_method_2_code 2 = .ok (.invokevirtual 41, 3) := by decide +kernel
theorem twd_ex_assign_5 : decode prog_3_method_2_code 5 = .ok (.iconst 0, 1) := by decide +kernel
theorem twd_ex_assign_6 : decode prog_3_method_2_code 6 = .ok (.istore 4, 2) := by decide +kernel
theorem twd_ex_assign_8 : decode prog_3_method_2_code 8 = .ok (.iload 4, 2) := by decide +kernel
theorem twd_ex_assign_10 : decode prog_3_method_2_code 10 = .ok (.aload_n 1, 1) := by decide +kernel
theorem twd_ex_assign_11 : decode prog_3_method_2_code 11 = .ok (.getfield 45, 3) := by decide +kernel
theorem twd_ex_assign_14 : decode prog_3_method_2_code 14 = .ok (.if_icmp .ge 88, 3) := by decide +kernel
theorem twd_ex_assign_17 : decode prog_3_method_2_code 17 = .ok (.aload_n 1, 1) := by decide +kernel
theorem twd_ex_assign_18 : decode prog_3_method_2_code 18 = .ok (.getfield 50, 3) := by decide +kernel
theorem twd_ex_assign_21 : decode prog_3_method_2_code 21 = .ok (.iload 4, 2) := by decide +kernel
theorem twd_ex_assign_23 : decode prog_3_method_2_code 23 = .ok (.iaload, 1) := by decide +kernel
theorem twd_ex_assign_24 : decode prog_3_method_2_code 24 = .ok (.istore 5, 2) := by decide +kernel
theorem twd_ex_assign_26 : decode prog_3_method_2_code 26 = .ok (.iload 5, 2) := by decide +kernel
theorem twd_ex_assign_28 : decode prog_3_method_2_code 28 = .ok (.bipush 20, 2) := by decide +kernel
theorem twd_ex_assign_30 : decode prog_3_method_2_code 30 = .ok (.if_icmp .ne 7, 3) := by decide +kernel
theorem twd_ex_assign_33 : decode prog_3_method_2_code 33 = .ok (.aload_n 0, 1) := by decide +kernel
theorem twd_ex_assign_34 : decode prog_3_method_2_code 34 = .ok (.invokevirtual 53, 3) := by decide +kernel
theorem twd_ex_assign_37 : decode prog_3_method_2_code 37 = .ok (.iload 5, 2) := by decide +kernel
theorem twd_ex_assign_39 : decode prog_3_method_2_code 39 = .ok (.bipush 16, 2) := by decide +kernel
theorem twd_ex_assign_41 : decode prog_3_method_2_code 41 = .ok (.if_icmp .ne 10, 3) := by decide +kernel
theorem twd_ex_assign_44 : decode prog_3_method_2_code 44 = .ok (.aload_n 0, 1) := by decide +kernel
theorem twd_ex_assign_45 : decode prog_3_method_2_code 45 = .ok (.invokevirtual 56, 3) := by decide +kernel
theorem twd_ex_assign_48 : decode prog_3_method_2_code 48 = .ok (.goto 28, 3) := by decide +kernel
theorem twd_ex_assign_51 : decode prog_3_method_2_code 51 = .ok (.iload 5, 2) := by decide +kernel
theorem twd_ex_assign_53 : decode prog_3_method_2_code 53 = .ok (.invokestatic 59, 3) := by decide +kernel
theorem twd_ex_assign_56 : decode prog_3_method_2_code 56 = .ok (.ifCond .eq 12, 3) := by decide +kernel
theorem twd_ex_assign_59 : decode prog_3_method_2_code 59 = .ok (.aload_n 0, 1) := by decide +kernel
theorem twd_ex_assign_60 : decode prog_3_method_2_code 60 = .ok (.iload 5, 2) := by decide +kernel
theorem twd_ex_assign_62 : decode prog_3_method_2_code 62 = .ok (.invokevirtual 63, 3) := by decide +kernel
theorem twd_ex_assign_65 : decode prog_3_method_2_code 65 = .ok (.goto 11, 3) := by decide +kernel
theorem twd_ex_assign_68 : decode prog_3_method_2_code 68 = .ok (.aload_n 0, 1) := by decide +kernel
theorem twd_ex_assign_69 : decode prog_3_method_2_code 69 = .ok (.iload 4, 2) := by decide +kernel
theorem twd_ex_assign_71 : decode prog_3_method_2_code 71 = .ok (.iload 5, 2) := by decide +kernel
theorem twd_ex_assign_73 : decode prog_3_method_2_code 73 = .ok (.invokevirtual 66, 3) := by decide +kernel
theorem twd_ex_assign_76 : decode prog_3_method_2_code 76 = .ok (.iload 5, 2) := by decide +kernel
theorem twd_ex_assign_78 : decode prog_3_method_2_code 78 = .ok (.invokestatic 70, 3) := by decide +kernel
theorem twd_ex_assign_81 : decode prog_3_method_2_code 81 = .ok (.ifCond .eq 15, 3) := by decide +kernel
theorem twd_ex_assign_84 : decode prog_3_method_2_code 84 = .ok (.aload_n 0, 1) := by decide +kernel
theorem twd_ex_assign_85 : decode prog_3_method_2_code 85 = .ok (.aload_n 0, 1) := by decide +kernel
theorem twd_ex_assign_86 : decode prog_3_method_2_code 86 = .ok (.aload_n 1, 1) := by decide +kernel
theorem twd_ex_assign_87 : decode prog_3_method_2_code 87 = .ok (.aload_n 2, 1) := by decide +kernel
theorem twd_ex_assign_88 : decode prog_3_method_2_code 88 = .ok (.iload 4, 2) := by decide +kernel
theorem twd_ex_assign_90 : decode prog_3_method_2_code 90 = .ok (.invokevirtual 73, 3) := by decide +kernel
theorem twd_ex_assign_93 : decode prog_3_method_2_code 93 = .ok (.invokevirtual 77, 3) := by decide +kernel
theorem twd_ex_assign_96 : decode prog_3_method_2_code 96 = .ok (.iinc 4 1, 3) := by decide +kernel
theorem twd_ex_assign_99 : decode prog_3_method_2_code 99 = .ok (.goto (-91), 3) := by decide +kernel
theorem twd_ex_assign_102 : decode prog_3_method_2_code 102 = .ok (.return_, 1) := by decide +kernel
theorem twk_ex_assign : tw_dc twy_ex_assign 3 := ⟨by decide +kernel, by decide +kernel, by decide +kernel⟩
theorem twd_le_readMarks_0 : decode prog_5_method_2_code 0 = .ok (.aload_n 0, 1) := by decide +kernel
theorem twd_le_readMarks_1 : decode prog_5_method_2_code 1 = .ok (.getfield 12, 3) := by decide +kernel
theorem twd_le_readMarks_4 : decode prog_5_method_2_code 4 = .ok (.aload_n 1, 1) := by decide +kernel
theorem twd_le_readMarks_5 : decode prog_5_method_2_code 5 = .ok (.invokevirtual 53, 3) := by decide +kernel
theorem twd_le_readMarks_8 : decode prog_5_method_2_code 8 = .ok (.aload_n 0, 1) := by decide +kernel
theorem twd_le_readMarks_9 : decode prog_5_method_2_code 9 = .ok (.aload_n 1, 1) := by decide +kernel
theorem twd_le_readMarks_10 : decode prog_5_method_2_code 10 = .ok (.getfield 57, 3) := by decide +kernel
theorem twd_le_readMarks_13 : decode prog_5_method_2_code 13 = .ok (.putfield 28, 3) := by decide +kernel
theorem twd_le_readMarks_16 : decode prog_5_method_2_code 16 = .ok (.aload_n 1, 1) := by decide +kernel
theorem twd_le_readMarks_17 : decode prog_5_method_2_code 17 = .ok (.getfield 57, 3) := by decide +kernel
theorem twd_le_readMarks_20 : decode prog_5_method_2_code 20 = .ok (.iconst 2, 1) := by decide +kernel
theorem twd_le_readMarks_21 : decode prog_5_method_2_code 21 = .ok (.if_icmp .ne 20, 3) := by decide +kernel
theorem twd_le_readMarks_24 : decode prog_5_method_2_code 24 = .ok (.aload_n 0, 1) := by decide +kernel
theorem twd_le_readMarks_25 : decode prog_5_method_2_code 25 = .ok (.aload_n 0, 1) := by decide +kernel
theorem twd_le_readMarks_26 : decode prog_5_method_2_code 26 = .ok (.getfield 12, 3) := by decide +kernel
theorem twd_le_readMarks_29 : decode prog_5_method_2_code 29 = .ok (.aload_n 1, 1) := by decide +kernel
theorem twd_le_readMarks_30 : decode prog_5_method_2_code 30 = .ok (.iconst 0, 1) := by decide +kernel
theorem twd_le_readMarks_31 : decode prog_5_method_2_code 31 = .ok (.aload_n 1, 1) := by decide +kernel
theorem twd_le_readMarks_32 : decode prog_5_method_2_code 32 = .ok (.getfield 62, 3) := by decide +kernel
theorem twd_le_readMarks_35 : decode prog_5_method_2_code 35 = .ok (.invokevirtual 65, 3) := by decide +kernel
theorem twd_le_readMarks_38 : decode prog_5_method_2_code 38 = .ok (.putfield 28, 3) := by decide +kernel
theorem twd_le_readMarks_41 : decode prog_5_method_2_code 41 = .ok (.aload_n 0, 1) := by decide +kernel
theorem twd_le_readMarks_42 : decode prog_5_method_2_code 42 = .ok (.getfield 35, 3) := by decide +kernel
theorem twd_le_readMarks_45 : decode prog_5_method_2_code 45 = .ok (.aload_n 1, 1) := by decide +kernel
theorem twd_le_readMarks_46 : decode prog_5_method_2_code 46 = .ok (.aload_n 0, 1) := by decide +kernel
theorem twd_le_readMarks_47 : decode prog_5_method_2_code 47 = .ok (.getfield 12, 3) := by decide +kernel
theorem twd_le_readMarks_50 : decode prog_5_method_2_code 50 = .ok (.aload_n 0, 1) := by decide +kernel
theorem twd_le_readMarks_51 : decode prog_5_method_2_code 51 = .ok (.getfield 28, 3) := by decide +kernel
theorem twd_le_readMarks_54 : decode prog_5_method_2_code 54 = .ok (.invokevirtual 69, 3) := by decide +kernel
theorem twd_le_readMarks_57 : decode prog_5_method_2_code 57 = .ok (.return_, 1) := by decide +kernel
theorem twk_le_readMarks : tw_dc twy_le_readMarks 1 := ⟨by decide +kernel, by decide +kernel, by decide +kernel⟩
theorem twd_le_visibleBefore_0 : decode prog_5_method_5_code 0 = .ok (.iload_n 2, 1) := by decide +kernel
theorem twd_le_visibleBefore_1 : decode prog_5_method_5_code 1 = .ok (.iconst 1, 1) := by decide +kernel
theorem twd_le_visibleBefore_2 : decode prog_5_method_5_code 2 = .ok (.isub, 1) := by decide +kernel
theorem twd_le_visibleBefore_3 : decode prog_5_method_5_code 3 = .ok (.istore_n 3, 1) := by decide +kernel
theorem twd_le_visibleBefore_4 : decode prog_5_method_5_code 4 = .ok (.iload_n 3, 1) := by decide +kernel
theorem twd_le_visibleBefore_5 : decode prog_5_method_5_code 5 = .ok (.ifCond .lt 23, 3) := by decide +kernel
theorem twd_le_visibleBefore_8 : decode prog_5_method_5_code 8 = .ok (.aload_n 1, 1) := by decide +kernel
theorem twd_le_visibleBefore_9 : decode prog_5_method_5_code 9 = .ok (.getfield 97, 3) := by decide +kernel
theorem twd_le_visibleBefore_12 : decode prog_5_method_5_code 12 = .ok (.iload_n 3, 1) := by decide +kernel
theorem twd_le_visibleBefore_13 : decode prog_5_method_5_code 13 = .ok (.iaload, 1) := by decide +kernel
theorem twd_le_visibleBefore_14 : decode prog_5_method_5_code 14 = .ok (.invokestatic 100, 3) := by decide +kernel
theorem twd_le_visibleBefore_17 : decode prog_5_method_5_code 17 = .ok (.ifCond .ne 5, 3) := by decide +kernel
theorem twd_le_visibleBefore_20 : decode prog_5_method_5_code 20 = .ok (.iload_n 3, 1) := by decide +kernel
theorem twd_le_visibleBefore_21 : decode prog_5_method_5_code 21 = .ok (.ireturn, 1) := by decide +kernel
theorem twd_le_visibleBefore_22 : decode prog_5_method_5_code 22 = .ok (.iinc 3 (-1), 3) := by decide +kernel
theorem twd_le_visibleBefore_25 : decode prog_5_method_5_code 25 = .ok (.goto (-21), 3) := by decide +kernel
theorem twd_le_visibleBefore_28 : decode prog_5_method_5_code 28 = .ok (.iconst (-1), 1) := by decide +kernel
theorem twd_le_visibleBefore_29 : decode prog_5_method_5_code 29 = .ok (.ireturn, 1) := by decide +kernel
theorem twk_le_visibleBefore : tw_dc twy_le_visibleBefore 2 := ⟨by decide +kernel, by decide +kernel, by decide +kernel⟩
theorem twd_le_beginsSequence_0 : decode prog_5_method_4_code 0 = .ok (.aload_n 1, 1) := by decide +kernel
theorem twd_le_beginsSequence_1 : decode prog_5_method_4_code 1 = .ok (.getfield 97, 3) := by decide +kernel
theorem twd_le_beginsSequence_4 : decode prog_5_method_4_code 4 = .ok (.iload_n 2, 1) := by decide +kernel
theorem twd_le_beginsSequence_5 : decode prog_5_method_4_code 5 = .ok (.iaload, 1) := by decide +kernel
theorem twd_le_beginsSequence_6 : decode prog_5_method_4_code 6 = .ok (.istore_n 3, 1) := by decide +kernel
theorem twd_le_beginsSequence_7 : decode prog_5_method_4_code 7 = .ok (.iload_n 3, 1) := by decide +kernel
theorem twd_le_beginsSequence_8 : decode prog_5_method_4_code 8 = .ok (.invokestatic 100, 3) := by decide +kernel
theorem twd_le_beginsSequence_11 : decode prog_5_method_4_code 11 = .ok (.ifCond .ne 22, 3) := by decide +kernel
theorem twd_le_beginsSequence_14 : decode prog_5_method_4_code 14 = .ok (.iload_n 3, 1) := by decide +kernel
theorem twd_le_beginsSequence_15 : decode prog_5_method_4_code 15 = .ok (.bipush 20, 2) := by decide +kernel
theorem twd_le_beginsSequence_17 : decode prog_5_method_4_code 17 = .ok (.if_icmp .ne 18, 3) := by decide +kernel
theorem twd_le_beginsSequence_20 : decode prog_5_method_4_code 20 = .ok (.aload_n 0, 1) := by decide +kernel
theorem twd_le_beginsSequence_21 : decode prog_5_method_4_code 21 = .ok (.getfield 12, 3) := by decide +kernel
theorem twd_le_beginsSequence_24 : decode prog_5_method_4_code 24 = .ok (.getfield 104, 3) := by decide +kernel
theorem twd_le_beginsSequence_27 : decode prog_5_method_4_code 27 = .ok (.iload_n 2, 1) := by decide +kernel
theorem twd_le_beginsSequence_28 : decode prog_5_method_4_code 28 = .ok (.iaload, 1) := by decide +kernel
theorem twd_le_beginsSequence_29 : decode prog_5_method_4_code 29 = .ok (.iconst (-1), 1) := by decide +kernel
theorem twd_le_beginsSequence_30 : decode prog_5_method_4_code 30 = .ok (.if_icmp .eq 5, 3) := by decide +kernel
theorem twd_le_beginsSequence_33 : decode prog_5_method_4_code 33 = .ok (.iconst 0, 1) := by decide +kernel
theorem twd_le_beginsSequence_34 : decode prog_5_method_4_code 34 = .ok (.ireturn, 1) := by decide +kernel
theorem twd_le_beginsSequence_35 : decode prog_5_method_4_code 35 = .ok (.aload_n 0, 1) := by decide +kernel
theorem twd_le_beginsSequence_36 : decode prog_5_method_4_code 36 = .ok (.aload_n 1, 1) := by decide +kernel
theorem twd_le_beginsSequence_37 : decode prog_5_method_4_code 37 = .ok (.iload_n 2, 1) := by decide +kernel
theorem twd_le_beginsSequence_38 : decode prog_5_method_4_code 38 = .ok (.invokevirtual 107, 3) := by decide +kernel
theorem twd_le_beginsSequence_41 : decode prog_5_method_4_code 41 = .ok (.istore 4, 2) := by decide +kernel
theorem twd_le_beginsSequence_43 : decode prog_5_method_4_code 43 = .ok (.iload 4, 2) := by decide +kernel
theorem twd_le_beginsSequence_45 : decode prog_5_method_4_code 45 = .ok (.iconst (-1), 1) := by decide +kernel
theorem twd_le_beginsSequence_46 : decode prog_5_method_4_code 46 = .ok (.if_icmp .eq 25, 3) := by decide +kernel
theorem twd_le_beginsSequence_49 : decode prog_5_method_4_code 49 = .ok (.aload_n 0, 1) := by decide +kernel
theorem twd_le_beginsSequence_50 : decode prog_5_method_4_code 50 = .ok (.getfield 35, 3) := by decide +kernel
theorem twd_le_beginsSequence_53 : decode prog_5_method_4_code 53 = .ok (.getfield 111, 3) := by decide +kernel
theorem twd_le_beginsSequence_56 : decode prog_5_method_4_code 56 = .ok (.iload 4, 2) := by decide +kernel
theorem twd_le_beginsSequence_58 : decode prog_5_method_4_code 58 = .ok (.iaload, 1) := by decide +kernel
theorem twd_le_beginsSequence_59 : decode prog_5_method_4_code 59 = .ok (.aload_n 0, 1) := by decide +kernel
theorem twd_le_beginsSequence_60 : decode prog_5_method_4_code 60 = .ok (.getfield 35, 3) := by decide +kernel
theorem twd_le_beginsSequence_63 : decode prog_5_method_4_code 63 = .ok (.getfield 111, 3) := by decide +kernel
theorem twd_le_beginsSequence_66 : decode prog_5_method_4_code 66 = .ok (.iload_n 2, 1) := by decide +kernel
theorem twd_le_beginsSequence_67 : decode prog_5_method_4_code 67 = .ok (.iaload, 1) := by decide +kernel
theorem twd_le_beginsSequence_68 : decode prog_5_method_4_code 68 = .ok (.if_icmp .eq 7, 3) := by decide +kernel
theorem twd_le_beginsSequence_71 : decode prog_5_method_4_code 71 = .ok (.iconst 1, 1) := by decide +kernel
theorem twd_le_beginsSequence_72 : decode prog_5_method_4_code 72 = .ok (.goto 4, 3) := by decide +kernel
theorem twd_le_beginsSequence_75 : decode prog_5_method_4_code 75 = .ok (.iconst 0, 1) := by decide +kernel
theorem twd_le_beginsSequence_76 : decode prog_5_method_4_code 76 = .ok (.ireturn, 1) := by decide +kernel
theorem twk_le_beginsSequence : tw_dc twy_le_beginsSequence 2 := ⟨by decide +kernel, by decide +kernel, by decide +kernel⟩
theorem twd_se_append_0 : decode prog_8_method_2_code 0 = .ok (.aload_n 0, 1) := by decide +kernel
theorem twd_se_append_1 : decode prog_8_method_2_code 1 = .ok (.getfield 22, 3) := by decide +kernel
theorem twd_se_append_4 : decode prog_8_method_2_code 4 = .ok (.bipush 64, 2) := by decide +kernel
theorem twd_se_append_6 : decode prog_8_method_2_code 6 = .ok (.if_icmp .ge 33, 3) := by decide +kernel
theorem twd_se_append_9 : decode prog_8_method_2_code 9 = .ok (.aload_n 0, 1) := by decide +kernel
theorem twd_se_append_10 : decode prog_8_method_2_code 10 = .ok (.getfield 9, 3) := by decide +kernel
theorem twd_se_append_13 : decode prog_8_method_2_code 13 = .ok (.aload_n 0, 1) := by decide +kernel
theorem twd_se_append_14 : decode prog_8_method_2_code 14 = .ok (.getfield 22, 3) := by decide +kernel
theorem twd_se_append_17 : decode prog_8_method_2_code 17 = .ok (.iload_n 1, 1) := by decide +kernel
theorem twd_se_append_18 : decode prog_8_method_2_code 18 = .ok (.iastore, 1) := by decide +kernel
theorem twd_se_append_19 : decode prog_8_method_2_code 19 = .ok (.aload_n 0, 1) := by decide +kernel
theorem twd_se_append_20 : decode prog_8_method_2_code 20 = .ok (.getfield 15, 3) := by decide +kernel
theorem twd_se_append_23 : decode prog_8_method_2_code 23 = .ok (.aload_n 0, 1) := by decide +kernel
theorem twd_se_append_24 : decode prog_8_method_2_code 24 = .ok (.getfield 22, 3) := by decide +kernel
theorem twd_se_append_27 : decode prog_8_method_2_code 27 = .ok (.iload_n 2, 1) := by decide +kernel
theorem twd_se_append_28 : decode prog_8_method_2_code 28 = .ok (.iastore, 1) := by decide +kernel
theorem twd_se_append_29 : decode prog_8_method_2_code 29 = .ok (.aload_n 0, 1) := by decide +kernel
theorem twd_se_append_30 : decode prog_8_method_2_code 30 = .ok (.dup, 1) := by decide +kernel
theorem twd_se_append_31 : decode prog_8_method_2_code 31 = .ok (.getfield 22, 3) := by decide +kernel
theorem twd_se_append_34 : decode prog_8_method_2_code 34 = .ok (.iconst 1, 1) := by decide +kernel
theorem twd_se_append_35 : decode prog_8_method_2_code 35 = .ok (.iadd, 1) := by decide +kernel
theorem twd_se_append_36 : decode prog_8_method_2_code 36 = .ok (.putfield 22, 3) := by decide +kernel
theorem twd_se_append_39 : decode prog_8_method_2_code 39 = .ok (.return_, 1) := by decide +kernel
theorem twk_se_append : tw_dc twy_se_append 2 := ⟨by decide +kernel, by decide +kernel, by decide +kernel⟩
theorem twd_le_takeRun_0 : decode prog_5_method_8_code 0 = .ok (.iload_n 2, 1) := by decide +kernel
theorem twd_le_takeRun_1 : decode prog_5_method_8_code 1 = .ok (.istore_n 3, 1) := by decide +kernel
theorem twd_le_takeRun_2 : decode prog_5_method_8_code 2 = .ok (.iload_n 2, 1) := by decide +kernel
theorem twd_le_takeRun_3 : decode prog_5_method_8_code 3 = .ok (.istore 4, 2) := by decide +kernel
theorem twd_le_takeRun_5 : decode prog_5_method_8_code 5 = .ok (.iload 4, 2) := by decide +kernel
theorem twd_le_takeRun_7 : decode prog_5_method_8_code 7 = .ok (.aload_n 1, 1) := by decide +kernel
theorem twd_le_takeRun_8 : decode prog_5_method_8_code 8 = .ok (.getfield 62, 3) := by decide +kernel
theorem twd_le_takeRun_11 : decode prog_5_method_8_code 11 = .ok (.if_icmp .ge 72, 3) := by decide +kernel
theorem twd_le_takeRun_14 : decode prog_5_method_8_code 14 = .ok (.aload_n 1, 1) := by decide +kernel
theorem twd_le_takeRun_15 : decode prog_5_method_8_code 15 = .ok (.getfield 97, 3) := by decide +kernel
theorem twd_le_takeRun_18 : decode prog_5_method_8_code 18 = .ok (.iload 4, 2) := by decide +kernel
theorem twd_le_takeRun_20 : decode prog_5_method_8_code 20 = .ok (.iaload, 1) := by decide +kernel
theorem twd_le_takeRun_21 : decode prog_5_method_8_code 21 = .ok (.invokestatic 100, 3) := by decide +kernel
theorem twd_le_takeRun_24 : decode prog_5_method_8_code 24 = .ok (.ifCond .eq 6, 3) := by decide +kernel
theorem twd_le_takeRun_27 : decode prog_5_method_8_code 27 = .ok (.goto 50, 3) := by decide +kernel
theorem twd_le_takeRun_30 : decode prog_5_method_8_code 30 = .ok (.aload_n 0, 1) := by decide +kernel
theorem twd_le_takeRun_31 : decode prog_5_method_8_code 31 = .ok (.getfield 35, 3) := by decide +kernel
theorem twd_le_takeRun_34 : decode prog_5_method_8_code 34 = .ok (.getfield 111, 3) := by decide +kernel
theorem twd_le_takeRun_37 : decode prog_5_method_8_code 37 = .ok (.iload 4, 2) := by decide +kernel
theorem twd_le_takeRun_39 : decode prog_5_method_8_code 39 = .ok (.iaload, 1) := by decide +kernel
theorem twd_le_takeRun_40 : decode prog_5_method_8_code 40 = .ok (.aload_n 0, 1) := by decide +kernel
theorem twd_le_takeRun_41 : decode prog_5_method_8_code 41 = .ok (.getfield 35, 3) := by decide +kernel
theorem twd_le_takeRun_44 : decode prog_5_method_8_code 44 = .ok (.getfield 111, 3) := by decide +kernel
theorem twd_le_takeRun_47 : decode prog_5_method_8_code 47 = .ok (.iload_n 2, 1) := by decide +kernel
theorem twd_le_takeRun_48 : decode prog_5_method_8_code 48 = .ok (.iaload, 1) := by decide +kernel
theorem twd_le_takeRun_49 : decode prog_5_method_8_code 49 = .ok (.if_icmp .eq 6, 3) := by decide +kernel
theorem twd_le_takeRun_52 : decode prog_5_method_8_code 52 = .ok (.goto 31, 3) := by decide +kernel
theorem twd_le_takeRun_55 : decode prog_5_method_8_code 55 = .ok (.aload_n 0, 1) := by decide +kernel
theorem twd_le_takeRun_56 : decode prog_5_method_8_code 56 = .ok (.getfield 42, 3) := by decide +kernel
theorem twd_le_takeRun_59 : decode prog_5_method_8_code 59 = .ok (.iload 4, 2) := by decide +kernel
theorem twd_le_takeRun_61 : decode prog_5_method_8_code 61 = .ok (.aload_n 0, 1) := by decide +kernel
theorem twd_le_takeRun_62 : decode prog_5_method_8_code 62 = .ok (.getfield 35, 3) := by decide +kernel
theorem twd_le_takeRun_65 : decode prog_5_method_8_code 65 = .ok (.getfield 123, 3) := by decide +kernel
theorem twd_le_takeRun_68 : decode prog_5_method_8_code 68 = .ok (.iload 4, 2) := by decide +kernel
theorem twd_le_takeRun_70 : decode prog_5_method_8_code 70 = .ok (.iaload, 1) := by decide +kernel
theorem twd_le_takeRun_71 : decode prog_5_method_8_code 71 = .ok (.invokevirtual 124, 3) := by decide +kernel
theorem twd_le_takeRun_74 : decode prog_5_method_8_code 74 = .ok (.iload 4, 2) := by decide +kernel
theorem twd_le_takeRun_76 : decode prog_5_method_8_code 76 = .ok (.istore_n 3, 1) := by decide +kernel
theorem twd_le_takeRun_77 : decode prog_5_method_8_code 77 = .ok (.iinc 4 1, 3) := by decide +kernel
theorem twd_le_takeRun_80 : decode prog_5_method_8_code 80 = .ok (.goto (-75), 3) := by decide +kernel
theorem twd_le_takeRun_83 : decode prog_5_method_8_code 83 = .ok (.iload_n 3, 1) := by decide +kernel
theorem twd_le_takeRun_84 : decode prog_5_method_8_code 84 = .ok (.ireturn, 1) := by decide +kernel
theorem twk_le_takeRun : tw_dc twy_le_takeRun 2 := ⟨by decide +kernel, by decide +kernel, by decide +kernel⟩
theorem twd_le_gather_0 : decode prog_5_method_7_code 0 = .ok (.aload_n 0, 1) := by decide +kernel
theorem twd_le_gather_1 : decode prog_5_method_7_code 1 = .ok (.getfield 42, 3) := by decide +kernel
theorem twd_le_gather_4 : decode prog_5_method_7_code 4 = .ok (.iconst 0, 1) := by decide +kernel
theorem twd_le_gather_5 : decode prog_5_method_7_code 5 = .ok (.putfield 114, 3) := by decide +kernel
theorem twd_le_gather_8 : decode prog_5_method_7_code 8 = .ok (.iload_n 2, 1) := by decide +kernel
theorem twd_le_gather_9 : decode prog_5_method_7_code 9 = .ok (.istore_n 3, 1) := by decide +kernel
theorem twd_le_gather_10 : decode prog_5_method_7_code 10 = .ok (.iconst 0, 1) := by decide +kernel
theorem twd_le_gather_11 : decode prog_5_method_7_code 11 = .ok (.istore 4, 2) := by decide +kernel
theorem twd_le_gather_13 : decode prog_5_method_7_code 13 = .ok (.iload 4, 2) := by decide +kernel
theorem twd_le_gather_15 : decode prog_5_method_7_code 15 = .ok (.bipush 64, 2) := by decide +kernel
theorem twd_le_gather_17 : decode prog_5_method_7_code 17 = .ok (.if_icmp .ge 50, 3) := by decide +kernel
theorem twd_le_gather_20 : decode prog_5_method_7_code 20 = .ok (.iload_n 3, 1) := by decide +kernel
theorem twd_le_gather_21 : decode prog_5_method_7_code 21 = .ok (.iconst (-1), 1) := by decide +kernel
theorem twd_le_gather_22 : decode prog_5_method_7_code 22 = .ok (.if_icmp .eq 45, 3) := by decide +kernel
theorem twd_le_gather_25 : decode prog_5_method_7_code 25 = .ok (.aload_n 0, 1) := by decide +kernel
theorem twd_le_gather_26 : decode prog_5_method_7_code 26 = .ok (.aload_n 1, 1) := by decide +kernel
theorem twd_le_gather_27 : decode prog_5_method_7_code 27 = .ok (.iload_n 3, 1) := by decide +kernel
theorem twd_le_gather_28 : decode prog_5_method_7_code 28 = .ok (.invokevirtual 117, 3) := by decide +kernel
theorem twd_le_gather_31 : decode prog_5_method_7_code 31 = .ok (.istore 5, 2) := by decide +kernel
theorem twd_le_gather_33 : decode prog_5_method_7_code 33 = .ok (.aload_n 1, 1) := by decide +kernel
theorem twd_le_gather_34 : decode prog_5_method_7_code 34 = .ok (.getfield 97, 3) := by decide +kernel
theorem twd_le_gather_37 : decode prog_5_method_7_code 37 = .ok (.iload 5, 2) := by decide +kernel
theorem twd_le_gather_39 : decode prog_5_method_7_code 39 = .ok (.iaload, 1) := by decide +kernel
theorem twd_le_gather_40 : decode prog_5_method_7_code 40 = .ok (.invokestatic 120, 3) := by decide +kernel
theorem twd_le_gather_43 : decode prog_5_method_7_code 43 = .ok (.ifCond .eq 16, 3) := by decide +kernel
theorem twd_le_gather_46 : decode prog_5_method_7_code 46 = .ok (.aload_n 0, 1) := by decide +kernel
theorem twd_le_gather_47 : decode prog_5_method_7_code 47 = .ok (.getfield 12, 3) := by decide +kernel
theorem twd_le_gather_50 : decode prog_5_method_7_code 50 = .ok (.getfield 104, 3) := by decide +kernel
theorem twd_le_gather_53 : decode prog_5_method_7_code 53 = .ok (.iload 5, 2) := by decide +kernel
theorem twd_le_gather_55 : decode prog_5_method_7_code 55 = .ok (.iaload, 1) := by decide +kernel
theorem twd_le_gather_56 : decode prog_5_method_7_code 56 = .ok (.goto 4, 3) := by decide +kernel
theorem twd_le_gather_59 : decode prog_5_method_7_code 59 = .ok (.iconst (-1), 1) := by decide +kernel
theorem twd_le_gather_60 : decode prog_5_method_7_code 60 = .ok (.istore_n 3, 1) := by decide +kernel
theorem twd_le_gather_61 : decode prog_5_method_7_code 61 = .ok (.iinc 4 1, 3) := by decide +kernel
theorem twd_le_gather_64 : decode prog_5_method_7_code 64 = .ok (.goto (-51), 3) := by decide +kernel
theorem twd_le_gather_67 : decode prog_5_method_7_code 67 = .ok (.return_, 1) := by decide +kernel
theorem twk_le_gather : tw_dc twy_le_gather 2 := ⟨by decide +kernel, by decide +kernel, by decide +kernel⟩
theorem twd_le_visibleBehind_0 : decode prog_5_method_6_code 0 = .ok (.iload_n 2, 1) := by decide +kernel
theorem twd_le_visibleBehind_1 : decode prog_5_method_6_code 1 = .ok (.iconst 1, 1) := by decide +kernel
theorem twd_le_visibleBehind_2 : decode prog_5_method_6_code 2 = .ok (.iadd, 1) := by decide +kernel
theorem twd_le_visibleBehind_3 : decode prog_5_method_6_code 3 = .ok (.istore_n 3, 1) := by decide +kernel
theorem twd_le_visibleBehind_4 : decode prog_5_method_6_code 4 = .ok (.iload_n 3, 1) := by decide +kernel
theorem twd_le_visibleBehind_5 : decode prog_5_method_6_code 5 = .ok (.aload_n 1, 1) := by decide +kernel
theorem twd_le_visibleBehind_6 : decode prog_5_method_6_code 6 = .ok (.getfield 62, 3) := by decide +kernel
theorem twd_le_visibleBehind_9 : decode prog_5_method_6_code 9 = .ok (.if_icmp .ge 23, 3) := by decide +kernel
theorem twd_le_visibleBehind_12 : decode prog_5_method_6_code 12 = .ok (.aload_n 1, 1) := by decide +kernel
theorem twd_le_visibleBehind_13 : decode prog_5_method_6_code 13 = .ok (.getfield 97, 3) := by decide +kernel
theorem twd_le_visibleBehind_16 : decode prog_5_method_6_code 16 = .ok (.iload_n 3, 1) := by decide +kernel
theorem twd_le_visibleBehind_17 : decode prog_5_method_6_code 17 = .ok (.iaload, 1) := by decide +kernel
theorem twd_le_visibleBehind_18 : decode prog_5_method_6_code 18 = .ok (.invokestatic 100, 3) := by decide +kernel
theorem twd_le_visibleBehind_21 : decode prog_5_method_6_code 21 = .ok (.ifCond .ne 5, 3) := by decide +kernel
theorem twd_le_visibleBehind_24 : decode prog_5_method_6_code 24 = .ok (.iload_n 3, 1) := by decide +kernel
theorem twd_le_visibleBehind_25 : decode prog_5_method_6_code 25 = .ok (.ireturn, 1) := by decide +kernel
theorem twd_le_visibleBehind_26 : decode prog_5_method_6_code 26 = .ok (.iinc 3 1, 3) := by decide +kernel
theorem twd_le_visibleBehind_29 : decode prog_5_method_6_code 29 = .ok (.goto (-25), 3) := by decide +kernel
theorem twd_le_visibleBehind_32 : decode prog_5_method_6_code 32 = .ok (.iconst (-1), 1) := by decide +kernel
theorem twd_le_visibleBehind_33 : decode prog_5_method_6_code 33 = .ok (.ireturn, 1) := by decide +kernel
theorem twk_le_visibleBehind : tw_dc twy_le_visibleBehind 2 := ⟨by decide +kernel, by decide +kernel, by decide +kernel⟩
theorem twd_tl_sideOf_0 : decode prog_1_method_26_code 0 = .ok (.iload_n 0, 1) := by decide +kernel
theorem twd_tl_sideOf_1 : decode prog_1_method_26_code 1 = .ok (.invokestatic 110, 3) := by decide +kernel
theorem twd_tl_sideOf_4 : decode prog_1_method_26_code 4 = .ok (.ifCond .eq 7, 3) := by decide +kernel
theorem twd_tl_sideOf_7 : decode prog_1_method_26_code 7 = .ok (.iconst 1, 1) := by decide +kernel
theorem twd_tl_sideOf_8 : decode prog_1_method_26_code 8 = .ok (.goto 4, 3) := by decide +kernel
theorem twd_tl_sideOf_11 : decode prog_1_method_26_code 11 = .ok (.iconst 0, 1) := by decide +kernel
theorem twd_tl_sideOf_12 : decode prog_1_method_26_code 12 = .ok (.ireturn, 1) := by decide +kernel
theorem twk_tl_sideOf : tw_dc twy_tl_sideOf 1 := ⟨by decide +kernel, by decide +kernel, by decide +kernel⟩
theorem twd_le_levelBeside_0 : decode prog_5_method_10_code 0 = .ok (.iload_n 1, 1) := by decide +kernel
theorem twd_le_levelBeside_1 : decode prog_5_method_10_code 1 = .ok (.iconst (-1), 1) := by decide +kernel
theorem twd_le_levelBeside_2 : decode prog_5_method_10_code 2 = .ok (.if_icmp .ne 10, 3) := by decide +kernel
theorem twd_le_levelBeside_5 : decode prog_5_method_10_code 5 = .ok (.aload_n 0, 1) := by decide +kernel
theorem twd_le_levelBeside_6 : decode prog_5_method_10_code 6 = .ok (.getfield 28, 3) := by decide +kernel
theorem twd_le_levelBeside_9 : decode prog_5_method_10_code 9 = .ok (.goto 12, 3) := by decide +kernel
theorem twd_le_levelBeside_12 : decode prog_5_method_10_code 12 = .ok (.aload_n 0, 1) := by decide +kernel
theorem twd_le_levelBeside_13 : decode prog_5_method_10_code 13 = .ok (.getfield 35, 3) := by decide +kernel
theorem twd_le_levelBeside_16 : decode prog_5_method_10_code 16 = .ok (.getfield 111, 3) := by decide +kernel
theorem twd_le_levelBeside_19 : decode prog_5_method_10_code 19 = .ok (.iload_n 1, 1) := by decide +kernel
theorem twd_le_levelBeside_20 : decode prog_5_method_10_code 20 = .ok (.iaload, 1) := by decide +kernel
theorem twd_le_levelBeside_21 : decode prog_5_method_10_code 21 = .ok (.ireturn, 1) := by decide +kernel
theorem twk_le_levelBeside : tw_dc twy_le_levelBeside 1 := ⟨by decide +kernel, by decide +kernel, by decide +kernel⟩
theorem twd_le_setSides_0 : decode prog_5_method_9_code 0 = .ok (.aload_n 0, 1) := by decide +kernel
theorem twd_le_setSides_1 : decode prog_5_method_9_code 1 = .ok (.getfield 42, 3) := by decide +kernel
theorem twd_le_setSides_4 : decode prog_5_method_9_code 4 = .ok (.getfield 128, 3) := by decide +kernel
theorem twd_le_setSides_7 : decode prog_5_method_9_code 7 = .ok (.iconst 0, 1) := by decide +kernel
theorem twd_le_setSides_8 : decode prog_5_method_9_code 8 = .ok (.iaload, 1) := by decide +kernel
theorem twd_le_setSides_9 : decode prog_5_method_9_code 9 = .ok (.istore_n 2, 1) := by decide +kernel
theorem twd_le_setSides_10 : decode prog_5_method_9_code 10 = .ok (.aload_n 0, 1) := by decide +kernel
theorem twd_le_setSides_11 : decode prog_5_method_9_code 11 = .ok (.getfield 42, 3) := by decide +kernel
theorem twd_le_setSides_14 : decode prog_5_method_9_code 14 = .ok (.getfield 128, 3) := by decide +kernel
theorem twd_le_setSides_17 : decode prog_5_method_9_code 17 = .ok (.aload_n 0, 1) := by decide +kernel
theorem twd_le_setSides_18 : decode prog_5_method_9_code 18 = .ok (.getfield 42, 3) := by decide +kernel
theorem twd_le_setSides_21 : decode prog_5_method_9_code 21 = .ok (.getfield 114, 3) := by decide +kernel
theorem twd_le_setSides_24 : decode prog_5_method_9_code 24 = .ok (.iconst 1, 1) := by decide +kernel
theorem twd_le_setSides_25 : decode prog_5_method_9_code 25 = .ok (.isub, 1) := by decide +kernel
theorem twd_le_setSides_26 : decode prog_5_method_9_code 26 = .ok (.iaload, 1) := by decide +kernel
theorem twd_le_setSides_27 : decode prog_5_method_9_code 27 = .ok (.istore_n 3, 1) := by decide +kernel
theorem twd_le_setSides_28 : decode prog_5_method_9_code 28 = .ok (.aload_n 0, 1) := by decide +kernel
theorem twd_le_setSides_29 : decode prog_5_method_9_code 29 = .ok (.getfield 35, 3) := by decide +kernel
theorem twd_le_setSides_32 : decode prog_5_method_9_code 32 = .ok (.getfield 111, 3) := by decide +kernel
theorem twd_le_setSides_35 : decode prog_5_method_9_code 35 = .ok (.iload_n 2, 1) := by decide +kernel
theorem twd_le_setSides_36 : decode prog_5_method_9_code 36 = .ok (.iaload, 1) := by decide +kernel
theorem twd_le_setSides_37 : decode prog_5_method_9_code 37 = .ok (.istore 4, 2) := by decide +kernel
theorem twd_le_setSides_39 : decode prog_5_method_9_code 39 = .ok (.aload_n 0, 1) := by decide +kernel
theorem twd_le_setSides_40 : decode prog_5_method_9_code 40 = .ok (.aload_n 1, 1) := by decide +kernel
theorem twd_le_setSides_41 : decode prog_5_method_9_code 41 = .ok (.iload_n 2, 1) := by decide +kernel
theorem twd_le_setSides_42 : decode prog_5_method_9_code 42 = .ok (.invokevirtual 107, 3) := by decide +kernel
theorem twd_le_setSides_45 : decode prog_5_method_9_code 45 = .ok (.istore 5, 2) := by decide +kernel
theorem twd_le_setSides_47 : decode prog_5_method_9_code 47 = .ok (.aload_n 1, 1) := by decide +kernel
theorem twd_le_setSides_48 : decode prog_5_method_9_code 48 = .ok (.getfield 97, 3) := by decide +kernel
theorem twd_le_setSides_51 : decode prog_5_method_9_code 51 = .ok (.iload_n 3, 1) := by decide +kernel
theorem twd_le_setSides_52 : decode prog_5_method_9_code 52 = .ok (.iaload, 1) := by decide +kernel
theorem twd_le_setSides_53 : decode prog_5_method_9_code 53 = .ok (.invokestatic 120, 3) := by decide +kernel
theorem twd_le_setSides_56 : decode prog_5_method_9_code 56 = .ok (.ifCond .eq 7, 3) := by decide +kernel
theorem twd_le_setSides_59 : decode prog_5_method_9_code 59 = .ok (.iconst (-1), 1) := by decide +kernel
theorem twd_le_setSides_60 : decode prog_5_method_9_code 60 = .ok (.goto 9, 3) := by decide +kernel
theorem twd_le_setSides_63 : decode prog_5_method_9_code 63 = .ok (.aload_n 0, 1) := by decide +kernel
theorem twd_le_setSides_64 : decode prog_5_method_9_code 64 = .ok (.aload_n 1, 1) := by decide +kernel
theorem twd_le_setSides_65 : decode prog_5_method_9_code 65 = .ok (.iload_n 3, 1) := by decide +kernel
theorem twd_le_setSides_66 : decode prog_5_method_9_code 66 = .ok (.invokevirtual 131, 3) := by decide +kernel
theorem twd_le_setSides_69 : decode prog_5_method_9_code 69 = .ok (.istore 6, 2) := by decide +kernel
theorem twd_le_setSides_71 : decode prog_5_method_9_code 71 = .ok (.aload_n 0, 1) := by decide +kernel
theorem twd_le_setSides_72 : decode prog_5_method_9_code 72 = .ok (.getfield 42, 3) := by decide +kernel
theorem twd_le_setSides_75 : decode prog_5_method_9_code 75 = .ok (.iload 4, 2) := by decide +kernel
theorem twd_le_setSides_77 : decode prog_5_method_9_code 77 = .ok (.invokestatic 134, 3) := by decide +kernel
theorem twd_le_setSides_80 : decode prog_5_method_9_code 80 = .ok (.putfield 138, 3) := by decide +kernel
theorem twd_le_setSides_83 : decode prog_5_method_9_code 83 = .ok (.aload_n 0, 1) := by decide +kernel
theorem twd_le_setSides_84 : decode prog_5_method_9_code 84 = .ok (.getfield 42, 3) := by decide +kernel
theorem twd_le_setSides_87 : decode prog_5_method_9_code 87 = .ok (.iload 4, 2) := by decide +kernel
theorem twd_le_setSides_89 : decode prog_5_method_9_code 89 = .ok (.aload_n 0, 1) := by decide +kernel
theorem twd_le_setSides_90 : decode prog_5_method_9_code 90 = .ok (.iload 5, 2) := by decide +kernel
theorem twd_le_setSides_92 : decode prog_5_method_9_code 92 = .ok (.invokevirtual 141, 3) := by decide +kernel
theorem twd_le_setSides_95 : decode prog_5_method_9_code 95 = .ok (.invokestatic 144, 3) := by decide +kernel
theorem twd_le_setSides_98 : decode prog_5_method_9_code 98 = .ok (.invokestatic 134, 3) := by decide +kernel
theorem twd_le_setSides_101 : decode prog_5_method_9_code 101 = .ok (.putfield 150, 3) := by decide +kernel
theorem twd_le_setSides_104 : decode prog_5_method_9_code 104 = .ok (.aload_n 0, 1) := by decide +kernel
theorem twd_le_setSides_105 : decode prog_5_method_9_code 105 = .ok (.getfield 42, 3) := by decide +kernel
theorem twd_le_setSides_108 : decode prog_5_method_9_code 108 = .ok (.iload 4, 2) := by decide +kernel
theorem twd_le_setSides_110 : decode prog_5_method_9_code 110 = .ok (.aload_n 0, 1) := by decide +kernel
theorem twd_le_setSides_111 : decode prog_5_method_9_code 111 = .ok (.iload 6, 2) := by decide +kernel
theorem twd_le_setSides_113 : decode prog_5_method_9_code 113 = .ok (.invokevirtual 141, 3) := by decide +kernel
theorem twd_le_setSides_116 : decode prog_5_method_9_code 116 = .ok (.invokestatic 144, 3) := by decide +kernel
theorem twd_le_setSides_119 : decode prog_5_method_9_code 119 = .ok (.invokestatic 134, 3) := by decide +kernel
theorem twd_le_setSides_122 : decode prog_5_method_9_code 122 = .ok (.putfield 153, 3) := by decide +kernel
theorem twd_le_setSides_125 : decode prog_5_method_9_code 125 = .ok (.return_, 1) := by decide +kernel
theorem twk_le_setSides : tw_dc twy_le_setSides 1 := ⟨by decide +kernel, by decide +kernel, by decide +kernel⟩
theorem twd_tl_isIsolateMark_0 : decode prog_1_method_25_code 0 = .ok (.iload_n 0, 1) := by decide +kernel
theorem twd_tl_isIsolateMark_1 : decode prog_1_method_25_code 1 = .ok (.bipush 17, 2) := by decide +kernel
theorem twd_tl_isIsolateMark_3 : decode prog_1_method_25_code 3 = .ok (.if_icmp .lt 13, 3) := by decide +kernel
theorem twd_tl_isIsolateMark_6 : decode prog_1_method_25_code 6 = .ok (.iload_n 0, 1) := by decide +kernel
theorem twd_tl_isIsolateMark_7 : decode prog_1_method_25_code 7 = .ok (.bipush 20, 2) := by decide +kernel
theorem twd_tl_isIsolateMark_9 : decode prog_1_method_25_code 9 = .ok (.if_icmp .gt 7, 3) := by decide +kernel
theorem twd_tl_isIsolateMark_12 : decode prog_1_method_25_code 12 = .ok (.iconst 1, 1) := by decide +kernel
theorem twd_tl_isIsolateMark_13 : decode prog_1_method_25_code 13 = .ok (.goto 4, 3) := by decide +kernel
theorem twd_tl_isIsolateMark_16 : decode prog_1_method_25_code 16 = .ok (.iconst 0, 1) := by decide +kernel
theorem twd_tl_isIsolateMark_17 : decode prog_1_method_25_code 17 = .ok (.ireturn, 1) := by decide +kernel
theorem twk_tl_isIsolateMark : tw_dc twy_tl_isIsolateMark 1 := ⟨by decide +kernel, by decide +kernel, by decide +kernel⟩
theorem twd_se_joinMarks_0 : decode prog_8_method_4_code 0 = .ok (.aload_n 0, 1) := by decide +kernel
theorem twd_se_joinMarks_1 : decode prog_8_method_4_code 1 = .ok (.getfield 29, 3) := by decide +kernel
theorem twd_se_joinMarks_4 : decode prog_8_method_4_code 4 = .ok (.istore_n 1, 1) := by decide +kernel
theorem twd_se_joinMarks_5 : decode prog_8_method_4_code 5 = .ok (.iconst 0, 1) := by decide +kernel
theorem twd_se_joinMarks_6 : decode prog_8_method_4_code 6 = .ok (.istore_n 2, 1) := by decide +kernel
theorem twd_se_joinMarks_7 : decode prog_8_method_4_code 7 = .ok (.iload_n 2, 1) := by decide +kernel
theorem twd_se_joinMarks_8 : decode prog_8_method_4_code 8 = .ok (.aload_n 0, 1) := by decide +kernel
theorem twd_se_joinMarks_9 : decode prog_8_method_4_code 9 = .ok (.getfield 22, 3) := by decide +kernel
theorem twd_se_joinMarks_12 : decode prog_8_method_4_code 12 = .ok (.if_icmp .ge 66, 3) := by decide +kernel
theorem twd_se_joinMarks_15 : decode prog_8_method_4_code 15 = .ok (.aload_n 0, 1) := by decide +kernel
theorem twd_se_joinMarks_16 : decode prog_8_method_4_code 16 = .ok (.getfield 18, 3) := by decide +kernel
theorem twd_se_joinMarks_19 : decode prog_8_method_4_code 19 = .ok (.iload_n 2, 1) := by decide +kernel
theorem twd_se_joinMarks_20 : decode prog_8_method_4_code 20 = .ok (.aload_n 0, 1) := by decide +kernel
theorem twd_se_joinMarks_21 : decode prog_8_method_4_code 21 = .ok (.getfield 15, 3) := by decide +kernel
theorem twd_se_joinMarks_24 : decode prog_8_method_4_code 24 = .ok (.iload_n 2, 1) := by decide +kernel
theorem twd_se_joinMarks_25 : decode prog_8_method_4_code 25 = .ok (.iaload, 1) := by decide +kernel
theorem twd_se_joinMarks_26 : decode prog_8_method_4_code 26 = .ok (.bipush 8, 2) := by decide +kernel
theorem twd_se_joinMarks_28 : decode prog_8_method_4_code 28 = .ok (.if_icmp .ne 7, 3) := by decide +kernel
theorem twd_se_joinMarks_31 : decode prog_8_method_4_code 31 = .ok (.iconst 1, 1) := by decide +kernel
theorem twd_se_joinMarks_32 : decode prog_8_method_4_code 32 = .ok (.goto 4, 3) := by decide +kernel
theorem twd_se_joinMarks_35 : decode prog_8_method_4_code 35 = .ok (.iconst 0, 1) := by decide +kernel
theorem twd_se_joinMarks_36 : decode prog_8_method_4_code 36 = .ok (.bastore, 1) := by decide +kernel
theorem twd_se_joinMarks_37 : decode prog_8_method_4_code 37 = .ok (.aload_n 0, 1) := by decide +kernel
theorem twd_se_joinMarks_38 : decode prog_8_method_4_code 38 = .ok (.getfield 18, 3) := by decide +kernel
theorem twd_se_joinMarks_41 : decode prog_8_method_4_code 41 = .ok (.iload_n 2, 1) := by decide +kernel
theorem twd_se_joinMarks_42 : decode prog_8_method_4_code 42 = .ok (.baload, 1) := by decide +kernel
theorem twd_se_joinMarks_43 : decode prog_8_method_4_code 43 = .ok (.ifCond .eq 22, 3) := by decide +kernel
theorem twd_se_joinMarks_46 : decode prog_8_method_4_code 46 = .ok (.aload_n 0, 1) := by decide +kernel
theorem twd_se_joinMarks_47 : decode prog_8_method_4_code 47 = .ok (.getfield 15, 3) := by decide +kernel
theorem twd_se_joinMarks_50 : decode prog_8_method_4_code 50 = .ok (.iload_n 2, 1) := by decide +kernel
theorem twd_se_joinMarks_51 : decode prog_8_method_4_code 51 = .ok (.iload_n 1, 1) := by decide +kernel
theorem twd_se_joinMarks_52 : decode prog_8_method_4_code 52 = .ok (.invokestatic 53, 3) := by decide +kernel
theorem twd_se_joinMarks_55 : decode prog_8_method_4_code 55 = .ok (.ifCond .eq 8, 3) := by decide +kernel
theorem twd_se_joinMarks_58 : decode prog_8_method_4_code 58 = .ok (.bipush 11, 2) := by decide +kernel
theorem twd_se_joinMarks_60 : decode prog_8_method_4_code 60 = .ok (.goto 4, 3) := by decide +kernel
theorem twd_se_joinMarks_63 : decode prog_8_method_4_code 63 = .ok (.iload_n 1, 1) := by decide +kernel
theorem twd_se_joinMarks_64 : decode prog_8_method_4_code 64 = .ok (.iastore, 1) := by decide +kernel
theorem twd_se_joinMarks_65 : decode prog_8_method_4_code 65 = .ok (.aload_n 0, 1) := by decide +kernel
theorem twd_se_joinMarks_66 : decode prog_8_method_4_code 66 = .ok (.getfield 15, 3) := by decide +kernel
theorem twd_se_joinMarks_69 : decode prog_8_method_4_code 69 = .ok (.iload_n 2, 1) := by decide +kernel
theorem twd_se_joinMarks_70 : decode prog_8_method_4_code 70 = .ok (.iaload, 1) := by decide +kernel
theorem twd_se_joinMarks_71 : decode prog_8_method_4_code 71 = .ok (.istore_n 1, 1) := by decide +kernel
theorem twd_se_joinMarks_72 : decode prog_8_method_4_code 72 = .ok (.iinc 2 1, 3) := by decide +kernel
theorem twd_se_joinMarks_75 : decode prog_8_method_4_code 75 = .ok (.goto (-68), 3) := by decide +kernel
theorem twd_se_joinMarks_78 : decode prog_8_method_4_code 78 = .ok (.return_, 1) := by decide +kernel
theorem twk_se_joinMarks : tw_dc twy_se_joinMarks 0 := ⟨by decide +kernel, by decide +kernel, by decide +kernel⟩
theorem twd_se_turnArabicNumbers_0 : decode prog_8_method_5_code 0 = .ok (.iconst (-1), 1) := by decide +kernel
theorem twd_se_turnArabicNumbers_1 : decode prog_8_method_5_code 1 = .ok (.istore_n 1, 1) := by decide +kernel
theorem twd_se_turnArabicNumbers_2 : decode prog_8_method_5_code 2 = .ok (.iconst 0, 1) := by decide +kernel
theorem twd_se_turnArabicNumbers_3 : decode prog_8_method_5_code 3 = .ok (.istore_n 2, 1) := by decide +kernel
theorem twd_se_turnArabicNumbers_4 : decode prog_8_method_5_code 4 = .ok (.iload_n 2, 1) := by decide +kernel
theorem twd_se_turnArabicNumbers_5 : decode prog_8_method_5_code 5 = .ok (.aload_n 0, 1) := by decide +kernel
theorem twd_se_turnArabicNumbers_6 : decode prog_8_method_5_code 6 = .ok (.getfield 22, 3) := by decide +kernel
theorem twd_se_turnArabicNumbers_9 : decode prog_8_method_5_code 9 = .ok (.if_icmp .ge 65, 3) := by decide +kernel
theorem twd_se_turnArabicNumbers_12 : decode prog_8_method_5_code 12 = .ok (.aload_n 0, 1) := by decide +kernel
theorem twd_se_turnArabicNumbers_13 : decode prog_8_method_5_code 13 = .ok (.getfield 15, 3) := by decide +kernel
theorem twd_se_turnArabicNumbers_16 : decode prog_8_method_5_code 16 = .ok (.iload_n 2, 1) := by decide +kernel
theorem twd_se_turnArabicNumbers_17 : decode prog_8_method_5_code 17 = .ok (.iaload, 1) := by decide +kernel
theorem twd_se_turnArabicNumbers_18 : decode prog_8_method_5_code 18 = .ok (.istore_n 3, 1) := by decide +kernel
theorem twd_se_turnArabicNumbers_19 : decode prog_8_method_5_code 19 = .ok (.iload_n 3, 1) := by decide +kernel
theorem twd_se_turnArabicNumbers_20 : decode prog_8_method_5_code 20 = .ok (.ifCond .eq 13, 3) := by decide +kernel
theorem twd_se_turnArabicNumbers_23 : decode prog_8_method_5_code 23 = .ok (.iload_n 3, 1) := by decide +kernel
theorem twd_se_turnArabicNumbers_24 : decode prog_8_method_5_code 24 = .ok (.iconst 1, 1) := by decide +kernel
theorem twd_se_turnArabicNumbers_25 : decode prog_8_method_5_code 25 = .ok (.if_icmp .eq 8, 3) := by decide +kernel
theorem twd_se_turnArabicNumbers_28 : decode prog_8_method_5_code 28 = .ok (.iload_n 3, 1) := by decide +kernel
theorem twd_se_turnArabicNumbers_29 : decode prog_8_method_5_code 29 = .ok (.iconst 2, 1) := by decide +kernel
theorem twd_se_turnArabicNumbers_30 : decode prog_8_method_5_code 30 = .ok (.if_icmp .ne 5, 3) := by decide +kernel
theorem twd_se_turnArabicNumbers_33 : decode prog_8_method_5_code 33 = .ok (.iload_n 3, 1) := by decide +kernel
theorem twd_se_turnArabicNumbers_34 : decode prog_8_method_5_code 34 = .ok (.istore_n 1, 1) := by decide +kernel
theorem twd_se_turnArabicNumbers_35 : decode prog_8_method_5_code 35 = .ok (.iload_n 3, 1) := by decide +kernel
theorem twd_se_turnArabicNumbers_36 : decode prog_8_method_5_code 36 = .ok (.iconst 3, 1) := by decide +kernel
theorem twd_se_turnArabicNumbers_37 : decode prog_8_method_5_code 37 = .ok (.if_icmp .ne 19, 3) := by decide +kernel
theorem twd_se_turnArabicNumbers_40 : decode prog_8_method_5_code 40 = .ok (.iload_n 1, 1) := by decide +kernel
theorem twd_se_turnArabicNumbers_41 : decode prog_8_method_5_code 41 = .ok (.iconst 2, 1) := by decide +kernel
theorem twd_se_turnArabicNumbers_42 : decode prog_8_method_5_code 42 = .ok (.if_icmp .ne 14, 3) := by decide +kernel
theorem twd_se_turnArabicNumbers_45 : decode prog_8_method_5_code 45 = .ok (.aload_n 0, 1) := by decide +kernel
theorem twd_se_turnArabicNumbers_46 : decode prog_8_method_5_code 46 = .ok (.getfield 15, 3) := by decide +kernel
theorem twd_se_turnArabicNumbers_49 : decode prog_8_method_5_code 49 = .ok (.iload_n 2, 1) := by decide +kernel
theorem twd_se_turnArabicNumbers_50 : decode prog_8_method_5_code 50 = .ok (.bipush 6, 2) := by decide +kernel
theorem twd_se_turnArabicNumbers_52 : decode prog_8_method_5_code 52 = .ok (.iastore, 1) := by decide +kernel
theorem twd_se_turnArabicNumbers_53 : decode prog_8_method_5_code 53 = .ok (.goto 15, 3) := by decide +kernel
theorem twd_se_turnArabicNumbers_56 : decode prog_8_method_5_code 56 = .ok (.iload_n 3, 1) := by decide +kernel
theorem twd_se_turnArabicNumbers_57 : decode prog_8_method_5_code 57 = .ok (.iconst 2, 1) := by decide +kernel
theorem twd_se_turnArabicNumbers_58 : decode prog_8_method_5_code 58 = .ok (.if_icmp .ne 10, 3) := by decide +kernel
theorem twd_se_turnArabicNumbers_61 : decode prog_8_method_5_code 61 = .ok (.aload_n 0, 1) := by decide +kernel
theorem twd_se_turnArabicNumbers_62 : decode prog_8_method_5_code 62 = .ok (.getfield 15, 3) := by decide +kernel
theorem twd_se_turnArabicNumbers_65 : decode prog_8_method_5_code 65 = .ok (.iload_n 2, 1) := by decide +kernel
theorem twd_se_turnArabicNumbers_66 : decode prog_8_method_5_code 66 = .ok (.iconst 1, 1) := by decide +kernel
theorem twd_se_turnArabicNumbers_67 : decode prog_8_method_5_code 67 = .ok (.iastore, 1) := by decide +kernel
theorem twd_se_turnArabicNumbers_68 : decode prog_8_method_5_code 68 = .ok (.iinc 2 1, 3) := by decide +kernel
theorem twd_se_turnArabicNumbers_71 : decode prog_8_method_5_code 71 = .ok (.goto (-67), 3) := by decide +kernel
theorem twd_se_turnArabicNumbers_74 : decode prog_8_method_5_code 74 = .ok (.return_, 1) := by decide +kernel
theorem twk_se_turnArabicNumbers : tw_dc twy_se_turnArabicNumbers 0 := ⟨by decide +kernel, by decide +kernel, by decide +kernel⟩
theorem twd_se_turnSeparators_0 : decode prog_8_method_6_code 0 = .ok (.iconst 1, 1) := by decide +kernel
theorem twd_se_turnSeparators_1 : decode prog_8_method_6_code 1 = .ok (.istore_n 1, 1) := by decide +kernel
theorem twd_se_turnSeparators_2 : decode prog_8_method_6_code 2 = .ok (.iload_n 1, 1) := by decide +kernel
theorem twd_se_turnSeparators_3 : decode prog_8_method_6_code 3 = .ok (.aload_n 0, 1) := by decide +kernel
theorem twd_se_turnSeparators_4 : decode prog_8_method_6_code 4 = .ok (.getfield 22, 3) := by decide +kernel
theorem twd_se_turnSeparators_7 : decode prog_8_method_6_code 7 = .ok (.iconst 1, 1) := by decide +kernel
theorem twd_se_turnSeparators_8 : decode prog_8_method_6_code 8 = .ok (.isub, 1) := by decide +kernel
theorem twd_se_turnSeparators_9 : decode prog_8_method_6_code 9 = .ok (.if_icmp .ge 87, 3) := by decide +kernel
theorem twd_se_turnSeparators_12 : decode prog_8_method_6_code 12 = .ok (.aload_n 0, 1) := by decide +kernel
theorem twd_se_turnSeparators_13 : decode prog_8_method_6_code 13 = .ok (.getfield 15, 3) := by decide +kernel
theorem twd_se_turnSeparators_16 : decode prog_8_method_6_code 16 = .ok (.iload_n 1, 1) := by decide +kernel
theorem twd_se_turnSeparators_17 : decode prog_8_method_6_code 17 = .ok (.iconst 1, 1) := by decide +kernel
theorem twd_se_turnSeparators_18 : decode prog_8_method_6_code 18 = .ok (.isub, 1) := by decide +kernel
theorem twd_se_turnSeparators_19 : decode prog_8_method_6_code 19 = .ok (.iaload, 1) := by decide +kernel
theorem twd_se_turnSeparators_20 : decode prog_8_method_6_code 20 = .ok (.istore_n 2, 1) := by decide +kernel
theorem twd_se_turnSeparators_21 : decode prog_8_method_6_code 21 = .ok (.iload_n 2, 1) := by decide +kernel
theorem twd_se_turnSeparators_22 : decode prog_8_method_6_code 22 = .ok (.aload_n 0, 1) := by decide +kernel
theorem twd_se_turnSeparators_23 : decode prog_8_method_6_code 23 = .ok (.getfield 15, 3) := by decide +kernel
theorem twd_se_turnSeparators_26 : decode prog_8_method_6_code 26 = .ok (.iload_n 1, 1) := by decide +kernel
theorem twd_se_turnSeparators_27 : decode prog_8_method_6_code 27 = .ok (.iconst 1, 1) := by decide +kernel
theorem twd_se_turnSeparators_28 : decode prog_8_method_6_code 28 = .ok (.iadd, 1) := by decide +kernel
theorem twd_se_turnSeparators_29 : decode prog_8_method_6_code 29 = .ok (.iaload, 1) := by decide +kernel
theorem twd_se_turnSeparators_30 : decode prog_8_method_6_code 30 = .ok (.if_icmp .eq 6, 3) := by decide +kernel
theorem twd_se_turnSeparators_33 : decode prog_8_method_6_code 33 = .ok (.goto 57, 3) := by decide +kernel
theorem twd_se_turnSeparators_36 : decode prog_8_method_6_code 36 = .ok (.aload_n 0, 1) := by decide +kernel
theorem twd_se_turnSeparators_37 : decode prog_8_method_6_code 37 = .ok (.getfield 15, 3) := by decide +kernel
theorem twd_se_turnSeparators_40 : decode prog_8_method_6_code 40 = .ok (.iload_n 1, 1) := by decide +kernel
theorem twd_se_turnSeparators_41 : decode prog_8_method_6_code 41 = .ok (.iaload, 1) := by decide +kernel
theorem twd_se_turnSeparators_42 : decode prog_8_method_6_code 42 = .ok (.iconst 4, 1) := by decide +kernel
theorem twd_se_turnSeparators_43 : decode prog_8_method_6_code 43 = .ok (.if_icmp .ne 8, 3) := by decide +kernel
theorem twd_se_turnSeparators_46 : decode prog_8_method_6_code 46 = .ok (.iload_n 2, 1) := by decide +kernel
theorem twd_se_turnSeparators_47 : decode prog_8_method_6_code 47 = .ok (.iconst 3, 1) := by decide +kernel
theorem twd_se_turnSeparators_48 : decode prog_8_method_6_code 48 = .ok (.if_icmp .eq 25, 3) := by decide +kernel
theorem twd_se_turnSeparators_51 : decode prog_8_method_6_code 51 = .ok (.aload_n 0, 1) := by decide +kernel
theorem twd_se_turnSeparators_52 : decode prog_8_method_6_code 52 = .ok (.getfield 15, 3) := by decide +kernel
theorem twd_se_turnSeparators_55 : decode prog_8_method_6_code 55 = .ok (.iload_n 1, 1) := by decide +kernel
theorem twd_se_turnSeparators_56 : decode prog_8_method_6_code 56 = .ok (.iaload, 1) := by decide +kernel
theorem twd_se_turnSeparators_57 : decode prog_8_method_6_code 57 = .ok (.bipush 7, 2) := by decide +kernel
theorem twd_se_turnSeparators_59 : decode prog_8_method_6_code 59 = .ok (.if_icmp .ne 18, 3) := by decide +kernel
theorem twd_se_turnSeparators_62 : decode prog_8_method_6_code 62 = .ok (.iload_n 2, 1) := by decide +kernel
theorem twd_se_turnSeparators_63 : decode prog_8_method_6_code 63 = .ok (.iconst 3, 1) := by decide +kernel
theorem twd_se_turnSeparators_64 : decode prog_8_method_6_code 64 = .ok (.if_icmp .eq 9, 3) := by decide +kernel
theorem twd_se_turnSeparators_67 : decode prog_8_method_6_code 67 = .ok (.iload_n 2, 1) := by decide +kernel
theorem twd_se_turnSeparators_68 : decode prog_8_method_6_code 68 = .ok (.bipush 6, 2) := by decide +kernel
theorem twd_se_turnSeparators_70 : decode prog_8_method_6_code 70 = .ok (.if_icmp .ne 7, 3) := by decide +kernel
theorem twd_se_turnSeparators_73 : decode prog_8_method_6_code 73 = .ok (.iconst 1, 1) := by decide +kernel
theorem twd_se_turnSeparators_74 : decode prog_8_method_6_code 74 = .ok (.goto 4, 3) := by decide +kernel
theorem twd_se_turnSeparators_77 : decode prog_8_method_6_code 77 = .ok (.iconst 0, 1) := by decide +kernel
theorem twd_se_turnSeparators_78 : decode prog_8_method_6_code 78 = .ok (.istore_n 3, 1) := by decide +kernel
theorem twd_se_turnSeparators_79 : decode prog_8_method_6_code 79 = .ok (.iload_n 3, 1) := by decide +kernel
theorem twd_se_turnSeparators_80 : decode prog_8_method_6_code 80 = .ok (.ifCond .eq 10, 3) := by decide +kernel
theorem twd_se_turnSeparators_83 : decode prog_8_method_6_code 83 = .ok (.aload_n 0, 1) := by decide +kernel
theorem twd_se_turnSeparators_84 : decode prog_8_method_6_code 84 = .ok (.getfield 15, 3) := by decide +kernel
theorem twd_se_turnSeparators_87 : decode prog_8_method_6_code 87 = .ok (.iload_n 1, 1) := by decide +kernel
theorem twd_se_turnSeparators_88 : decode prog_8_method_6_code 88 = .ok (.iload_n 2, 1) := by decide +kernel
theorem twd_se_turnSeparators_89 : decode prog_8_method_6_code 89 = .ok (.iastore, 1) := by decide +kernel
theorem twd_se_turnSeparators_90 : decode prog_8_method_6_code 90 = .ok (.iinc 1 1, 3) := by decide +kernel
theorem twd_se_turnSeparators_93 : decode prog_8_method_6_code 93 = .ok (.goto (-91), 3) := by decide +kernel
theorem twd_se_turnSeparators_96 : decode prog_8_method_6_code 96 = .ok (.return_, 1) := by decide +kernel
theorem twk_se_turnSeparators : tw_dc twy_se_turnSeparators 0 := ⟨by decide +kernel, by decide +kernel, by decide +kernel⟩
theorem twd_se_turnTerminators_0 : decode prog_8_method_7_code 0 = .ok (.iconst 1, 1) := by decide +kernel
theorem twd_se_turnTerminators_1 : decode prog_8_method_7_code 1 = .ok (.istore_n 1, 1) := by decide +kernel
theorem twd_se_turnTerminators_2 : decode prog_8_method_7_code 2 = .ok (.iload_n 1, 1) := by decide +kernel
theorem twd_se_turnTerminators_3 : decode prog_8_method_7_code 3 = .ok (.aload_n 0, 1) := by decide +kernel
theorem twd_se_turnTerminators_4 : decode prog_8_method_7_code 4 = .ok (.getfield 22, 3) := by decide +kernel
theorem twd_se_turnTerminators_7 : decode prog_8_method_7_code 7 = .ok (.if_icmp .ge 38, 3) := by decide +kernel
theorem twd_se_turnTerminators_10 : decode prog_8_method_7_code 10 = .ok (.aload_n 0, 1) := by decide +kernel
theorem twd_se_turnTerminators_11 : decode prog_8_method_7_code 11 = .ok (.getfield 15, 3) := by decide +kernel
theorem twd_se_turnTerminators_14 : decode prog_8_method_7_code 14 = .ok (.iload_n 1, 1) := by decide +kernel
theorem twd_se_turnTerminators_15 : decode prog_8_method_7_code 15 = .ok (.iaload, 1) := by decide +kernel
theorem twd_se_turnTerminators_16 : decode prog_8_method_7_code 16 = .ok (.iconst 5, 1) := by decide +kernel
theorem twd_se_turnTerminators_17 : decode prog_8_method_7_code 17 = .ok (.if_icmp .ne 22, 3) := by decide +kernel
theorem twd_se_turnTerminators_20 : decode prog_8_method_7_code 20 = .ok (.aload_n 0, 1) := by decide +kernel
theorem twd_se_turnTerminators_21 : decode prog_8_method_7_code 21 = .ok (.getfield 15, 3) := by decide +kernel
theorem twd_se_turnTerminators_24 : decode prog_8_method_7_code 24 = .ok (.iload_n 1, 1) := by decide +kernel
theorem twd_se_turnTerminators_25 : decode prog_8_method_7_code 25 = .ok (.iconst 1, 1) := by decide +kernel
theorem twd_se_turnTerminators_26 : decode prog_8_method_7_code 26 = .ok (.isub, 1) := by decide +kernel
theorem twd_se_turnTerminators_27 : decode prog_8_method_7_code 27 = .ok (.iaload, 1) := by decide +kernel
theorem twd_se_turnTerminators_28 : decode prog_8_method_7_code 28 = .ok (.iconst 3, 1) := by decide +kernel
theorem twd_se_turnTerminators_29 : decode prog_8_method_7_code 29 = .ok (.if_icmp .ne 10, 3) := by decide +kernel
theorem twd_se_turnTerminators_32 : decode prog_8_method_7_code 32 = .ok (.aload_n 0, 1) := by decide +kernel
theorem twd_se_turnTerminators_33 : decode prog_8_method_7_code 33 = .ok (.getfield 15, 3) := by decide +kernel
theorem twd_se_turnTerminators_36 : decode prog_8_method_7_code 36 = .ok (.iload_n 1, 1) := by decide +kernel
theorem twd_se_turnTerminators_37 : decode prog_8_method_7_code 37 = .ok (.iconst 3, 1) := by decide +kernel
theorem twd_se_turnTerminators_38 : decode prog_8_method_7_code 38 = .ok (.iastore, 1) := by decide +kernel
theorem twd_se_turnTerminators_39 : decode prog_8_method_7_code 39 = .ok (.iinc 1 1, 3) := by decide +kernel
theorem twd_se_turnTerminators_42 : decode prog_8_method_7_code 42 = .ok (.goto (-40), 3) := by decide +kernel
theorem twd_se_turnTerminators_45 : decode prog_8_method_7_code 45 = .ok (.aload_n 0, 1) := by decide +kernel
theorem twd_se_turnTerminators_46 : decode prog_8_method_7_code 46 = .ok (.getfield 22, 3) := by decide +kernel
theorem twd_se_turnTerminators_49 : decode prog_8_method_7_code 49 = .ok (.iconst 2, 1) := by decide +kernel
theorem twd_se_turnTerminators_50 : decode prog_8_method_7_code 50 = .ok (.isub, 1) := by decide +kernel
theorem twd_se_turnTerminators_51 : decode prog_8_method_7_code 51 = .ok (.istore_n 1, 1) := by decide +kernel
theorem twd_se_turnTerminators_52 : decode prog_8_method_7_code 52 = .ok (.iload_n 1, 1) := by decide +kernel
theorem twd_se_turnTerminators_53 : decode prog_8_method_7_code 53 = .ok (.ifCond .lt 38, 3) := by decide +kernel
theorem twd_se_turnTerminators_56 : decode prog_8_method_7_code 56 = .ok (.aload_n 0, 1) := by decide +kernel
theorem twd_se_turnTerminators_57 : decode prog_8_method_7_code 57 = .ok (.getfield 15, 3) := by decide +kernel
theorem twd_se_turnTerminators_60 : decode prog_8_method_7_code 60 = .ok (.iload_n 1, 1) := by decide +kernel
theorem twd_se_turnTerminators_61 : decode prog_8_method_7_code 61 = .ok (.iaload, 1) := by decide +kernel
theorem twd_se_turnTerminators_62 : decode prog_8_method_7_code 62 = .ok (.iconst 5, 1) := by decide +kernel
theorem twd_se_turnTerminators_63 : decode prog_8_method_7_code 63 = .ok (.if_icmp .ne 22, 3) := by decide +kernel
theorem twd_se_turnTerminators_66 : decode prog_8_method_7_code 66 = .ok (.aload_n 0, 1) := by decide +kernel
theorem twd_se_turnTerminators_67 : decode prog_8_method_7_code 67 = .ok (.getfield 15, 3) := by decide +kernel
theorem twd_se_turnTerminators_70 : decode prog_8_method_7_code 70 = .ok (.iload_n 1, 1) := by decide +kernel
theorem twd_se_turnTerminators_71 : decode prog_8_method_7_code 71 = .ok (.iconst 1, 1) := by decide +kernel
theorem twd_se_turnTerminators_72 : decode prog_8_method_7_code 72 = .ok (.iadd, 1) := by decide +kernel
theorem twd_se_turnTerminators_73 : decode prog_8_method_7_code 73 = .ok (.iaload, 1) := by decide +kernel
theorem twd_se_turnTerminators_74 : decode prog_8_method_7_code 74 = .ok (.iconst 3, 1) := by decide +kernel
theorem twd_se_turnTerminators_75 : decode prog_8_method_7_code 75 = .ok (.if_icmp .ne 10, 3) := by decide +kernel
theorem twd_se_turnTerminators_78 : decode prog_8_method_7_code 78 = .ok (.aload_n 0, 1) := by decide +kernel
theorem twd_se_turnTerminators_79 : decode prog_8_method_7_code 79 = .ok (.getfield 15, 3) := by decide +kernel
theorem twd_se_turnTerminators_82 : decode prog_8_method_7_code 82 = .ok (.iload_n 1, 1) := by decide +kernel
theorem twd_se_turnTerminators_83 : decode prog_8_method_7_code 83 = .ok (.iconst 3, 1) := by decide +kernel
theorem twd_se_turnTerminators_84 : decode prog_8_method_7_code 84 = .ok (.iastore, 1) := by decide +kernel
theorem twd_se_turnTerminators_85 : decode prog_8_method_7_code 85 = .ok (.iinc 1 (-1), 3) := by decide +kernel
theorem twd_se_turnTerminators_88 : decode prog_8_method_7_code 88 = .ok (.goto (-36), 3) := by decide +kernel
theorem twd_se_turnTerminators_91 : decode prog_8_method_7_code 91 = .ok (.return_, 1) := by decide +kernel
theorem twk_se_turnTerminators : tw_dc twy_se_turnTerminators 0 := ⟨by decide +kernel, by decide +kernel, by decide +kernel⟩
theorem twd_se_freeLeftovers_0 : decode prog_8_method_8_code 0 = .ok (.iconst 0, 1) := by decide +kernel
theorem twd_se_freeLeftovers_1 : decode prog_8_method_8_code 1 = .ok (.istore_n 1, 1) := by decide +kernel
theorem twd_se_freeLeftovers_2 : decode prog_8_method_8_code 2 = .ok (.iload_n 1, 1) := by decide +kernel
theorem twd_se_freeLeftovers_3 : decode prog_8_method_8_code 3 = .ok (.aload_n 0, 1) := by decide +kernel
theorem twd_se_freeLeftovers_4 : decode prog_8_method_8_code 4 = .ok (.getfield 22, 3) := by decide +kernel
theorem twd_se_freeLeftovers_7 : decode prog_8_method_8_code 7 = .ok (.if_icmp .ge 48, 3) := by decide +kernel
theorem twd_se_freeLeftovers_10 : decode prog_8_method_8_code 10 = .ok (.aload_n 0, 1) := by decide +kernel
theorem twd_se_freeLeftovers_11 : decode prog_8_method_8_code 11 = .ok (.getfield 15, 3) := by decide +kernel
theorem twd_se_freeLeftovers_14 : decode prog_8_method_8_code 14 = .ok (.iload_n 1, 1) := by decide +kernel
theorem twd_se_freeLeftovers_15 : decode prog_8_method_8_code 15 = .ok (.iaload, 1) := by decide +kernel
theorem twd_se_freeLeftovers_16 : decode prog_8_method_8_code 16 = .ok (.iconst 4, 1) := by decide +kernel
theorem twd_se_freeLeftovers_17 : decode prog_8_method_8_code 17 = .ok (.if_icmp .eq 24, 3) := by decide +kernel
theorem twd_se_freeLeftovers_20 : decode prog_8_method_8_code 20 = .ok (.aload_n 0, 1) := by decide +kernel
theorem twd_se_freeLeftovers_21 : decode prog_8_method_8_code 21 = .ok (.getfield 15, 3) := by decide +kernel
theorem twd_se_freeLeftovers_24 : decode prog_8_method_8_code 24 = .ok (.iload_n 1, 1) := by decide +kernel
theorem twd_se_freeLeftovers_25 : decode prog_8_method_8_code 25 = .ok (.iaload, 1) := by decide +kernel
theorem twd_se_freeLeftovers_26 : decode prog_8_method_8_code 26 = .ok (.iconst 5, 1) := by decide +kernel
theorem twd_se_freeLeftovers_27 : decode prog_8_method_8_code 27 = .ok (.if_icmp .eq 14, 3) := by decide +kernel
theorem twd_se_freeLeftovers_30 : decode prog_8_method_8_code 30 = .ok (.aload_n 0, 1) := by decide +kernel
theorem twd_se_freeLeftovers_31 : decode prog_8_method_8_code 31 = .ok (.getfield 15, 3) := by decide +kernel
theorem twd_se_freeLeftovers_34 : decode prog_8_method_8_code 34 = .ok (.iload_n 1, 1) := by decide +kernel
theorem twd_se_freeLeftovers_35 : decode prog_8_method_8_code 35 = .ok (.iaload, 1) := by decide +kernel
theorem twd_se_freeLeftovers_36 : decode prog_8_method_8_code 36 = .ok (.bipush 7, 2) := by decide +kernel
theorem twd_se_freeLeftovers_38 : decode prog_8_method_8_code 38 = .ok (.if_icmp .ne 11, 3) := by decide +kernel
theorem twd_se_freeLeftovers_41 : decode prog_8_method_8_code 41 = .ok (.aload_n 0, 1) := by decide +kernel
theorem twd_se_freeLeftovers_42 : decode prog_8_method_8_code 42 = .ok (.getfield 15, 3) := by decide +kernel
theorem twd_se_freeLeftovers_45 : decode prog_8_method_8_code 45 = .ok (.iload_n 1, 1) := by decide +kernel
theorem twd_se_freeLeftovers_46 : decode prog_8_method_8_code 46 = .ok (.bipush 11, 2) := by decide +kernel
theorem twd_se_freeLeftovers_48 : decode prog_8_method_8_code 48 = .ok (.iastore, 1) := by decide +kernel
theorem twd_se_freeLeftovers_49 : decode prog_8_method_8_code 49 = .ok (.iinc 1 1, 3) := by decide +kernel
theorem twd_se_freeLeftovers_52 : decode prog_8_method_8_code 52 = .ok (.goto (-50), 3) := by decide +kernel
theorem twd_se_freeLeftovers_55 : decode prog_8_method_8_code 55 = .ok (.return_, 1) := by decide +kernel
theorem twk_se_freeLeftovers : tw_dc twy_se_freeLeftovers 0 := ⟨by decide +kernel, by decide +kernel, by decide +kernel⟩
theorem twd_se_turnLatinNumbers_0 : decode prog_8_method_9_code 0 = .ok (.aload_n 0, 1) := by decide +kernel
theorem twd_se_turnLatinNumbers_1 : decode prog_8_method_9_code 1 = .ok (.getfield 29, 3) := by decide +kernel
theorem twd_se_turnLatinNumbers_4 : decode prog_8_method_9_code 4 = .ok (.istore_n 1, 1) := by decide +kernel
theorem twd_se_turnLatinNumbers_5 : decode prog_8_method_9_code 5 = .ok (.iconst 0, 1) := by decide +kernel
theorem twd_se_turnLatinNumbers_6 : decode prog_8_method_9_code 6 = .ok (.istore_n 2, 1) := by decide +kernel
theorem twd_se_turnLatinNumbers_7 : decode prog_8_method_9_code 7 = .ok (.iload_n 2, 1) := by decide +kernel
theorem twd_se_turnLatinNumbers_8 : decode prog_8_method_9_code 8 = .ok (.aload_n 0, 1) := by decide +kernel
theorem twd_se_turnLatinNumbers_9 : decode prog_8_method_9_code 9 = .ok (.getfield 22, 3) := by decide +kernel
theorem twd_se_turnLatinNumbers_12 : decode prog_8_method_9_code 12 = .ok (.if_icmp .ge 59, 3) := by decide +kernel
theorem twd_se_turnLatinNumbers_15 : decode prog_8_method_9_code 15 = .ok (.aload_n 0, 1) := by decide +kernel
theorem twd_se_turnLatinNumbers_16 : decode prog_8_method_9_code 16 = .ok (.getfield 15, 3) := by decide +kernel
theorem twd_se_turnLatinNumbers_19 : decode prog_8_method_9_code 19 = .ok (.iload_n 2, 1) := by decide +kernel
theorem twd_se_turnLatinNumbers_20 : decode prog_8_method_9_code 20 = .ok (.iaload, 1) := by decide +kernel
theorem twd_se_turnLatinNumbers_21 : decode prog_8_method_9_code 21 = .ok (.ifCond .eq 13, 3) := by decide +kernel
theorem twd_se_turnLatinNumbers_24 : decode prog_8_method_9_code 24 = .ok (.aload_n 0, 1) := by decide +kernel
theorem twd_se_turnLatinNumbers_25 : decode prog_8_method_9_code 25 = .ok (.getfield 15, 3) := by decide +kernel
theorem twd_se_turnLatinNumbers_28 : decode prog_8_method_9_code 28 = .ok (.iload_n 2, 1) := by decide +kernel
theorem twd_se_turnLatinNumbers_29 : decode prog_8_method_9_code 29 = .ok (.iaload, 1) := by decide +kernel
theorem twd_se_turnLatinNumbers_30 : decode prog_8_method_9_code 30 = .ok (.iconst 1, 1) := by decide +kernel
theorem twd_se_turnLatinNumbers_31 : decode prog_8_method_9_code 31 = .ok (.if_icmp .ne 13, 3) := by decide +kernel
theorem twd_se_turnLatinNumbers_34 : decode prog_8_method_9_code 34 = .ok (.aload_n 0, 1) := by decide +kernel
theorem twd_se_turnLatinNumbers_35 : decode prog_8_method_9_code 35 = .ok (.getfield 15, 3) := by decide +kernel
theorem twd_se_turnLatinNumbers_38 : decode prog_8_method_9_code 38 = .ok (.iload_n 2, 1) := by decide +kernel
theorem twd_se_turnLatinNumbers_39 : decode prog_8_method_9_code 39 = .ok (.iaload, 1) := by decide +kernel
theorem twd_se_turnLatinNumbers_40 : decode prog_8_method_9_code 40 = .ok (.istore_n 1, 1) := by decide +kernel
theorem twd_se_turnLatinNumbers_41 : decode prog_8_method_9_code 41 = .ok (.goto 24, 3) := by decide +kernel
theorem twd_se_turnLatinNumbers_44 : decode prog_8_method_9_code 44 = .ok (.aload_n 0, 1) := by decide +kernel
theorem twd_se_turnLatinNumbers_45 : decode prog_8_method_9_code 45 = .ok (.getfield 15, 3) := by decide +kernel
theorem twd_se_turnLatinNumbers_48 : decode prog_8_method_9_code 48 = .ok (.iload_n 2, 1) := by decide +kernel
theorem twd_se_turnLatinNumbers_49 : decode prog_8_method_9_code 49 = .ok (.iaload, 1) := by decide +kernel
theorem twd_se_turnLatinNumbers_50 : decode prog_8_method_9_code 50 = .ok (.iconst 3, 1) := by decide +kernel
theorem twd_se_turnLatinNumbers_51 : decode prog_8_method_9_code 51 = .ok (.if_icmp .ne 14, 3) := by decide +kernel
theorem twd_se_turnLatinNumbers_54 : decode prog_8_method_9_code 54 = .ok (.iload_n 1, 1) := by decide +kernel
theorem twd_se_turnLatinNumbers_55 : decode prog_8_method_9_code 55 = .ok (.ifCond .ne 10, 3) := by decide +kernel
theorem twd_se_turnLatinNumbers_58 : decode prog_8_method_9_code 58 = .ok (.aload_n 0, 1) := by decide +kernel
theorem twd_se_turnLatinNumbers_59 : decode prog_8_method_9_code 59 = .ok (.getfield 15, 3) := by decide +kernel
theorem twd_se_turnLatinNumbers_62 : decode prog_8_method_9_code 62 = .ok (.iload_n 2, 1) := by decide +kernel
theorem twd_se_turnLatinNumbers_63 : decode prog_8_method_9_code 63 = .ok (.iconst 0, 1) := by decide +kernel
theorem twd_se_turnLatinNumbers_64 : decode prog_8_method_9_code 64 = .ok (.iastore, 1) := by decide +kernel
theorem twd_se_turnLatinNumbers_65 : decode prog_8_method_9_code 65 = .ok (.iinc 2 1, 3) := by decide +kernel
theorem twd_se_turnLatinNumbers_68 : decode prog_8_method_9_code 68 = .ok (.goto (-61), 3) := by decide +kernel
theorem twd_se_turnLatinNumbers_71 : decode prog_8_method_9_code 71 = .ok (.return_, 1) := by decide +kernel
theorem twk_se_turnLatinNumbers : tw_dc twy_se_turnLatinNumbers 0 := ⟨by decide +kernel, by decide +kernel, by decide +kernel⟩
theorem twd_se_resolveWeak_0 : decode prog_8_method_3_code 0 = .ok (.aload_n 0, 1) := by decide +kernel
theorem twd_se_resolveWeak_1 : decode prog_8_method_3_code 1 = .ok (.invokevirtual 35, 3) := by decide +kernel
theorem twd_se_resolveWeak_4 : decode prog_8_method_3_code 4 = .ok (.aload_n 0, 1) := by decide +kernel
theorem twd_se_resolveWeak_5 : decode prog_8_method_3_code 5 = .ok (.invokevirtual 38, 3) := by decide +kernel
theorem twd_se_resolveWeak_8 : decode prog_8_method_3_code 8 = .ok (.aload_n 0, 1) := by decide +kernel
theorem twd_se_resolveWeak_9 : decode prog_8_method_3_code 9 = .ok (.invokevirtual 41, 3) := by decide +kernel
theorem twd_se_resolveWeak_12 : decode prog_8_method_3_code 12 = .ok (.aload_n 0, 1) := by decide +kernel
theorem twd_se_resolveWeak_13 : decode prog_8_method_3_code 13 = .ok (.invokevirtual 44, 3) := by decide +kernel
theorem twd_se_resolveWeak_16 : decode prog_8_method_3_code 16 = .ok (.aload_n 0, 1) := by decide +kernel
theorem twd_se_resolveWeak_17 : decode prog_8_method_3_code 17 = .ok (.invokevirtual 47, 3) := by decide +kernel
theorem twd_se_resolveWeak_20 : decode prog_8_method_3_code 20 = .ok (.aload_n 0, 1) := by decide +kernel
theorem twd_se_resolveWeak_21 : decode prog_8_method_3_code 21 = .ok (.invokevirtual 50, 3) := by decide +kernel
theorem twd_se_resolveWeak_24 : decode prog_8_method_3_code 24 = .ok (.return_, 1) := by decide +kernel
theorem twk_se_resolveWeak : tw_dc twy_se_resolveWeak 0 := ⟨by decide +kernel, by decide +kernel, by decide +kernel⟩
theorem twd_br_close_0 : decode prog_2_method_4_code 0 = .ok (.aload_n 1, 1) := by decide +kernel
theorem twd_br_close_1 : decode prog_2_method_4_code 1 = .ok (.getfield 32, 3) := by decide +kernel
theorem twd_br_close_4 : decode prog_2_method_4_code 4 = .ok (.aload_n 2, 1) := by decide +kernel
theorem twd_br_close_5 : decode prog_2_method_4_code 5 = .ok (.getfield 37, 3) := by decide +kernel
theorem twd_br_close_8 : decode prog_2_method_4_code 8 = .ok (.iload_n 3, 1) := by decide +kernel
theorem twd_br_close_9 : decode prog_2_method_4_code 9 = .ok (.iaload, 1) := by decide +kernel
theorem twd_br_close_10 : decode prog_2_method_4_code 10 = .ok (.iaload, 1) := by decide +kernel
theorem twd_br_close_11 : decode prog_2_method_4_code 11 = .ok (.ineg, 1) := by decide +kernel
theorem twd_br_close_12 : decode prog_2_method_4_code 12 = .ok (.istore 5, 2) := by decide +kernel
theorem twd_br_close_14 : decode prog_2_method_4_code 14 = .ok (.iload 4, 2) := by decide +kernel
theorem twd_br_close_16 : decode prog_2_method_4_code 16 = .ok (.iconst 1, 1) := by decide +kernel
theorem twd_br_close_17 : decode prog_2_method_4_code 17 = .ok (.isub, 1) := by decide +kernel
theorem twd_br_close_18 : decode prog_2_method_4_code 18 = .ok (.istore 6, 2) := by decide +kernel
theorem twd_br_close_20 : decode prog_2_method_4_code 20 = .ok (.iload 6, 2) := by decide +kernel
theorem twd_br_close_22 : decode prog_2_method_4_code 22 = .ok (.ifCond .lt 54, 3) := by decide +kernel
theorem twd_br_close_25 : decode prog_2_method_4_code 25 = .ok (.aload_n 0, 1) := by decide +kernel
theorem twd_br_close_26 : decode prog_2_method_4_code 26 = .ok (.getfield 15, 3) := by decide +kernel
theorem twd_br_close_29 : decode prog_2_method_4_code 29 = .ok (.iload 6, 2) := by decide +kernel
theorem twd_br_close_31 : decode prog_2_method_4_code 31 = .ok (.iaload, 1) := by decide +kernel
theorem twd_br_close_32 : decode prog_2_method_4_code 32 = .ok (.istore 7, 2) := by decide +kernel
theorem twd_br_close_34 : decode prog_2_method_4_code 34 = .ok (.aload_n 1, 1) := by decide +kernel
theorem twd_br_close_35 : decode prog_2_method_4_code 35 = .ok (.getfield 32, 3) := by decide +kernel
theorem twd_br_close_38 : decode prog_2_method_4_code 38 = .ok (.aload_n 2, 1) := by decide +kernel
theorem twd_br_close_39 : decode prog_2_method_4_code 39 = .ok (.getfield 37, 3) := by decide +kernel
theorem twd_br_close_42 : decode prog_2_method_4_code 42 = .ok (.iload 7, 2) := by decide +kernel
theorem twd_br_close_44 : decode prog_2_method_4_code 44 = .ok (.iaload, 1) := by decide +kernel
theorem twd_br_close_45 : decode prog_2_method_4_code 45 = .ok (.iaload, 1) := by decide +kernel
theorem twd_br_close_46 : decode prog_2_method_4_code 46 = .ok (.iload 5, 2) := by decide +kernel
theorem twd_br_close_48 : decode prog_2_method_4_code 48 = .ok (.if_icmp .ne 22, 3) := by decide +kernel
theorem twd_br_close_51 : decode prog_2_method_4_code 51 = .ok (.aload_n 0, 1) := by decide +kernel
theorem twd_br_close_52 : decode prog_2_method_4_code 52 = .ok (.getfield 9, 3) := by decide +kernel
theorem twd_br_close_55 : decode prog_2_method_4_code 55 = .ok (.iload 7, 2) := by decide +kernel
theorem twd_br_close_57 : decode prog_2_method_4_code 57 = .ok (.iload_n 3, 1) := by decide +kernel
theorem twd_br_close_58 : decode prog_2_method_4_code 58 = .ok (.iastore, 1) := by decide +kernel
theorem twd_br_close_59 : decode prog_2_method_4_code 59 = .ok (.aload_n 0, 1) := by decide +kernel
theorem twd_br_close_60 : decode prog_2_method_4_code 60 = .ok (.getfield 9, 3) := by decide +kernel
theorem twd_br_close_63 : decode prog_2_method_4_code 63 = .ok (.iload_n 3, 1) := by decide +kernel
theorem twd_br_close_64 : decode prog_2_method_4_code 64 = .ok (.iload 7, 2) := by decide +kernel
theorem twd_br_close_66 : decode prog_2_method_4_code 66 = .ok (.iastore, 1) := by decide +kernel
theorem twd_br_close_67 : decode prog_2_method_4_code 67 = .ok (.iload 6, 2) := by decide +kernel
theorem twd_br_close_69 : decode prog_2_method_4_code 69 = .ok (.ireturn, 1) := by decide +kernel
theorem twd_br_close_70 : decode prog_2_method_4_code 70 = .ok (.iinc 6 (-1), 3) := by decide +kernel
theorem twd_br_close_73 : decode prog_2_method_4_code 73 = .ok (.goto (-53), 3) := by decide +kernel
theorem twd_br_close_76 : decode prog_2_method_4_code 76 = .ok (.iload 4, 2) := by decide +kernel
theorem twd_br_close_78 : decode prog_2_method_4_code 78 = .ok (.ireturn, 1) := by decide +kernel
theorem twk_br_close : tw_dc twy_br_close 4 := ⟨by decide +kernel, by decide +kernel, by decide +kernel⟩
theorem twd_br_pairUp_0 : decode prog_2_method_3_code 0 = .ok (.iconst 0, 1) := by decide +kernel
theorem twd_br_pairUp_1 : decode prog_2_method_3_code 1 = .ok (.istore_n 3, 1) := by decide +kernel
theorem twd_br_pairUp_2 : decode prog_2_method_3_code 2 = .ok (.iconst 0, 1) := by decide +kernel
theorem twd_br_pairUp_3 : decode prog_2_method_3_code 3 = .ok (.istore 4, 2) := by decide +kernel
theorem twd_br_pairUp_5 : decode prog_2_method_3_code 5 = .ok (.iload 4, 2) := by decide +kernel
theorem twd_br_pairUp_7 : decode prog_2_method_3_code 7 = .ok (.aload_n 2, 1) := by decide +kernel
theorem twd_br_pairUp_8 : decode prog_2_method_3_code 8 = .ok (.getfield 22, 3) := by decide +kernel
theorem twd_br_pairUp_11 : decode prog_2_method_3_code 11 = .ok (.if_icmp .ge 80, 3) := by decide +kernel
theorem twd_br_pairUp_14 : decode prog_2_method_3_code 14 = .ok (.aload_n 0, 1) := by decide +kernel
theorem twd_br_pairUp_15 : decode prog_2_method_3_code 15 = .ok (.getfield 9, 3) := by decide +kernel
theorem twd_br_pairUp_18 : decode prog_2_method_3_code 18 = .ok (.iload 4, 2) := by decide +kernel
theorem twd_br_pairUp_20 : decode prog_2_method_3_code 20 = .ok (.iconst (-1), 1) := by decide +kernel
theorem twd_br_pairUp_21 : decode prog_2_method_3_code 21 = .ok (.iastore, 1) := by decide +kernel
theorem twd_br_pairUp_22 : decode prog_2_method_3_code 22 = .ok (.aload_n 1, 1) := by decide +kernel
theorem twd_br_pairUp_23 : decode prog_2_method_3_code 23 = .ok (.getfield 32, 3) := by decide +kernel
theorem twd_br_pairUp_26 : decode prog_2_method_3_code 26 = .ok (.aload_n 2, 1) := by decide +kernel
theorem twd_br_pairUp_27 : decode prog_2_method_3_code 27 = .ok (.getfield 37, 3) := by decide +kernel
theorem twd_br_pairUp_30 : decode prog_2_method_3_code 30 = .ok (.iload 4, 2) := by decide +kernel
theorem twd_br_pairUp_32 : decode prog_2_method_3_code 32 = .ok (.iaload, 1) := by decide +kernel
theorem twd_br_pairUp_33 : decode prog_2_method_3_code 33 = .ok (.iaload, 1) := by decide +kernel
theorem twd_br_pairUp_34 : decode prog_2_method_3_code 34 = .ok (.istore 5, 2) := by decide +kernel
theorem twd_br_pairUp_36 : decode prog_2_method_3_code 36 = .ok (.iload 5, 2) := by decide +kernel
theorem twd_br_pairUp_38 : decode prog_2_method_3_code 38 = .ok (.ifCond .eq 47, 3) := by decide +kernel
theorem twd_br_pairUp_41 : decode prog_2_method_3_code 41 = .ok (.aload_n 2, 1) := by decide +kernel
theorem twd_br_pairUp_42 : decode prog_2_method_3_code 42 = .ok (.getfield 40, 3) := by decide +kernel
theorem twd_br_pairUp_45 : decode prog_2_method_3_code 45 = .ok (.iload 4, 2) := by decide +kernel
theorem twd_br_pairUp_47 : decode prog_2_method_3_code 47 = .ok (.iaload, 1) := by decide +kernel
theorem twd_br_pairUp_48 : decode prog_2_method_3_code 48 = .ok (.bipush 11, 2) := by decide +kernel
theorem twd_br_pairUp_50 : decode prog_2_method_3_code 50 = .ok (.if_icmp .eq 6, 3) := by decide +kernel
theorem twd_br_pairUp_53 : decode prog_2_method_3_code 53 = .ok (.goto 32, 3) := by decide +kernel
theorem twd_br_pairUp_56 : decode prog_2_method_3_code 56 = .ok (.iload 5, 2) := by decide +kernel
theorem twd_br_pairUp_58 : decode prog_2_method_3_code 58 = .ok (.ifCond .ge 16, 3) := by decide +kernel
theorem twd_br_pairUp_61 : decode prog_2_method_3_code 61 = .ok (.aload_n 0, 1) := by decide +kernel
theorem twd_br_pairUp_62 : decode prog_2_method_3_code 62 = .ok (.aload_n 1, 1) := by decide +kernel
theorem twd_br_pairUp_63 : decode prog_2_method_3_code 63 = .ok (.aload_n 2, 1) := by decide +kernel
theorem twd_br_pairUp_64 : decode prog_2_method_3_code 64 = .ok (.iload 4, 2) := by decide +kernel
theorem twd_br_pairUp_66 : decode prog_2_method_3_code 66 = .ok (.iload_n 3, 1) := by decide +kernel
theorem twd_br_pairUp_67 : decode prog_2_method_3_code 67 = .ok (.invokevirtual 43, 3) := by decide +kernel
theorem twd_br_pairUp_70 : decode prog_2_method_3_code 70 = .ok (.istore_n 3, 1) := by decide +kernel
theorem twd_br_pairUp_71 : decode prog_2_method_3_code 71 = .ok (.goto 14, 3) := by decide +kernel
theorem twd_br_pairUp_74 : decode prog_2_method_3_code 74 = .ok (.aload_n 0, 1) := by decide +kernel
theorem twd_br_pairUp_75 : decode prog_2_method_3_code 75 = .ok (.getfield 15, 3) := by decide +kernel
theorem twd_br_pairUp_78 : decode prog_2_method_3_code 78 = .ok (.iload_n 3, 1) := by decide +kernel
theorem twd_br_pairUp_79 : decode prog_2_method_3_code 79 = .ok (.iload 4, 2) := by decide +kernel
theorem twd_br_pairUp_81 : decode prog_2_method_3_code 81 = .ok (.iastore, 1) := by decide +kernel
theorem twd_br_pairUp_82 : decode prog_2_method_3_code 82 = .ok (.iinc 3 1, 3) := by decide +kernel
theorem twd_br_pairUp_85 : decode prog_2_method_3_code 85 = .ok (.iinc 4 1, 3) := by decide +kernel
theorem twd_br_pairUp_88 : decode prog_2_method_3_code 88 = .ok (.goto (-83), 3) := by decide +kernel
theorem twd_br_pairUp_91 : decode prog_2_method_3_code 91 = .ok (.return_, 1) := by decide +kernel
theorem twk_br_pairUp : tw_dc twy_br_pairUp 2 := ⟨by decide +kernel, by decide +kernel, by decide +kernel⟩
theorem twd_se_strongAt_0 : decode prog_8_method_12_code 0 = .ok (.aload_n 0, 1) := by decide +kernel
theorem twd_se_strongAt_1 : decode prog_8_method_12_code 1 = .ok (.getfield 15, 3) := by decide +kernel
theorem twd_se_strongAt_4 : decode prog_8_method_12_code 4 = .ok (.iload_n 1, 1) := by decide +kernel
theorem twd_se_strongAt_5 : decode prog_8_method_12_code 5 = .ok (.iaload, 1) := by decide +kernel
theorem twd_se_strongAt_6 : decode prog_8_method_12_code 6 = .ok (.istore_n 2, 1) := by decide +kernel
theorem twd_se_strongAt_7 : decode prog_8_method_12_code 7 = .ok (.iload_n 2, 1) := by decide +kernel
theorem twd_se_strongAt_8 : decode prog_8_method_12_code 8 = .ok (.ifCond .ne 5, 3) := by decide +kernel
theorem twd_se_strongAt_11 : decode prog_8_method_12_code 11 = .ok (.iconst 0, 1) := by decide +kernel
theorem twd_se_strongAt_12 : decode prog_8_method_12_code 12 = .ok (.ireturn, 1) := by decide +kernel
theorem twd_se_strongAt_13 : decode prog_8_method_12_code 13 = .ok (.iload_n 2, 1) := by decide +kernel
theorem twd_se_strongAt_14 : decode prog_8_method_12_code 14 = .ok (.iconst 1, 1) := by decide +kernel
theorem twd_se_strongAt_15 : decode prog_8_method_12_code 15 = .ok (.if_icmp .eq 14, 3) := by decide +kernel
theorem twd_se_strongAt_18 : decode prog_8_method_12_code 18 = .ok (.iload_n 2, 1) := by decide +kernel
theorem twd_se_strongAt_19 : decode prog_8_method_12_code 19 = .ok (.iconst 3, 1) := by decide +kernel
theorem twd_se_strongAt_20 : decode prog_8_method_12_code 20 = .ok (.if_icmp .eq 9, 3) := by decide +kernel
theorem twd_se_strongAt_23 : decode prog_8_method_12_code 23 = .ok (.iload_n 2, 1) := by decide +kernel
theorem twd_se_strongAt_24 : decode prog_8_method_12_code 24 = .ok (.bipush 6, 2) := by decide +kernel
theorem twd_se_strongAt_26 : decode prog_8_method_12_code 26 = .ok (.if_icmp .ne 7, 3) := by decide +kernel
theorem twd_se_strongAt_29 : decode prog_8_method_12_code 29 = .ok (.iconst 1, 1) := by decide +kernel
theorem twd_se_strongAt_30 : decode prog_8_method_12_code 30 = .ok (.goto 4, 3) := by decide +kernel
theorem twd_se_strongAt_33 : decode prog_8_method_12_code 33 = .ok (.iconst (-1), 1) := by decide +kernel
theorem twd_se_strongAt_34 : decode prog_8_method_12_code 34 = .ok (.ireturn, 1) := by decide +kernel
theorem twk_se_strongAt : tw_dc twy_se_strongAt 1 := ⟨by decide +kernel, by decide +kernel, by decide +kernel⟩
theorem twd_br_strongBetween_0 : decode prog_2_method_6_code 0 = .ok (.iconst (-1), 1) := by decide +kernel
theorem twd_br_strongBetween_1 : decode prog_2_method_6_code 1 = .ok (.istore 4, 2) := by decide +kernel
theorem twd_br_strongBetween_3 : decode prog_2_method_6_code 3 = .ok (.iload_n 2, 1) := by decide +kernel
theorem twd_br_strongBetween_4 : decode prog_2_method_6_code 4 = .ok (.iconst 1, 1) := by decide +kernel
theorem twd_br_strongBetween_5 : decode prog_2_method_6_code 5 = .ok (.iadd, 1) := by decide +kernel
theorem twd_br_strongBetween_6 : decode prog_2_method_6_code 6 = .ok (.istore 5, 2) := by decide +kernel
theorem twd_br_strongBetween_8 : decode prog_2_method_6_code 8 = .ok (.iload 5, 2) := by decide +kernel
theorem twd_br_strongBetween_10 : decode prog_2_method_6_code 10 = .ok (.iload_n 3, 1) := by decide +kernel
theorem twd_br_strongBetween_11 : decode prog_2_method_6_code 11 = .ok (.if_icmp .ge 39, 3) := by decide +kernel
theorem twd_br_strongBetween_14 : decode prog_2_method_6_code 14 = .ok (.aload_n 1, 1) := by decide +kernel
theorem twd_br_strongBetween_15 : decode prog_2_method_6_code 15 = .ok (.iload 5, 2) := by decide +kernel
theorem twd_br_strongBetween_17 : decode prog_2_method_6_code 17 = .ok (.invokevirtual 61, 3) := by decide +kernel
theorem twd_br_strongBetween_20 : decode prog_2_method_6_code 20 = .ok (.istore 6, 2) := by decide +kernel
theorem twd_br_strongBetween_22 : decode prog_2_method_6_code 22 = .ok (.iload 6, 2) := by decide +kernel
theorem twd_br_strongBetween_24 : decode prog_2_method_6_code 24 = .ok (.aload_n 1, 1) := by decide +kernel
theorem twd_br_strongBetween_25 : decode prog_2_method_6_code 25 = .ok (.getfield 51, 3) := by decide +kernel
theorem twd_br_strongBetween_28 : decode prog_2_method_6_code 28 = .ok (.if_icmp .ne 6, 3) := by decide +kernel
theorem twd_br_strongBetween_31 : decode prog_2_method_6_code 31 = .ok (.iload 6, 2) := by decide +kernel
theorem twd_br_strongBetween_33 : decode prog_2_method_6_code 33 = .ok (.ireturn, 1) := by decide +kernel
theorem twd_br_strongBetween_34 : decode prog_2_method_6_code 34 = .ok (.iload 6, 2) := by decide +kernel
theorem twd_br_strongBetween_36 : decode prog_2_method_6_code 36 = .ok (.iconst (-1), 1) := by decide +kernel
theorem twd_br_strongBetween_37 : decode prog_2_method_6_code 37 = .ok (.if_icmp .eq 7, 3) := by decide +kernel
theorem twd_br_strongBetween_40 : decode prog_2_method_6_code 40 = .ok (.iload 6, 2) := by decide +kernel
theorem twd_br_strongBetween_42 : decode prog_2_method_6_code 42 = .ok (.istore 4, 2) := by decide +kernel
theorem twd_br_strongBetween_44 : decode prog_2_method_6_code 44 = .ok (.iinc 5 1, 3) := by decide +kernel
theorem twd_br_strongBetween_47 : decode prog_2_method_6_code 47 = .ok (.goto (-39), 3) := by decide +kernel
theorem twd_br_strongBetween_50 : decode prog_2_method_6_code 50 = .ok (.iload 4, 2) := by decide +kernel
theorem twd_br_strongBetween_52 : decode prog_2_method_6_code 52 = .ok (.ireturn, 1) := by decide +kernel
theorem twk_br_strongBetween : tw_dc twy_br_strongBetween 3 := ⟨by decide +kernel, by decide +kernel, by decide +kernel⟩
theorem twd_br_strongBefore_0 : decode prog_2_method_7_code 0 = .ok (.iload_n 2, 1) := by decide +kernel
theorem twd_br_strongBefore_1 : decode prog_2_method_7_code 1 = .ok (.iconst 1, 1) := by decide +kernel
theorem twd_br_strongBefore_2 : decode prog_2_method_7_code 2 = .ok (.isub, 1) := by decide +kernel
theorem twd_br_strongBefore_3 : decode prog_2_method_7_code 3 = .ok (.istore_n 3, 1) := by decide +kernel
theorem twd_br_strongBefore_4 : decode prog_2_method_7_code 4 = .ok (.iload_n 3, 1) := by decide +kernel
theorem twd_br_strongBefore_5 : decode prog_2_method_7_code 5 = .ok (.ifCond .lt 24, 3) := by decide +kernel
theorem twd_br_strongBefore_8 : decode prog_2_method_7_code 8 = .ok (.aload_n 1, 1) := by decide +kernel
theorem twd_br_strongBefore_9 : decode prog_2_method_7_code 9 = .ok (.iload_n 3, 1) := by decide +kernel
theorem twd_br_strongBefore_10 : decode prog_2_method_7_code 10 = .ok (.invokevirtual 61, 3) := by decide +kernel
theorem twd_br_strongBefore_13 : decode prog_2_method_7_code 13 = .ok (.iconst (-1), 1) := by decide +kernel
theorem twd_br_strongBefore_14 : decode prog_2_method_7_code 14 = .ok (.if_icmp .eq 9, 3) := by decide +kernel
theorem twd_br_strongBefore_17 : decode prog_2_method_7_code 17 = .ok (.aload_n 1, 1) := by decide +kernel
theorem twd_br_strongBefore_18 : decode prog_2_method_7_code 18 = .ok (.iload_n 3, 1) := by decide +kernel
theorem twd_br_strongBefore_19 : decode prog_2_method_7_code 19 = .ok (.invokevirtual 61, 3) := by decide +kernel
theorem twd_br_strongBefore_22 : decode prog_2_method_7_code 22 = .ok (.ireturn, 1) := by decide +kernel
theorem twd_br_strongBefore_23 : decode prog_2_method_7_code 23 = .ok (.iinc 3 (-1), 3) := by decide +kernel
theorem twd_br_strongBefore_26 : decode prog_2_method_7_code 26 = .ok (.goto (-22), 3) := by decide +kernel
theorem twd_br_strongBefore_29 : decode prog_2_method_7_code 29 = .ok (.aload_n 1, 1) := by decide +kernel
theorem twd_br_strongBefore_30 : decode prog_2_method_7_code 30 = .ok (.getfield 65, 3) := by decide +kernel
theorem twd_br_strongBefore_33 : decode prog_2_method_7_code 33 = .ok (.ireturn, 1) := by decide +kernel
theorem twk_br_strongBefore : tw_dc twy_br_strongBefore 2 := ⟨by decide +kernel, by decide +kernel, by decide +kernel⟩
theorem twd_br_give_0 : decode prog_2_method_8_code 0 = .ok (.aload_n 1, 1) := by decide +kernel
theorem twd_br_give_1 : decode prog_2_method_8_code 1 = .ok (.getfield 40, 3) := by decide +kernel
theorem twd_br_give_4 : decode prog_2_method_8_code 4 = .ok (.iload_n 2, 1) := by decide +kernel
theorem twd_br_give_5 : decode prog_2_method_8_code 5 = .ok (.iload_n 3, 1) := by decide +kernel
theorem twd_br_give_6 : decode prog_2_method_8_code 6 = .ok (.iastore, 1) := by decide +kernel
theorem twd_br_give_7 : decode prog_2_method_8_code 7 = .ok (.iload_n 2, 1) := by decide +kernel
theorem twd_br_give_8 : decode prog_2_method_8_code 8 = .ok (.iconst 1, 1) := by decide +kernel
theorem twd_br_give_9 : decode prog_2_method_8_code 9 = .ok (.iadd, 1) := by decide +kernel
theorem twd_br_give_10 : decode prog_2_method_8_code 10 = .ok (.istore 4, 2) := by decide +kernel
theorem twd_br_give_12 : decode prog_2_method_8_code 12 = .ok (.iload 4, 2) := by decide +kernel
theorem twd_br_give_14 : decode prog_2_method_8_code 14 = .ok (.aload_n 1, 1) := by decide +kernel
theorem twd_br_give_15 : decode prog_2_method_8_code 15 = .ok (.getfield 22, 3) := by decide +kernel
theorem twd_br_give_18 : decode prog_2_method_8_code 18 = .ok (.if_icmp .ge 27, 3) := by decide +kernel
theorem twd_br_give_21 : decode prog_2_method_8_code 21 = .ok (.aload_n 1, 1) := by decide +kernel
theorem twd_br_give_22 : decode prog_2_method_8_code 22 = .ok (.getfield 68, 3) := by decide +kernel
theorem twd_br_give_25 : decode prog_2_method_8_code 25 = .ok (.iload 4, 2) := by decide +kernel
theorem twd_br_give_27 : decode prog_2_method_8_code 27 = .ok (.baload, 1) := by decide +kernel
theorem twd_br_give_28 : decode prog_2_method_8_code 28 = .ok (.ifCond .eq 17, 3) := by decide +kernel
theorem twd_br_give_31 : decode prog_2_method_8_code 31 = .ok (.aload_n 1, 1) := by decide +kernel
theorem twd_br_give_32 : decode prog_2_method_8_code 32 = .ok (.getfield 40, 3) := by decide +kernel
theorem twd_br_give_35 : decode prog_2_method_8_code 35 = .ok (.iload 4, 2) := by decide +kernel
theorem twd_br_give_37 : decode prog_2_method_8_code 37 = .ok (.iload_n 3, 1) := by decide +kernel
theorem twd_br_give_38 : decode prog_2_method_8_code 38 = .ok (.iastore, 1) := by decide +kernel
theorem twd_br_give_39 : decode prog_2_method_8_code 39 = .ok (.iinc 4 1, 3) := by decide +kernel
theorem twd_br_give_42 : decode prog_2_method_8_code 42 = .ok (.goto (-30), 3) := by decide +kernel
theorem twd_br_give_45 : decode prog_2_method_8_code 45 = .ok (.return_, 1) := by decide +kernel
theorem twk_br_give : tw_dc twy_br_give 3 := ⟨by decide +kernel, by decide +kernel, by decide +kernel⟩
theorem twd_br_settle_0 : decode prog_2_method_5_code 0 = .ok (.aload_n 0, 1) := by decide +kernel
theorem twd_br_settle_1 : decode prog_2_method_5_code 1 = .ok (.aload_n 1, 1) := by decide +kernel
theorem twd_br_settle_2 : decode prog_2_method_5_code 2 = .ok (.iload_n 2, 1) := by decide +kernel
theorem twd_br_settle_3 : decode prog_2_method_5_code 3 = .ok (.iload_n 3, 1) := by decide +kernel
theorem twd_br_settle_4 : decode prog_2_method_5_code 4 = .ok (.invokevirtual 47, 3) := by decide +kernel
theorem twd_br_settle_7 : decode prog_2_method_5_code 7 = .ok (.istore 4, 2) := by decide +kernel
theorem twd_br_settle_9 : decode prog_2_method_5_code 9 = .ok (.iload 4, 2) := by decide +kernel
theorem twd_br_settle_11 : decode prog_2_method_5_code 11 = .ok (.iconst (-1), 1) := by decide +kernel
theorem twd_br_settle_12 : decode prog_2_method_5_code 12 = .ok (.if_icmp .ne 4, 3) := by decide +kernel
theorem twd_br_settle_15 : decode prog_2_method_5_code 15 = .ok (.return_, 1) := by decide +kernel
theorem twd_br_settle_16 : decode prog_2_method_5_code 16 = .ok (.iload 4, 2) := by decide +kernel
theorem twd_br_settle_18 : decode prog_2_method_5_code 18 = .ok (.aload_n 1, 1) := by decide +kernel
theorem twd_br_settle_19 : decode prog_2_method_5_code 19 = .ok (.getfield 51, 3) := by decide +kernel
theorem twd_br_settle_22 : decode prog_2_method_5_code 22 = .ok (.if_icmp .eq 20, 3) := by decide +kernel
theorem twd_br_settle_25 : decode prog_2_method_5_code 25 = .ok (.aload_n 0, 1) := by decide +kernel
theorem twd_br_settle_26 : decode prog_2_method_5_code 26 = .ok (.aload_n 1, 1) := by decide +kernel
theorem twd_br_settle_27 : decode prog_2_method_5_code 27 = .ok (.iload_n 2, 1) := by decide +kernel
theorem twd_br_settle_28 : decode prog_2_method_5_code 28 = .ok (.invokevirtual 54, 3) := by decide +kernel
theorem twd_br_settle_31 : decode prog_2_method_5_code 31 = .ok (.iload 4, 2) := by decide +kernel
theorem twd_br_settle_33 : decode prog_2_method_5_code 33 = .ok (.if_icmp .eq 9, 3) := by decide +kernel
theorem twd_br_settle_36 : decode prog_2_method_5_code 36 = .ok (.aload_n 1, 1) := by decide +kernel
theorem twd_br_settle_37 : decode prog_2_method_5_code 37 = .ok (.getfield 51, 3) := by decide +kernel
theorem twd_br_settle_40 : decode prog_2_method_5_code 40 = .ok (.istore 4, 2) := by decide +kernel
theorem twd_br_settle_42 : decode prog_2_method_5_code 42 = .ok (.aload_n 0, 1) := by decide +kernel
theorem twd_br_settle_43 : decode prog_2_method_5_code 43 = .ok (.aload_n 1, 1) := by decide +kernel
theorem twd_br_settle_44 : decode prog_2_method_5_code 44 = .ok (.iload_n 2, 1) := by decide +kernel
theorem twd_br_settle_45 : decode prog_2_method_5_code 45 = .ok (.iload 4, 2) := by decide +kernel
theorem twd_br_settle_47 : decode prog_2_method_5_code 47 = .ok (.invokevirtual 58, 3) := by decide +kernel
theorem twd_br_settle_50 : decode prog_2_method_5_code 50 = .ok (.aload_n 0, 1) := by decide +kernel
theorem twd_br_settle_51 : decode prog_2_method_5_code 51 = .ok (.aload_n 1, 1) := by decide +kernel
theorem twd_br_settle_52 : decode prog_2_method_5_code 52 = .ok (.iload_n 3, 1) := by decide +kernel
theorem twd_br_settle_53 : decode prog_2_method_5_code 53 = .ok (.iload 4, 2) := by decide +kernel
theorem twd_br_settle_55 : decode prog_2_method_5_code 55 = .ok (.invokevirtual 58, 3) := by decide +kernel
theorem twd_br_settle_58 : decode prog_2_method_5_code 58 = .ok (.return_, 1) := by decide +kernel
theorem twk_br_settle : tw_dc twy_br_settle 3 := ⟨by decide +kernel, by decide +kernel, by decide +kernel⟩
theorem twd_br_resolve_0 : decode prog_2_method_2_code 0 = .ok (.aload_n 0, 1) := by decide +kernel
theorem twd_br_resolve_1 : decode prog_2_method_2_code 1 = .ok (.aload_n 1, 1) := by decide +kernel
theorem twd_br_resolve_2 : decode prog_2_method_2_code 2 = .ok (.aload_n 2, 1) := by decide +kernel
theorem twd_br_resolve_3 : decode prog_2_method_2_code 3 = .ok (.invokevirtual 18, 3) := by decide +kernel
theorem twd_br_resolve_6 : decode prog_2_method_2_code 6 = .ok (.iconst 0, 1) := by decide +kernel
theorem twd_br_resolve_7 : decode prog_2_method_2_code 7 = .ok (.istore_n 3, 1) := by decide +kernel
theorem twd_br_resolve_8 : decode prog_2_method_2_code 8 = .ok (.iload_n 3, 1) := by decide +kernel
theorem twd_br_resolve_9 : decode prog_2_method_2_code 9 = .ok (.aload_n 2, 1) := by decide +kernel
theorem twd_br_resolve_10 : decode prog_2_method_2_code 10 = .ok (.getfield 22, 3) := by decide +kernel
theorem twd_br_resolve_13 : decode prog_2_method_2_code 13 = .ok (.if_icmp .ge 31, 3) := by decide +kernel
theorem twd_br_resolve_16 : decode prog_2_method_2_code 16 = .ok (.aload_n 0, 1) := by decide +kernel
theorem twd_br_resolve_17 : decode prog_2_method_2_code 17 = .ok (.getfield 9, 3) := by decide +kernel
theorem twd_br_resolve_20 : decode prog_2_method_2_code 20 = .ok (.iload_n 3, 1) := by decide +kernel
theorem twd_br_resolve_21 : decode prog_2_method_2_code 21 = .ok (.iaload, 1) := by decide +kernel
theorem twd_br_resolve_22 : decode prog_2_method_2_code 22 = .ok (.iload_n 3, 1) := by decide +kernel
theorem twd_br_resolve_23 : decode prog_2_method_2_code 23 = .ok (.if_icmp .le 15, 3) := by decide +kernel
theorem twd_br_resolve_26 : decode prog_2_method_2_code 26 = .ok (.aload_n 0, 1) := by decide +kernel
theorem twd_br_resolve_27 : decode prog_2_method_2_code 27 = .ok (.aload_n 2, 1) := by decide +kernel
theorem twd_br_resolve_28 : decode prog_2_method_2_code 28 = .ok (.iload_n 3, 1) := by decide +kernel
theorem twd_br_resolve_29 : decode prog_2_method_2_code 29 = .ok (.aload_n 0, 1) := by decide +kernel
theorem twd_br_resolve_30 : decode prog_2_method_2_code 30 = .ok (.getfield 9, 3) := by decide +kernel
theorem twd_br_resolve_33 : decode prog_2_method_2_code 33 = .ok (.iload_n 3, 1) := by decide +kernel
theorem twd_br_resolve_34 : decode prog_2_method_2_code 34 = .ok (.iaload, 1) := by decide +kernel
theorem twd_br_resolve_35 : decode prog_2_method_2_code 35 = .ok (.invokevirtual 28, 3) := by decide +kernel
theorem twd_br_resolve_38 : decode prog_2_method_2_code 38 = .ok (.iinc 3 1, 3) := by decide +kernel
theorem twd_br_resolve_41 : decode prog_2_method_2_code 41 = .ok (.goto (-33), 3) := by decide +kernel
theorem twd_br_resolve_44 : decode prog_2_method_2_code 44 = .ok (.return_, 1) := by decide +kernel
theorem twk_br_resolve : tw_dc twy_br_resolve 2 := ⟨by decide +kernel, by decide +kernel, by decide +kernel⟩
theorem twd_se_fillTypes_0 : decode prog_8_method_11_code 0 = .ok (.iload_n 1, 1) := by decide +kernel
theorem twd_se_fillTypes_1 : decode prog_8_method_11_code 1 = .ok (.istore 4, 2) := by decide +kernel
theorem twd_se_fillTypes_3 : decode prog_8_method_11_code 3 = .ok (.iload 4, 2) := by decide +kernel
theorem twd_se_fillTypes_5 : decode prog_8_method_11_code 5 = .ok (.iload_n 2, 1) := by decide +kernel
theorem twd_se_fillTypes_6 : decode prog_8_method_11_code 6 = .ok (.if_icmp .ge 17, 3) := by decide +kernel
theorem twd_se_fillTypes_9 : decode prog_8_method_11_code 9 = .ok (.aload_n 0, 1) := by decide +kernel
theorem twd_se_fillTypes_10 : decode prog_8_method_11_code 10 = .ok (.getfield 15, 3) := by decide +kernel
theorem twd_se_fillTypes_13 : decode prog_8_method_11_code 13 = .ok (.iload 4, 2) := by decide +kernel
theorem twd_se_fillTypes_15 : decode prog_8_method_11_code 15 = .ok (.iload_n 3, 1) := by decide +kernel
theorem twd_se_fillTypes_16 : decode prog_8_method_11_code 16 = .ok (.iastore, 1) := by decide +kernel
theorem twd_se_fillTypes_17 : decode prog_8_method_11_code 17 = .ok (.iinc 4 1, 3) := by decide +kernel
theorem twd_se_fillTypes_20 : decode prog_8_method_11_code 20 = .ok (.goto (-17), 3) := by decide +kernel
theorem twd_se_fillTypes_23 : decode prog_8_method_11_code 23 = .ok (.return_, 1) := by decide +kernel
theorem twk_se_fillTypes : tw_dc twy_se_fillTypes 3 := ⟨by decide +kernel, by decide +kernel, by decide +kernel⟩
theorem twd_se_resolveNeutral_0 : decode prog_8_method_10_code 0 = .ok (.iconst 0, 1) := by decide +kernel
theorem twd_se_resolveNeutral_1 : decode prog_8_method_10_code 1 = .ok (.istore_n 1, 1) := by decide +kernel
theorem twd_se_resolveNeutral_2 : decode prog_8_method_10_code 2 = .ok (.iconst 0, 1) := by decide +kernel
theorem twd_se_resolveNeutral_3 : decode prog_8_method_10_code 3 = .ok (.istore_n 2, 1) := by decide +kernel
theorem twd_se_resolveNeutral_4 : decode prog_8_method_10_code 4 = .ok (.iload_n 2, 1) := by decide +kernel
theorem twd_se_resolveNeutral_5 : decode prog_8_method_10_code 5 = .ok (.aload_n 0, 1) := by decide +kernel
theorem twd_se_resolveNeutral_6 : decode prog_8_method_10_code 6 = .ok (.getfield 22, 3) := by decide +kernel
theorem twd_se_resolveNeutral_9 : decode prog_8_method_10_code 9 = .ok (.if_icmp .gt 94, 3) := by decide +kernel
theorem twd_se_resolveNeutral_12 : decode prog_8_method_10_code 12 = .ok (.iload_n 2, 1) := by decide +kernel
theorem twd_se_resolveNeutral_13 : decode prog_8_method_10_code 13 = .ok (.aload_n 0, 1) := by decide +kernel
theorem twd_se_resolveNeutral_14 : decode prog_8_method_10_code 14 = .ok (.getfield 22, 3) := by decide +kernel
theorem twd_se_resolveNeutral_17 : decode prog_8_method_10_code 17 = .ok (.if_icmp .ge 15, 3) := by decide +kernel
theorem twd_se_resolveNeutral_20 : decode prog_8_method_10_code 20 = .ok (.aload_n 0, 1) := by decide +kernel
theorem twd_se_resolveNeutral_21 : decode prog_8_method_10_code 21 = .ok (.iload_n 2, 1) := by decide +kernel
theorem twd_se_resolveNeutral_22 : decode prog_8_method_10_code 22 = .ok (.invokevirtual 57, 3) := by decide +kernel
theorem twd_se_resolveNeutral_25 : decode prog_8_method_10_code 25 = .ok (.iconst (-1), 1) := by decide +kernel
theorem twd_se_resolveNeutral_26 : decode prog_8_method_10_code 26 = .ok (.if_icmp .ne 6, 3) := by decide +kernel
theorem twd_se_resolveNeutral_29 : decode prog_8_method_10_code 29 = .ok (.goto 68, 3) := by decide +kernel
theorem twd_se_resolveNeutral_32 : decode prog_8_method_10_code 32 = .ok (.iload_n 1, 1) := by decide +kernel
theorem twd_se_resolveNeutral_33 : decode prog_8_method_10_code 33 = .ok (.ifCond .ne 10, 3) := by decide +kernel
theorem twd_se_resolveNeutral_36 : decode prog_8_method_10_code 36 = .ok (.aload_n 0, 1) := by decide +kernel
theorem twd_se_resolveNeutral_37 : decode prog_8_method_10_code 37 = .ok (.getfield 29, 3) := by decide +kernel
theorem twd_se_resolveNeutral_40 : decode prog_8_method_10_code 40 = .ok (.goto 10, 3) := by decide +kernel
theorem twd_se_resolveNeutral_43 : decode prog_8_method_10_code 43 = .ok (.aload_n 0, 1) := by decide +kernel
theorem twd_se_resolveNeutral_44 : decode prog_8_method_10_code 44 = .ok (.iload_n 1, 1) := by decide +kernel
theorem twd_se_resolveNeutral_45 : decode prog_8_method_10_code 45 = .ok (.iconst 1, 1) := by decide +kernel
theorem twd_se_resolveNeutral_46 : decode prog_8_method_10_code 46 = .ok (.isub, 1) := by decide +kernel
theorem twd_se_resolveNeutral_47 : decode prog_8_method_10_code 47 = .ok (.invokevirtual 57, 3) := by decide +kernel
theorem twd_se_resolveNeutral_50 : decode prog_8_method_10_code 50 = .ok (.istore_n 3, 1) := by decide +kernel
theorem twd_se_resolveNeutral_51 : decode prog_8_method_10_code 51 = .ok (.iload_n 2, 1) := by decide +kernel
theorem twd_se_resolveNeutral_52 : decode prog_8_method_10_code 52 = .ok (.aload_n 0, 1) := by decide +kernel
theorem twd_se_resolveNeutral_53 : decode prog_8_method_10_code 53 = .ok (.getfield 22, 3) := by decide +kernel
theorem twd_se_resolveNeutral_56 : decode prog_8_method_10_code 56 = .ok (.if_icmp .ne 10, 3) := by decide +kernel
theorem twd_se_resolveNeutral_59 : decode prog_8_method_10_code 59 = .ok (.aload_n 0, 1) := by decide +kernel
theorem twd_se_resolveNeutral_60 : decode prog_8_method_10_code 60 = .ok (.getfield 32, 3) := by decide +kernel
theorem twd_se_resolveNeutral_63 : decode prog_8_method_10_code 63 = .ok (.goto 8, 3) := by decide +kernel
theorem twd_se_resolveNeutral_66 : decode prog_8_method_10_code 66 = .ok (.aload_n 0, 1) := by decide +kernel
theorem twd_se_resolveNeutral_67 : decode prog_8_method_10_code 67 = .ok (.iload_n 2, 1) := by decide +kernel
theorem twd_se_resolveNeutral_68 : decode prog_8_method_10_code 68 = .ok (.invokevirtual 57, 3) := by decide +kernel
theorem twd_se_resolveNeutral_71 : decode prog_8_method_10_code 71 = .ok (.istore 4, 2) := by decide +kernel
theorem twd_se_resolveNeutral_73 : decode prog_8_method_10_code 73 = .ok (.aload_n 0, 1) := by decide +kernel
theorem twd_se_resolveNeutral_74 : decode prog_8_method_10_code 74 = .ok (.iload_n 1, 1) := by decide +kernel
theorem twd_se_resolveNeutral_75 : decode prog_8_method_10_code 75 = .ok (.iload_n 2, 1) := by decide +kernel
theorem twd_se_resolveNeutral_76 : decode prog_8_method_10_code 76 = .ok (.iload_n 3, 1) := by decide +kernel
theorem twd_se_resolveNeutral_77 : decode prog_8_method_10_code 77 = .ok (.iload 4, 2) := by decide +kernel
theorem twd_se_resolveNeutral_79 : decode prog_8_method_10_code 79 = .ok (.if_icmp .ne 7, 3) := by decide +kernel
theorem twd_se_resolveNeutral_82 : decode prog_8_method_10_code 82 = .ok (.iload_n 3, 1) := by decide +kernel
theorem twd_se_resolveNeutral_83 : decode prog_8_method_10_code 83 = .ok (.goto 7, 3) := by decide +kernel
theorem twd_se_resolveNeutral_86 : decode prog_8_method_10_code 86 = .ok (.aload_n 0, 1) := by decide +kernel
theorem twd_se_resolveNeutral_87 : decode prog_8_method_10_code 87 = .ok (.getfield 26, 3) := by decide +kernel
theorem twd_se_resolveNeutral_90 : decode prog_8_method_10_code 90 = .ok (.invokevirtual 61, 3) := by decide +kernel
theorem twd_se_resolveNeutral_93 : decode prog_8_method_10_code 93 = .ok (.iload_n 2, 1) := by decide +kernel
theorem twd_se_resolveNeutral_94 : decode prog_8_method_10_code 94 = .ok (.iconst 1, 1) := by decide +kernel
theorem twd_se_resolveNeutral_95 : decode prog_8_method_10_code 95 = .ok (.iadd, 1) := by decide +kernel
theorem twd_se_resolveNeutral_96 : decode prog_8_method_10_code 96 = .ok (.istore_n 1, 1) := by decide +kernel
theorem twd_se_resolveNeutral_97 : decode prog_8_method_10_code 97 = .ok (.iinc 2 1, 3) := by decide +kernel
theorem twd_se_resolveNeutral_100 : decode prog_8_method_10_code 100 = .ok (.goto (-96), 3) := by decide +kernel
theorem twd_se_resolveNeutral_103 : decode prog_8_method_10_code 103 = .ok (.return_, 1) := by decide +kernel
theorem twk_se_resolveNeutral : tw_dc twy_se_resolveNeutral 0 := ⟨by decide +kernel, by decide +kernel, by decide +kernel⟩
theorem twd_le_keep_0 : decode prog_5_method_11_code 0 = .ok (.iconst 0, 1) := by decide +kernel
theorem twd_le_keep_1 : decode prog_5_method_11_code 1 = .ok (.istore_n 1, 1) := by decide +kernel
theorem twd_le_keep_2 : decode prog_5_method_11_code 2 = .ok (.iload_n 1, 1) := by decide +kernel
theorem twd_le_keep_3 : decode prog_5_method_11_code 3 = .ok (.aload_n 0, 1) := by decide +kernel
theorem twd_le_keep_4 : decode prog_5_method_11_code 4 = .ok (.getfield 42, 3) := by decide +kernel
theorem twd_le_keep_7 : decode prog_5_method_11_code 7 = .ok (.getfield 114, 3) := by decide +kernel
theorem twd_le_keep_10 : decode prog_5_method_11_code 10 = .ok (.if_icmp .ge 70, 3) := by decide +kernel
theorem twd_le_keep_13 : decode prog_5_method_11_code 13 = .ok (.aload_n 0, 1) := by decide +kernel
theorem twd_le_keep_14 : decode prog_5_method_11_code 14 = .ok (.getfield 42, 3) := by decide +kernel
theorem twd_le_keep_17 : decode prog_5_method_11_code 17 = .ok (.getfield 128, 3) := by decide +kernel
theorem twd_le_keep_20 : decode prog_5_method_11_code 20 = .ok (.iload_n 1, 1) := by decide +kernel
theorem twd_le_keep_21 : decode prog_5_method_11_code 21 = .ok (.iaload, 1) := by decide +kernel
theorem twd_le_keep_22 : decode prog_5_method_11_code 22 = .ok (.istore_n 2, 1) := by decide +kernel
theorem twd_le_keep_23 : decode prog_5_method_11_code 23 = .ok (.aload_n 0, 1) := by decide +kernel
theorem twd_le_keep_24 : decode prog_5_method_11_code 24 = .ok (.getfield 18, 3) := by decide +kernel
theorem twd_le_keep_27 : decode prog_5_method_11_code 27 = .ok (.iload_n 2, 1) := by decide +kernel
theorem twd_le_keep_28 : decode prog_5_method_11_code 28 = .ok (.aload_n 0, 1) := by decide +kernel
theorem twd_le_keep_29 : decode prog_5_method_11_code 29 = .ok (.getfield 42, 3) := by decide +kernel
theorem twd_le_keep_32 : decode prog_5_method_11_code 32 = .ok (.getfield 156, 3) := by decide +kernel
theorem twd_le_keep_35 : decode prog_5_method_11_code 35 = .ok (.iload_n 1, 1) := by decide +kernel
theorem twd_le_keep_36 : decode prog_5_method_11_code 36 = .ok (.iaload, 1) := by decide +kernel
theorem twd_le_keep_37 : decode prog_5_method_11_code 37 = .ok (.iastore, 1) := by decide +kernel
theorem twd_le_keep_38 : decode prog_5_method_11_code 38 = .ok (.aload_n 0, 1) := by decide +kernel
theorem twd_le_keep_39 : decode prog_5_method_11_code 39 = .ok (.getfield 49, 3) := by decide +kernel
theorem twd_le_keep_42 : decode prog_5_method_11_code 42 = .ok (.getfield 157, 3) := by decide +kernel
theorem twd_le_keep_45 : decode prog_5_method_11_code 45 = .ok (.iload_n 1, 1) := by decide +kernel
theorem twd_le_keep_46 : decode prog_5_method_11_code 46 = .ok (.iaload, 1) := by decide +kernel
theorem twd_le_keep_47 : decode prog_5_method_11_code 47 = .ok (.iconst (-1), 1) := by decide +kernel
theorem twd_le_keep_48 : decode prog_5_method_11_code 48 = .ok (.if_icmp .eq 26, 3) := by decide +kernel
theorem twd_le_keep_51 : decode prog_5_method_11_code 51 = .ok (.aload_n 0, 1) := by decide +kernel
theorem twd_le_keep_52 : decode prog_5_method_11_code 52 = .ok (.getfield 22, 3) := by decide +kernel
theorem twd_le_keep_55 : decode prog_5_method_11_code 55 = .ok (.iload_n 2, 1) := by decide +kernel
theorem twd_le_keep_56 : decode prog_5_method_11_code 56 = .ok (.aload_n 0, 1) := by decide +kernel
theorem twd_le_keep_57 : decode prog_5_method_11_code 57 = .ok (.getfield 42, 3) := by decide +kernel
theorem twd_le_keep_60 : decode prog_5_method_11_code 60 = .ok (.getfield 128, 3) := by decide +kernel
theorem twd_le_keep_63 : decode prog_5_method_11_code 63 = .ok (.aload_n 0, 1) := by decide +kernel
theorem twd_le_keep_64 : decode prog_5_method_11_code 64 = .ok (.getfield 49, 3) := by decide +kernel
theorem twd_le_keep_67 : decode prog_5_method_11_code 67 = .ok (.getfield 157, 3) := by decide +kernel
theorem twd_le_keep_70 : decode prog_5_method_11_code 70 = .ok (.iload_n 1, 1) := by decide +kernel
theorem twd_le_keep_71 : decode prog_5_method_11_code 71 = .ok (.iaload, 1) := by decide +kernel
theorem twd_le_keep_72 : decode prog_5_method_11_code 72 = .ok (.iaload, 1) := by decide +kernel
theorem twd_le_keep_73 : decode prog_5_method_11_code 73 = .ok (.iastore, 1) := by decide +kernel
theorem twd_le_keep_74 : decode prog_5_method_11_code 74 = .ok (.iinc 1 1, 3) := by decide +kernel
theorem twd_le_keep_77 : decode prog_5_method_11_code 77 = .ok (.goto (-75), 3) := by decide +kernel
theorem twd_le_keep_80 : decode prog_5_method_11_code 80 = .ok (.return_, 1) := by decide +kernel
theorem twk_le_keep : tw_dc twy_le_keep 0 := ⟨by decide +kernel, by decide +kernel, by decide +kernel⟩
theorem twd_le_resolveSequences_0 : decode prog_5_method_3_code 0 = .ok (.iconst 0, 1) := by decide +kernel
theorem twd_le_resolveSequences_1 : decode prog_5_method_3_code 1 = .ok (.istore_n 2, 1) := by decide +kernel
theorem twd_le_resolveSequences_2 : decode prog_5_method_3_code 2 = .ok (.iload_n 2, 1) := by decide +kernel
theorem twd_le_resolveSequences_3 : decode prog_5_method_3_code 3 = .ok (.aload_n 1, 1) := by decide +kernel
theorem twd_le_resolveSequences_4 : decode prog_5_method_3_code 4 = .ok (.getfield 62, 3) := by decide +kernel
theorem twd_le_resolveSequences_7 : decode prog_5_method_3_code 7 = .ok (.if_icmp .ge 23, 3) := by decide +kernel
theorem twd_le_resolveSequences_10 : decode prog_5_method_3_code 10 = .ok (.aload_n 0, 1) := by decide +kernel
theorem twd_le_resolveSequences_11 : decode prog_5_method_3_code 11 = .ok (.getfield 18, 3) := by decide +kernel
theorem twd_le_resolveSequences_14 : decode prog_5_method_3_code 14 = .ok (.iload_n 2, 1) := by decide +kernel
theorem twd_le_resolveSequences_15 : decode prog_5_method_3_code 15 = .ok (.iconst (-1), 1) := by decide +kernel
theorem twd_le_resolveSequences_16 : decode prog_5_method_3_code 16 = .ok (.iastore, 1) := by decide +kernel
theorem twd_le_resolveSequences_17 : decode prog_5_method_3_code 17 = .ok (.aload_n 0, 1) := by decide +kernel
theorem twd_le_resolveSequences_18 : decode prog_5_method_3_code 18 = .ok (.getfield 22, 3) := by decide +kernel
theorem twd_le_resolveSequences_21 : decode prog_5_method_3_code 21 = .ok (.iload_n 2, 1) := by decide +kernel
theorem twd_le_resolveSequences_22 : decode prog_5_method_3_code 22 = .ok (.iconst (-1), 1) := by decide +kernel
theorem twd_le_resolveSequences_23 : decode prog_5_method_3_code 23 = .ok (.iastore, 1) := by decide +kernel
theorem twd_le_resolveSequences_24 : decode prog_5_method_3_code 24 = .ok (.iinc 2 1, 3) := by decide +kernel
theorem twd_le_resolveSequences_27 : decode prog_5_method_3_code 27 = .ok (.goto (-25), 3) := by decide +kernel
theorem twd_le_resolveSequences_30 : decode prog_5_method_3_code 30 = .ok (.iconst 0, 1) := by decide +kernel
theorem twd_le_resolveSequences_31 : decode prog_5_method_3_code 31 = .ok (.istore_n 2, 1) := by decide +kernel
theorem twd_le_resolveSequences_32 : decode prog_5_method_3_code 32 = .ok (.iload_n 2, 1) := by decide +kernel
theorem twd_le_resolveSequences_33 : decode prog_5_method_3_code 33 = .ok (.aload_n 1, 1) := by decide +kernel
theorem twd_le_resolveSequences_34 : decode prog_5_method_3_code 34 = .ok (.getfield 62, 3) := by decide +kernel
theorem twd_le_resolveSequences_37 : decode prog_5_method_3_code 37 = .ok (.if_icmp .ge 59, 3) := by decide +kernel
theorem twd_le_resolveSequences_40 : decode prog_5_method_3_code 40 = .ok (.aload_n 0, 1) := by decide +kernel
theorem twd_le_resolveSequences_41 : decode prog_5_method_3_code 41 = .ok (.aload_n 1, 1) := by decide +kernel
theorem twd_le_resolveSequences_42 : decode prog_5_method_3_code 42 = .ok (.iload_n 2, 1) := by decide +kernel
theorem twd_le_resolveSequences_43 : decode prog_5_method_3_code 43 = .ok (.invokevirtual 73, 3) := by decide +kernel
theorem twd_le_resolveSequences_46 : decode prog_5_method_3_code 46 = .ok (.ifCond .eq 44, 3) := by decide +kernel
theorem twd_le_resolveSequences_49 : decode prog_5_method_3_code 49 = .ok (.aload_n 0, 1) := by decide +kernel
theorem twd_le_resolveSequences_50 : decode prog_5_method_3_code 50 = .ok (.aload_n 1, 1) := by decide +kernel
theorem twd_le_resolveSequences_51 : decode prog_5_method_3_code 51 = .ok (.iload_n 2, 1) := by decide +kernel
theorem twd_le_resolveSequences_52 : decode prog_5_method_3_code 52 = .ok (.invokevirtual 77, 3) := by decide +kernel
theorem twd_le_resolveSequences_55 : decode prog_5_method_3_code 55 = .ok (.aload_n 0, 1) := by decide +kernel
theorem twd_le_resolveSequences_56 : decode prog_5_method_3_code 56 = .ok (.aload_n 1, 1) := by decide +kernel
theorem twd_le_resolveSequences_57 : decode prog_5_method_3_code 57 = .ok (.invokevirtual 81, 3) := by decide +kernel
theorem twd_le_resolveSequences_60 : decode prog_5_method_3_code 60 = .ok (.aload_n 0, 1) := by decide +kernel
theorem twd_le_resolveSequences_61 : decode prog_5_method_3_code 61 = .ok (.getfield 42, 3) := by decide +kernel
theorem twd_le_resolveSequences_64 : decode prog_5_method_3_code 64 = .ok (.invokevirtual 84, 3) := by decide +kernel
theorem twd_le_resolveSequences_67 : decode prog_5_method_3_code 67 = .ok (.aload_n 0, 1) := by decide +kernel
theorem twd_le_resolveSequences_68 : decode prog_5_method_3_code 68 = .ok (.getfield 49, 3) := by decide +kernel
theorem twd_le_resolveSequences_71 : decode prog_5_method_3_code 71 = .ok (.aload_n 1, 1) := by decide +kernel
theorem twd_le_resolveSequences_72 : decode prog_5_method_3_code 72 = .ok (.aload_n 0, 1) := by decide +kernel
theorem twd_le_resolveSequences_73 : decode prog_5_method_3_code 73 = .ok (.getfield 42, 3) := by decide +kernel
theorem twd_le_resolveSequences_76 : decode prog_5_method_3_code 76 = .ok (.invokevirtual 87, 3) := by decide +kernel
theorem twd_le_resolveSequences_79 : decode prog_5_method_3_code 79 = .ok (.aload_n 0, 1) := by decide +kernel
theorem twd_le_resolveSequences_80 : decode prog_5_method_3_code 80 = .ok (.getfield 42, 3) := by decide +kernel
theorem twd_le_resolveSequences_83 : decode prog_5_method_3_code 83 = .ok (.invokevirtual 91, 3) := by decide +kernel
theorem twd_le_resolveSequences_86 : decode prog_5_method_3_code 86 = .ok (.aload_n 0, 1) := by decide +kernel
theorem twd_le_resolveSequences_87 : decode prog_5_method_3_code 87 = .ok (.invokevirtual 94, 3) := by decide +kernel
theorem twd_le_resolveSequences_90 : decode prog_5_method_3_code 90 = .ok (.iinc 2 1, 3) := by decide +kernel
theorem twd_le_resolveSequences_93 : decode prog_5_method_3_code 93 = .ok (.goto (-61), 3) := by decide +kernel
theorem twd_le_resolveSequences_96 : decode prog_5_method_3_code 96 = .ok (.return_, 1) := by decide +kernel
theorem twk_le_resolveSequences : tw_dc twy_le_resolveSequences 1 := ⟨by decide +kernel, by decide +kernel, by decide +kernel⟩
theorem twd_le_raised_0 : decode prog_5_method_13_code 0 = .ok (.iload_n 0, 1) := by decide +kernel
theorem twd_le_raised_1 : decode prog_5_method_13_code 1 = .ok (.invokestatic 161, 3) := by decide +kernel
theorem twd_le_raised_4 : decode prog_5_method_13_code 4 = .ok (.ifCond .eq 16, 3) := by decide +kernel
theorem twd_le_raised_7 : decode prog_5_method_13_code 7 = .ok (.iload_n 1, 1) := by decide +kernel
theorem twd_le_raised_8 : decode prog_5_method_13_code 8 = .ok (.iconst 1, 1) := by decide +kernel
theorem twd_le_raised_9 : decode prog_5_method_13_code 9 = .ok (.if_icmp .ne 7, 3) := by decide +kernel
theorem twd_le_raised_12 : decode prog_5_method_13_code 12 = .ok (.iload_n 0, 1) := by decide +kernel
theorem twd_le_raised_13 : decode prog_5_method_13_code 13 = .ok (.goto 6, 3) := by decide +kernel
theorem twd_le_raised_16 : decode prog_5_method_13_code 16 = .ok (.iload_n 0, 1) := by decide +kernel
theorem twd_le_raised_17 : decode prog_5_method_13_code 17 = .ok (.iconst 1, 1) := by decide +kernel
theorem twd_le_raised_18 : decode prog_5_method_13_code 18 = .ok (.iadd, 1) := by decide +kernel
theorem twd_le_raised_19 : decode prog_5_method_13_code 19 = .ok (.ireturn, 1) := by decide +kernel
theorem twd_le_raised_20 : decode prog_5_method_13_code 20 = .ok (.iload_n 1, 1) := by decide +kernel
theorem twd_le_raised_21 : decode prog_5_method_13_code 21 = .ok (.ifCond .ne 5, 3) := by decide +kernel
theorem twd_le_raised_24 : decode prog_5_method_13_code 24 = .ok (.iload_n 0, 1) := by decide +kernel
theorem twd_le_raised_25 : decode prog_5_method_13_code 25 = .ok (.ireturn, 1) := by decide +kernel
theorem twd_le_raised_26 : decode prog_5_method_13_code 26 = .ok (.iload_n 1, 1) := by decide +kernel
theorem twd_le_raised_27 : decode prog_5_method_13_code 27 = .ok (.iconst 1, 1) := by decide +kernel
theorem twd_le_raised_28 : decode prog_5_method_13_code 28 = .ok (.if_icmp .ne 9, 3) := by decide +kernel
theorem twd_le_raised_31 : decode prog_5_method_13_code 31 = .ok (.iload_n 0, 1) := by decide +kernel
theorem twd_le_raised_32 : decode prog_5_method_13_code 32 = .ok (.iconst 1, 1) := by decide +kernel
theorem twd_le_raised_33 : decode prog_5_method_13_code 33 = .ok (.iadd, 1) := by decide +kernel
theorem twd_le_raised_34 : decode prog_5_method_13_code 34 = .ok (.goto 6, 3) := by decide +kernel
theorem twd_le_raised_37 : decode prog_5_method_13_code 37 = .ok (.iload_n 0, 1) := by decide +kernel
theorem twd_le_raised_38 : decode prog_5_method_13_code 38 = .ok (.iconst 2, 1) := by decide +kernel
theorem twd_le_raised_39 : decode prog_5_method_13_code 39 = .ok (.iadd, 1) := by decide +kernel
theorem twd_le_raised_40 : decode prog_5_method_13_code 40 = .ok (.ireturn, 1) := by decide +kernel
theorem twk_le_raised : tw_dc twy_le_raised 2 := ⟨by decide +kernel, by decide +kernel, by decide +kernel⟩
theorem twd_le_raise_0 : decode prog_5_method_12_code 0 = .ok (.aload_n 0, 1) := by decide +kernel
theorem twd_le_raise_1 : decode prog_5_method_12_code 1 = .ok (.getfield 28, 3) := by decide +kernel
theorem twd_le_raise_4 : decode prog_5_method_12_code 4 = .ok (.istore_n 2, 1) := by decide +kernel
theorem twd_le_raise_5 : decode prog_5_method_12_code 5 = .ok (.iconst 0, 1) := by decide +kernel
theorem twd_le_raise_6 : decode prog_5_method_12_code 6 = .ok (.istore_n 3, 1) := by decide +kernel
theorem twd_le_raise_7 : decode prog_5_method_12_code 7 = .ok (.iload_n 3, 1) := by decide +kernel
theorem twd_le_raise_8 : decode prog_5_method_12_code 8 = .ok (.aload_n 1, 1) := by decide +kernel
theorem twd_le_raise_9 : decode prog_5_method_12_code 9 = .ok (.getfield 62, 3) := by decide +kernel
theorem twd_le_raise_12 : decode prog_5_method_12_code 12 = .ok (.if_icmp .ge 47, 3) := by decide +kernel
theorem twd_le_raise_15 : decode prog_5_method_12_code 15 = .ok (.aload_n 1, 1) := by decide +kernel
theorem twd_le_raise_16 : decode prog_5_method_12_code 16 = .ok (.getfield 97, 3) := by decide +kernel
theorem twd_le_raise_19 : decode prog_5_method_12_code 19 = .ok (.iload_n 3, 1) := by decide +kernel
theorem twd_le_raise_20 : decode prog_5_method_12_code 20 = .ok (.iaload, 1) := by decide +kernel
theorem twd_le_raise_21 : decode prog_5_method_12_code 21 = .ok (.invokestatic 100, 3) := by decide +kernel
theorem twd_le_raise_24 : decode prog_5_method_12_code 24 = .ok (.ifCond .ne 22, 3) := by decide +kernel
theorem twd_le_raise_27 : decode prog_5_method_12_code 27 = .ok (.aload_n 0, 1) := by decide +kernel
theorem twd_le_raise_28 : decode prog_5_method_12_code 28 = .ok (.getfield 35, 3) := by decide +kernel
theorem twd_le_raise_31 : decode prog_5_method_12_code 31 = .ok (.getfield 111, 3) := by decide +kernel
theorem twd_le_raise_34 : decode prog_5_method_12_code 34 = .ok (.iload_n 3, 1) := by decide +kernel
theorem twd_le_raise_35 : decode prog_5_method_12_code 35 = .ok (.iaload, 1) := by decide +kernel
theorem twd_le_raise_36 : decode prog_5_method_12_code 36 = .ok (.aload_n 0, 1) := by decide +kernel
theorem twd_le_raise_37 : decode prog_5_method_12_code 37 = .ok (.getfield 18, 3) := by decide +kernel
theorem twd_le_raise_40 : decode prog_5_method_12_code 40 = .ok (.iload_n 3, 1) := by decide +kernel
theorem twd_le_raise_41 : decode prog_5_method_12_code 41 = .ok (.iaload, 1) := by decide +kernel
theorem twd_le_raise_42 : decode prog_5_method_12_code 42 = .ok (.invokestatic 158, 3) := by decide +kernel
theorem twd_le_raise_45 : decode prog_5_method_12_code 45 = .ok (.istore_n 2, 1) := by decide +kernel
theorem twd_le_raise_46 : decode prog_5_method_12_code 46 = .ok (.aload_n 0, 1) := by decide +kernel
theorem twd_le_raise_47 : decode prog_5_method_12_code 47 = .ok (.getfield 25, 3) := by decide +kernel
theorem twd_le_raise_50 : decode prog_5_method_12_code 50 = .ok (.iload_n 3, 1) := by decide +kernel
theorem twd_le_raise_51 : decode prog_5_method_12_code 51 = .ok (.iload_n 2, 1) := by decide +kernel
theorem twd_le_raise_52 : decode prog_5_method_12_code 52 = .ok (.iastore, 1) := by decide +kernel
theorem twd_le_raise_53 : decode prog_5_method_12_code 53 = .ok (.iinc 3 1, 3) := by decide +kernel
theorem twd_le_raise_56 : decode prog_5_method_12_code 56 = .ok (.goto (-49), 3) := by decide +kernel
theorem twd_le_raise_59 : decode prog_5_method_12_code 59 = .ok (.return_, 1) := by decide +kernel
theorem twk_le_raise : tw_dc twy_le_raise 1 := ⟨by decide +kernel, by decide +kernel, by decide +kernel⟩
theorem twd_fi_findGroups_0 : decode prog_4_method_4_code 0 = .ok (.iconst 0, 1) := by decide +kernel
theorem twd_fi_findGroups_1 : decode prog_4_method_4_code 1 = .ok (.istore_n 2, 1) := by decide +kernel
theorem twd_fi_findGroups_2 : decode prog_4_method_4_code 2 = .ok (.iconst 0, 1) := by decide +kernel
theorem twd_fi_findGroups_3 : decode prog_4_method_4_code 3 = .ok (.istore_n 3, 1) := by decide +kernel
theorem twd_fi_findGroups_4 : decode prog_4_method_4_code 4 = .ok (.iload_n 3, 1) := by decide +kernel
theorem twd_fi_findGroups_5 : decode prog_4_method_4_code 5 = .ok (.aload_n 1, 1) := by decide +kernel
theorem twd_fi_findGroups_6 : decode prog_4_method_4_code 6 = .ok (.getfield 36, 3) := by decide +kernel
theorem twd_fi_findGroups_9 : decode prog_4_method_4_code 9 = .ok (.if_icmp .ge 34, 3) := by decide +kernel
theorem twd_fi_findGroups_12 : decode prog_4_method_4_code 12 = .ok (.aload_n 1, 1) := by decide +kernel
theorem twd_fi_findGroups_13 : decode prog_4_method_4_code 13 = .ok (.getfield 48, 3) := by decide +kernel
theorem twd_fi_findGroups_16 : decode prog_4_method_4_code 16 = .ok (.iload_n 3, 1) := by decide +kernel
theorem twd_fi_findGroups_17 : decode prog_4_method_4_code 17 = .ok (.iaload, 1) := by decide +kernel
theorem twd_fi_findGroups_18 : decode prog_4_method_4_code 18 = .ok (.bipush 8, 2) := by decide +kernel
theorem twd_fi_findGroups_20 : decode prog_4_method_4_code 20 = .ok (.if_icmp .eq 10, 3) := by decide +kernel
theorem twd_fi_findGroups_23 : decode prog_4_method_4_code 23 = .ok (.aload_n 1, 1) := by decide +kernel
theorem twd_fi_findGroups_24 : decode prog_4_method_4_code 24 = .ok (.getfield 51, 3) := by decide +kernel
theorem twd_fi_findGroups_27 : decode prog_4_method_4_code 27 = .ok (.iload_n 3, 1) := by decide +kernel
theorem twd_fi_findGroups_28 : decode prog_4_method_4_code 28 = .ok (.iaload, 1) := by decide +kernel
theorem twd_fi_findGroups_29 : decode prog_4_method_4_code 29 = .ok (.istore_n 2, 1) := by decide +kernel
theorem twd_fi_findGroups_30 : decode prog_4_method_4_code 30 = .ok (.aload_n 0, 1) := by decide +kernel
theorem twd_fi_findGroups_31 : decode prog_4_method_4_code 31 = .ok (.getfield 26, 3) := by decide +kernel
theorem twd_fi_findGroups_34 : decode prog_4_method_4_code 34 = .ok (.iload_n 3, 1) := by decide +kernel
theorem twd_fi_findGroups_35 : decode prog_4_method_4_code 35 = .ok (.iload_n 2, 1) := by decide +kernel
theorem twd_fi_findGroups_36 : decode prog_4_method_4_code 36 = .ok (.iastore, 1) := by decide +kernel
theorem twd_fi_findGroups_37 : decode prog_4_method_4_code 37 = .ok (.iinc 3 1, 3) := by decide +kernel
theorem twd_fi_findGroups_40 : decode prog_4_method_4_code 40 = .ok (.goto (-36), 3) := by decide +kernel
theorem twd_fi_findGroups_43 : decode prog_4_method_4_code 43 = .ok (.return_, 1) := by decide +kernel
theorem twk_fi_findGroups : tw_dc twy_fi_findGroups 1 := ⟨by decide +kernel, by decide +kernel, by decide +kernel⟩
theorem twd_fi_parts_0 : decode prog_4_method_6_code 0 = .ok (.iload_n 2, 1) := by decide +kernel
theorem twd_fi_parts_1 : decode prog_4_method_6_code 1 = .ok (.iconst 1, 1) := by decide +kernel
theorem twd_fi_parts_2 : decode prog_4_method_6_code 2 = .ok (.if_icmp .eq 13, 3) := by decide +kernel
theorem twd_fi_parts_5 : decode prog_4_method_6_code 5 = .ok (.iload_n 2, 1) := by decide +kernel
theorem twd_fi_parts_6 : decode prog_4_method_6_code 6 = .ok (.iconst 3, 1) := by decide +kernel
theorem twd_fi_parts_7 : decode prog_4_method_6_code 7 = .ok (.if_icmp .eq 8, 3) := by decide +kernel
theorem twd_fi_parts_10 : decode prog_4_method_6_code 10 = .ok (.iload_n 0, 1) := by decide +kernel
theorem twd_fi_parts_11 : decode prog_4_method_6_code 11 = .ok (.iconst 2, 1) := by decide +kernel
theorem twd_fi_parts_12 : decode prog_4_method_6_code 12 = .ok (.if_icmp .ne 5, 3) := by decide +kernel
theorem twd_fi_parts_15 : decode prog_4_method_6_code 15 = .ok (.iconst 0, 1) := by decide +kernel
theorem twd_fi_parts_16 : decode prog_4_method_6_code 16 = .ok (.ireturn, 1) := by decide +kernel
theorem twd_fi_parts_17 : decode prog_4_method_6_code 17 = .ok (.iload_n 1, 1) := by decide +kernel
theorem twd_fi_parts_18 : decode prog_4_method_6_code 18 = .ok (.iconst 1, 1) := by decide +kernel
theorem twd_fi_parts_19 : decode prog_4_method_6_code 19 = .ok (.if_icmp .ne 5, 3) := by decide +kernel
theorem twd_fi_parts_22 : decode prog_4_method_6_code 22 = .ok (.iconst 1, 1) := by decide +kernel
theorem twd_fi_parts_23 : decode prog_4_method_6_code 23 = .ok (.ireturn, 1) := by decide +kernel
theorem twd_fi_parts_24 : decode prog_4_method_6_code 24 = .ok (.iload_n 1, 1) := by decide +kernel
theorem twd_fi_parts_25 : decode prog_4_method_6_code 25 = .ok (.iconst 4, 1) := by decide +kernel
theorem twd_fi_parts_26 : decode prog_4_method_6_code 26 = .ok (.if_icmp .eq 14, 3) := by decide +kernel
theorem twd_fi_parts_29 : decode prog_4_method_6_code 29 = .ok (.iload_n 2, 1) := by decide +kernel
theorem twd_fi_parts_30 : decode prog_4_method_6_code 30 = .ok (.iconst 4, 1) := by decide +kernel
theorem twd_fi_parts_31 : decode prog_4_method_6_code 31 = .ok (.if_icmp .eq 9, 3) := by decide +kernel
theorem twd_fi_parts_34 : decode prog_4_method_6_code 34 = .ok (.iload_n 2, 1) := by decide +kernel
theorem twd_fi_parts_35 : decode prog_4_method_6_code 35 = .ok (.bipush 6, 2) := by decide +kernel
theorem twd_fi_parts_37 : decode prog_4_method_6_code 37 = .ok (.if_icmp .ne 5, 3) := by decide +kernel
theorem twd_fi_parts_40 : decode prog_4_method_6_code 40 = .ok (.iconst 0, 1) := by decide +kernel
theorem twd_fi_parts_41 : decode prog_4_method_6_code 41 = .ok (.ireturn, 1) := by decide +kernel
theorem twd_fi_parts_42 : decode prog_4_method_6_code 42 = .ok (.iload_n 1, 1) := by decide +kernel
theorem twd_fi_parts_43 : decode prog_4_method_6_code 43 = .ok (.bipush 6, 2) := by decide +kernel
theorem twd_fi_parts_45 : decode prog_4_method_6_code 45 = .ok (.if_icmp .eq 13, 3) := by decide +kernel
theorem twd_fi_parts_48 : decode prog_4_method_6_code 48 = .ok (.iload_n 1, 1) := by decide +kernel
theorem twd_fi_parts_49 : decode prog_4_method_6_code 49 = .ok (.iconst 5, 1) := by decide +kernel
theorem twd_fi_parts_50 : decode prog_4_method_6_code 50 = .ok (.if_icmp .eq 8, 3) := by decide +kernel
theorem twd_fi_parts_53 : decode prog_4_method_6_code 53 = .ok (.iload_n 2, 1) := by decide +kernel
theorem twd_fi_parts_54 : decode prog_4_method_6_code 54 = .ok (.iconst 5, 1) := by decide +kernel
theorem twd_fi_parts_55 : decode prog_4_method_6_code 55 = .ok (.if_icmp .ne 7, 3) := by decide +kernel
theorem twd_fi_parts_58 : decode prog_4_method_6_code 58 = .ok (.iconst 1, 1) := by decide +kernel
theorem twd_fi_parts_59 : decode prog_4_method_6_code 59 = .ok (.goto 4, 3) := by decide +kernel
theorem twd_fi_parts_62 : decode prog_4_method_6_code 62 = .ok (.iconst 0, 1) := by decide +kernel
theorem twd_fi_parts_63 : decode prog_4_method_6_code 63 = .ok (.ireturn, 1) := by decide +kernel
theorem twk_fi_parts : tw_dc twy_fi_parts 3 := ⟨by decide +kernel, by decide +kernel, by decide +kernel⟩
theorem twd_fi_findBreaks_0 : decode prog_4_method_5_code 0 = .ok (.iconst (-1), 1) := by decide +kernel
theorem twd_fi_findBreaks_1 : decode prog_4_method_5_code 1 = .ok (.istore_n 2, 1) := by decide +kernel
theorem twd_fi_findBreaks_2 : decode prog_4_method_5_code 2 = .ok (.iconst 0, 1) := by decide +kernel
theorem twd_fi_findBreaks_3 : decode prog_4_method_5_code 3 = .ok (.istore_n 3, 1) := by decide +kernel
theorem twd_fi_findBreaks_4 : decode prog_4_method_5_code 4 = .ok (.iload_n 3, 1) := by decide +kernel
theorem twd_fi_findBreaks_5 : decode prog_4_method_5_code 5 = .ok (.aload_n 1, 1) := by decide +kernel
theorem twd_fi_findBreaks_6 : decode prog_4_method_5_code 6 = .ok (.getfield 36, 3) := by decide +kernel
theorem twd_fi_findBreaks_9 : decode prog_4_method_5_code 9 = .ok (.if_icmp .ge 85, 3) := by decide +kernel
theorem twd_fi_findBreaks_12 : decode prog_4_method_5_code 12 = .ok (.iload_n 3, 1) := by decide +kernel
theorem twd_fi_findBreaks_13 : decode prog_4_method_5_code 13 = .ok (.ifCond .le 18, 3) := by decide +kernel
theorem twd_fi_findBreaks_16 : decode prog_4_method_5_code 16 = .ok (.aload_n 1, 1) := by decide +kernel
theorem twd_fi_findBreaks_17 : decode prog_4_method_5_code 17 = .ok (.getfield 48, 3) := by decide +kernel
theorem twd_fi_findBreaks_20 : decode prog_4_method_5_code 20 = .ok (.iload_n 3, 1) := by decide +kernel
theorem twd_fi_findBreaks_21 : decode prog_4_method_5_code 21 = .ok (.iaload, 1) := by decide +kernel
theorem twd_fi_findBreaks_22 : decode prog_4_method_5_code 22 = .ok (.bipush 8, 2) := by decide +kernel
theorem twd_fi_findBreaks_24 : decode prog_4_method_5_code 24 = .ok (.if_icmp .eq 7, 3) := by decide +kernel
theorem twd_fi_findBreaks_27 : decode prog_4_method_5_code 27 = .ok (.iconst 1, 1) := by decide +kernel
theorem twd_fi_findBreaks_28 : decode prog_4_method_5_code 28 = .ok (.goto 4, 3) := by decide +kernel
theorem twd_fi_findBreaks_31 : decode prog_4_method_5_code 31 = .ok (.iconst 0, 1) := by decide +kernel
theorem twd_fi_findBreaks_32 : decode prog_4_method_5_code 32 = .ok (.istore 4, 2) := by decide +kernel
theorem twd_fi_findBreaks_34 : decode prog_4_method_5_code 34 = .ok (.aload_n 0, 1) := by decide +kernel
theorem twd_fi_findBreaks_35 : decode prog_4_method_5_code 35 = .ok (.getfield 9, 3) := by decide +kernel
theorem twd_fi_findBreaks_38 : decode prog_4_method_5_code 38 = .ok (.iload_n 3, 1) := by decide +kernel
theorem twd_fi_findBreaks_39 : decode prog_4_method_5_code 39 = .ok (.iload 4, 2) := by decide +kernel
theorem twd_fi_findBreaks_41 : decode prog_4_method_5_code 41 = .ok (.ifCond .eq 28, 3) := by decide +kernel
theorem twd_fi_findBreaks_44 : decode prog_4_method_5_code 44 = .ok (.iload_n 2, 1) := by decide +kernel
theorem twd_fi_findBreaks_45 : decode prog_4_method_5_code 45 = .ok (.aload_n 0, 1) := by decide +kernel
theorem twd_fi_findBreaks_46 : decode prog_4_method_5_code 46 = .ok (.getfield 26, 3) := by decide +kernel
theorem twd_fi_findBreaks_49 : decode prog_4_method_5_code 49 = .ok (.iload_n 3, 1) := by decide +kernel
theorem twd_fi_findBreaks_50 : decode prog_4_method_5_code 50 = .ok (.iconst 1, 1) := by decide +kernel
theorem twd_fi_findBreaks_51 : decode prog_4_method_5_code 51 = .ok (.isub, 1) := by decide +kernel
theorem twd_fi_findBreaks_52 : decode prog_4_method_5_code 52 = .ok (.iaload, 1) := by decide +kernel
theorem twd_fi_findBreaks_53 : decode prog_4_method_5_code 53 = .ok (.aload_n 0, 1) := by decide +kernel
theorem twd_fi_findBreaks_54 : decode prog_4_method_5_code 54 = .ok (.getfield 26, 3) := by decide +kernel
theorem twd_fi_findBreaks_57 : decode prog_4_method_5_code 57 = .ok (.iload_n 3, 1) := by decide +kernel
theorem twd_fi_findBreaks_58 : decode prog_4_method_5_code 58 = .ok (.iaload, 1) := by decide +kernel
theorem twd_fi_findBreaks_59 : decode prog_4_method_5_code 59 = .ok (.invokestatic 52, 3) := by decide +kernel
theorem twd_fi_findBreaks_62 : decode prog_4_method_5_code 62 = .ok (.ifCond .eq 7, 3) := by decide +kernel
theorem twd_fi_findBreaks_65 : decode prog_4_method_5_code 65 = .ok (.iconst 1, 1) := by decide +kernel
theorem twd_fi_findBreaks_66 : decode prog_4_method_5_code 66 = .ok (.goto 4, 3) := by decide +kernel
theorem twd_fi_findBreaks_69 : decode prog_4_method_5_code 69 = .ok (.iconst 0, 1) := by decide +kernel
theorem twd_fi_findBreaks_70 : decode prog_4_method_5_code 70 = .ok (.bastore, 1) := by decide +kernel
theorem twd_fi_findBreaks_71 : decode prog_4_method_5_code 71 = .ok (.aload_n 0, 1) := by decide +kernel
theorem twd_fi_findBreaks_72 : decode prog_4_method_5_code 72 = .ok (.getfield 26, 3) := by decide +kernel
theorem twd_fi_findBreaks_75 : decode prog_4_method_5_code 75 = .ok (.iload_n 3, 1) := by decide +kernel
theorem twd_fi_findBreaks_76 : decode prog_4_method_5_code 76 = .ok (.iaload, 1) := by decide +kernel
theorem twd_fi_findBreaks_77 : decode prog_4_method_5_code 77 = .ok (.iconst 1, 1) := by decide +kernel
theorem twd_fi_findBreaks_78 : decode prog_4_method_5_code 78 = .ok (.if_icmp .eq 10, 3) := by decide +kernel
theorem twd_fi_findBreaks_81 : decode prog_4_method_5_code 81 = .ok (.aload_n 0, 1) := by decide +kernel
theorem twd_fi_findBreaks_82 : decode prog_4_method_5_code 82 = .ok (.getfield 26, 3) := by decide +kernel
theorem twd_fi_findBreaks_85 : decode prog_4_method_5_code 85 = .ok (.iload_n 3, 1) := by decide +kernel
theorem twd_fi_findBreaks_86 : decode prog_4_method_5_code 86 = .ok (.iaload, 1) := by decide +kernel
theorem twd_fi_findBreaks_87 : decode prog_4_method_5_code 87 = .ok (.istore_n 2, 1) := by decide +kernel
theorem twd_fi_findBreaks_88 : decode prog_4_method_5_code 88 = .ok (.iinc 3 1, 3) := by decide +kernel
theorem twd_fi_findBreaks_91 : decode prog_4_method_5_code 91 = .ok (.goto (-87), 3) := by decide +kernel
theorem twd_fi_findBreaks_94 : decode prog_4_method_5_code 94 = .ok (.return_, 1) := by decide +kernel
theorem twk_fi_findBreaks : tw_dc twy_fi_findBreaks 1 := ⟨by decide +kernel, by decide +kernel, by decide +kernel⟩
theorem twd_fi_endOfLine_0 : decode prog_4_method_7_code 0 = .ok (.iconst (-1), 1) := by decide +kernel
theorem twd_fi_endOfLine_1 : decode prog_4_method_7_code 1 = .ok (.istore 4, 2) := by decide +kernel
theorem twd_fi_endOfLine_3 : decode prog_4_method_7_code 3 = .ok (.iconst (-1), 1) := by decide +kernel
theorem twd_fi_endOfLine_4 : decode prog_4_method_7_code 4 = .ok (.istore 5, 2) := by decide +kernel
theorem twd_fi_endOfLine_6 : decode prog_4_method_7_code 6 = .ok (.iconst 0, 1) := by decide +kernel
theorem twd_fi_endOfLine_7 : decode prog_4_method_7_code 7 = .ok (.istore 6, 2) := by decide +kernel
theorem twd_fi_endOfLine_9 : decode prog_4_method_7_code 9 = .ok (.iconst 0, 1) := by decide +kernel
theorem twd_fi_endOfLine_10 : decode prog_4_method_7_code 10 = .ok (.istore 7, 2) := by decide +kernel
theorem twd_fi_endOfLine_12 : decode prog_4_method_7_code 12 = .ok (.iload_n 2, 1) := by decide +kernel
theorem twd_fi_endOfLine_13 : decode prog_4_method_7_code 13 = .ok (.iconst 1, 1) := by decide +kernel
theorem twd_fi_endOfLine_14 : decode prog_4_method_7_code 14 = .ok (.iadd, 1) := by decide +kernel
theorem twd_fi_endOfLine_15 : decode prog_4_method_7_code 15 = .ok (.istore 8, 2) := by decide +kernel
theorem twd_fi_endOfLine_17 : decode prog_4_method_7_code 17 = .ok (.iload 8, 2) := by decide +kernel
theorem twd_fi_endOfLine_19 : decode prog_4_method_7_code 19 = .ok (.aload_n 1, 1) := by decide +kernel
theorem twd_fi_endOfLine_20 : decode prog_4_method_7_code 20 = .ok (.getfield 36, 3) := by decide +kernel
theorem twd_fi_endOfLine_23 : decode prog_4_method_7_code 23 = .ok (.if_icmp .gt 142, 3) := by decide +kernel
theorem twd_fi_endOfLine_26 : decode prog_4_method_7_code 26 = .ok (.iload 6, 2) := by decide +kernel
theorem twd_fi_endOfLine_28 : decode prog_4_method_7_code 28 = .ok (.aload_n 1, 1) := by decide +kernel
theorem twd_fi_endOfLine_29 : decode prog_4_method_7_code 29 = .ok (.getfield 56, 3) := by decide +kernel
theorem twd_fi_endOfLine_32 : decode prog_4_method_7_code 32 = .ok (.iload 8, 2) := by decide +kernel
theorem twd_fi_endOfLine_34 : decode prog_4_method_7_code 34 = .ok (.iconst 1, 1) := by decide +kernel
theorem twd_fi_endOfLine_35 : decode prog_4_method_7_code 35 = .ok (.isub, 1) := by decide +kernel
theorem twd_fi_endOfLine_36 : decode prog_4_method_7_code 36 = .ok (.iaload, 1) := by decide +kernel
theorem twd_fi_endOfLine_37 : decode prog_4_method_7_code 37 = .ok (.iadd, 1) := by decide +kernel
theorem twd_fi_endOfLine_38 : decode prog_4_method_7_code 38 = .ok (.istore 6, 2) := by decide +kernel
theorem twd_fi_endOfLine_40 : decode prog_4_method_7_code 40 = .ok (.aload_n 0, 1) := by decide +kernel
theorem twd_fi_endOfLine_41 : decode prog_4_method_7_code 41 = .ok (.getfield 26, 3) := by decide +kernel
theorem twd_fi_endOfLine_44 : decode prog_4_method_7_code 44 = .ok (.iload 8, 2) := by decide +kernel
theorem twd_fi_endOfLine_46 : decode prog_4_method_7_code 46 = .ok (.iconst 1, 1) := by decide +kernel
theorem twd_fi_endOfLine_47 : decode prog_4_method_7_code 47 = .ok (.isub, 1) := by decide +kernel
theorem twd_fi_endOfLine_48 : decode prog_4_method_7_code 48 = .ok (.iaload, 1) := by decide +kernel
theorem twd_fi_endOfLine_49 : decode prog_4_method_7_code 49 = .ok (.iconst 1, 1) := by decide +kernel
theorem twd_fi_endOfLine_50 : decode prog_4_method_7_code 50 = .ok (.if_icmp .ne 8, 3) := by decide +kernel
theorem twd_fi_endOfLine_53 : decode prog_4_method_7_code 53 = .ok (.iload 7, 2) := by decide +kernel
theorem twd_fi_endOfLine_55 : decode prog_4_method_7_code 55 = .ok (.goto 5, 3) := by decide +kernel
theorem twd_fi_endOfLine_58 : decode prog_4_method_7_code 58 = .ok (.iload 6, 2) := by decide +kernel
theorem twd_fi_endOfLine_60 : decode prog_4_method_7_code 60 = .ok (.istore 7, 2) := by decide +kernel
theorem twd_fi_endOfLine_62 : decode prog_4_method_7_code 62 = .ok (.iload 8, 2) := by decide +kernel
theorem twd_fi_endOfLine_64 : decode prog_4_method_7_code 64 = .ok (.aload_n 1, 1) := by decide +kernel
theorem twd_fi_endOfLine_65 : decode prog_4_method_7_code 65 = .ok (.getfield 36, 3) := by decide +kernel
theorem twd_fi_endOfLine_68 : decode prog_4_method_7_code 68 = .ok (.if_icmp .ne 7, 3) := by decide +kernel
theorem twd_fi_endOfLine_71 : decode prog_4_method_7_code 71 = .ok (.iconst 1, 1) := by decide +kernel
theorem twd_fi_endOfLine_72 : decode prog_4_method_7_code 72 = .ok (.goto 4, 3) := by decide +kernel
theorem twd_fi_endOfLine_75 : decode prog_4_method_7_code 75 = .ok (.iconst 0, 1) := by decide +kernel
theorem twd_fi_endOfLine_76 : decode prog_4_method_7_code 76 = .ok (.istore 9, 2) := by decide +kernel
theorem twd_fi_endOfLine_78 : decode prog_4_method_7_code 78 = .ok (.iload 9, 2) := by decide +kernel
theorem twd_fi_endOfLine_80 : decode prog_4_method_7_code 80 = .ok (.ifCond .ne 15, 3) := by decide +kernel
theorem twd_fi_endOfLine_83 : decode prog_4_method_7_code 83 = .ok (.aload_n 1, 1) := by decide +kernel
theorem twd_fi_endOfLine_84 : decode prog_4_method_7_code 84 = .ok (.getfield 48, 3) := by decide +kernel
theorem twd_fi_endOfLine_87 : decode prog_4_method_7_code 87 = .ok (.iload 8, 2) := by decide +kernel
theorem twd_fi_endOfLine_89 : decode prog_4_method_7_code 89 = .ok (.iaload, 1) := by decide +kernel
theorem twd_fi_endOfLine_90 : decode prog_4_method_7_code 90 = .ok (.bipush 8, 2) := by decide +kernel
theorem twd_fi_endOfLine_92 : decode prog_4_method_7_code 92 = .ok (.if_icmp .eq 7, 3) := by decide +kernel
theorem twd_fi_endOfLine_95 : decode prog_4_method_7_code 95 = .ok (.iconst 1, 1) := by decide +kernel
theorem twd_fi_endOfLine_96 : decode prog_4_method_7_code 96 = .ok (.goto 4, 3) := by decide +kernel
theorem twd_fi_endOfLine_99 : decode prog_4_method_7_code 99 = .ok (.iconst 0, 1) := by decide +kernel
theorem twd_fi_endOfLine_100 : decode prog_4_method_7_code 100 = .ok (.istore 10, 2) := by decide +kernel
theorem twd_fi_endOfLine_102 : decode prog_4_method_7_code 102 = .ok (.iload 7, 2) := by decide +kernel
theorem twd_fi_endOfLine_104 : decode prog_4_method_7_code 104 = .ok (.iload_n 3, 1) := by decide +kernel
theorem twd_fi_endOfLine_105 : decode prog_4_method_7_code 105 = .ok (.if_icmp .gt 7, 3) := by decide +kernel
theorem twd_fi_endOfLine_108 : decode prog_4_method_7_code 108 = .ok (.iconst 1, 1) := by decide +kernel
theorem twd_fi_endOfLine_109 : decode prog_4_method_7_code 109 = .ok (.goto 4, 3) := by decide +kernel
theorem twd_fi_endOfLine_112 : decode prog_4_method_7_code 112 = .ok (.iconst 0, 1) := by decide +kernel
theorem twd_fi_endOfLine_113 : decode prog_4_method_7_code 113 = .ok (.istore 11, 2) := by decide +kernel
theorem twd_fi_endOfLine_115 : decode prog_4_method_7_code 115 = .ok (.iload 10, 2) := by decide +kernel
theorem twd_fi_endOfLine_117 : decode prog_4_method_7_code 117 = .ok (.ifCond .eq 18, 3) := by decide +kernel
theorem twd_fi_endOfLine_120 : decode prog_4_method_7_code 120 = .ok (.iload 11, 2) := by decide +kernel
theorem twd_fi_endOfLine_122 : decode prog_4_method_7_code 122 = .ok (.ifCond .ne 9, 3) := by decide +kernel
theorem twd_fi_endOfLine_125 : decode prog_4_method_7_code 125 = .ok (.iload 5, 2) := by decide +kernel
theorem twd_fi_endOfLine_127 : decode prog_4_method_7_code 127 = .ok (.iconst (-1), 1) := by decide +kernel
theorem twd_fi_endOfLine_128 : decode prog_4_method_7_code 128 = .ok (.if_icmp .ne 7, 3) := by decide +kernel
theorem twd_fi_endOfLine_131 : decode prog_4_method_7_code 131 = .ok (.iload 8, 2) := by decide +kernel
theorem twd_fi_endOfLine_133 : decode prog_4_method_7_code 133 = .ok (.istore 5, 2) := by decide +kernel
theorem twd_fi_endOfLine_135 : decode prog_4_method_7_code 135 = .ok (.iload 11, 2) := by decide +kernel
theorem twd_fi_endOfLine_137 : decode prog_4_method_7_code 137 = .ok (.ifCond .eq 22, 3) := by decide +kernel
theorem twd_fi_endOfLine_140 : decode prog_4_method_7_code 140 = .ok (.iload 9, 2) := by decide +kernel
theorem twd_fi_endOfLine_142 : decode prog_4_method_7_code 142 = .ok (.ifCond .ne 13, 3) := by decide +kernel
theorem twd_fi_endOfLine_145 : decode prog_4_method_7_code 145 = .ok (.aload_n 0, 1) := by decide +kernel
theorem twd_fi_endOfLine_146 : decode prog_4_method_7_code 146 = .ok (.getfield 9, 3) := by decide +kernel
theorem twd_fi_endOfLine_149 : decode prog_4_method_7_code 149 = .ok (.iload 8, 2) := by decide +kernel
theorem twd_fi_endOfLine_151 : decode prog_4_method_7_code 151 = .ok (.baload, 1) := by decide +kernel
theorem twd_fi_endOfLine_152 : decode prog_4_method_7_code 152 = .ok (.ifCond .eq 7, 3) := by decide +kernel
theorem twd_fi_endOfLine_155 : decode prog_4_method_7_code 155 = .ok (.iload 8, 2) := by decide +kernel
theorem twd_fi_endOfLine_157 : decode prog_4_method_7_code 157 = .ok (.istore 4, 2) := by decide +kernel
theorem twd_fi_endOfLine_159 : decode prog_4_method_7_code 159 = .ok (.iinc 8 1, 3) := by decide +kernel
theorem twd_fi_endOfLine_162 : decode prog_4_method_7_code 162 = .ok (.goto (-145), 3) := by decide +kernel
theorem twd_fi_endOfLine_165 : decode prog_4_method_7_code 165 = .ok (.iload 4, 2) := by decide +kernel
theorem twd_fi_endOfLine_167 : decode prog_4_method_7_code 167 = .ok (.iconst (-1), 1) := by decide +kernel
theorem twd_fi_endOfLine_168 : decode prog_4_method_7_code 168 = .ok (.if_icmp .ne 8, 3) := by decide +kernel
theorem twd_fi_endOfLine_171 : decode prog_4_method_7_code 171 = .ok (.iload 5, 2) := by decide +kernel
theorem twd_fi_endOfLine_173 : decode prog_4_method_7_code 173 = .ok (.goto 5, 3) := by decide +kernel
theorem twd_fi_endOfLine_176 : decode prog_4_method_7_code 176 = .ok (.iload 4, 2) := by decide +kernel
theorem twd_fi_endOfLine_178 : decode prog_4_method_7_code 178 = .ok (.ireturn, 1) := by decide +kernel
theorem twk_fi_endOfLine : tw_dc twy_fi_endOfLine 3 := ⟨by decide +kernel, by decide +kernel, by decide +kernel⟩
theorem twd_fi_extentOf_0 : decode prog_4_method_8_code 0 = .ok (.iconst 0, 1) := by decide +kernel
theorem twd_fi_extentOf_1 : decode prog_4_method_8_code 1 = .ok (.istore 4, 2) := by decide +kernel
theorem twd_fi_extentOf_3 : decode prog_4_method_8_code 3 = .ok (.iconst 0, 1) := by decide +kernel
theorem twd_fi_extentOf_4 : decode prog_4_method_8_code 4 = .ok (.istore 5, 2) := by decide +kernel
theorem twd_fi_extentOf_6 : decode prog_4_method_8_code 6 = .ok (.iload_n 2, 1) := by decide +kernel
theorem twd_fi_extentOf_7 : decode prog_4_method_8_code 7 = .ok (.istore 6, 2) := by decide +kernel
theorem twd_fi_extentOf_9 : decode prog_4_method_8_code 9 = .ok (.iload 6, 2) := by decide +kernel
theorem twd_fi_extentOf_11 : decode prog_4_method_8_code 11 = .ok (.iload_n 3, 1) := by decide +kernel
theorem twd_fi_extentOf_12 : decode prog_4_method_8_code 12 = .ok (.if_icmp .ge 41, 3) := by decide +kernel
theorem twd_fi_extentOf_15 : decode prog_4_method_8_code 15 = .ok (.iload 4, 2) := by decide +kernel
theorem twd_fi_extentOf_17 : decode prog_4_method_8_code 17 = .ok (.aload_n 1, 1) := by decide +kernel
theorem twd_fi_extentOf_18 : decode prog_4_method_8_code 18 = .ok (.getfield 56, 3) := by decide +kernel
theorem twd_fi_extentOf_21 : decode prog_4_method_8_code 21 = .ok (.iload 6, 2) := by decide +kernel
theorem twd_fi_extentOf_23 : decode prog_4_method_8_code 23 = .ok (.iaload, 1) := by decide +kernel
theorem twd_fi_extentOf_24 : decode prog_4_method_8_code 24 = .ok (.iadd, 1) := by decide +kernel
theorem twd_fi_extentOf_25 : decode prog_4_method_8_code 25 = .ok (.istore 4, 2) := by decide +kernel
theorem twd_fi_extentOf_27 : decode prog_4_method_8_code 27 = .ok (.aload_n 0, 1) := by decide +kernel
theorem twd_fi_extentOf_28 : decode prog_4_method_8_code 28 = .ok (.getfield 26, 3) := by decide +kernel
theorem twd_fi_extentOf_31 : decode prog_4_method_8_code 31 = .ok (.iload 6, 2) := by decide +kernel
theorem twd_fi_extentOf_33 : decode prog_4_method_8_code 33 = .ok (.iaload, 1) := by decide +kernel
theorem twd_fi_extentOf_34 : decode prog_4_method_8_code 34 = .ok (.iconst 1, 1) := by decide +kernel
theorem twd_fi_extentOf_35 : decode prog_4_method_8_code 35 = .ok (.if_icmp .ne 8, 3) := by decide +kernel
theorem twd_fi_extentOf_38 : decode prog_4_method_8_code 38 = .ok (.iload 5, 2) := by decide +kernel
theorem twd_fi_extentOf_40 : decode prog_4_method_8_code 40 = .ok (.goto 5, 3) := by decide +kernel
theorem twd_fi_extentOf_43 : decode prog_4_method_8_code 43 = .ok (.iload 4, 2) := by decide +kernel
theorem twd_fi_extentOf_45 : decode prog_4_method_8_code 45 = .ok (.istore 5, 2) := by decide +kernel
theorem twd_fi_extentOf_47 : decode prog_4_method_8_code 47 = .ok (.iinc 6 1, 3) := by decide +kernel
theorem twd_fi_extentOf_50 : decode prog_4_method_8_code 50 = .ok (.goto (-41), 3) := by decide +kernel
theorem twd_fi_extentOf_53 : decode prog_4_method_8_code 53 = .ok (.iload 5, 2) := by decide +kernel
theorem twd_fi_extentOf_55 : decode prog_4_method_8_code 55 = .ok (.ireturn, 1) := by decide +kernel
theorem twk_fi_extentOf : tw_dc twy_fi_extentOf 3 := ⟨by decide +kernel, by decide +kernel, by decide +kernel⟩
theorem twd_fi_fill_0 : decode prog_4_method_3_code 0 = .ok (.aload_n 0, 1) := by decide +kernel
theorem twd_fi_fill_1 : decode prog_4_method_3_code 1 = .ok (.aload_n 1, 1) := by decide +kernel
theorem twd_fi_fill_2 : decode prog_4_method_3_code 2 = .ok (.invokevirtual 29, 3) := by decide +kernel
theorem twd_fi_fill_5 : decode prog_4_method_3_code 5 = .ok (.aload_n 0, 1) := by decide +kernel
theorem twd_fi_fill_6 : decode prog_4_method_3_code 6 = .ok (.aload_n 1, 1) := by decide +kernel
theorem twd_fi_fill_7 : decode prog_4_method_3_code 7 = .ok (.invokevirtual 33, 3) := by decide +kernel
theorem twd_fi_fill_10 : decode prog_4_method_3_code 10 = .ok (.aload_n 0, 1) := by decide +kernel
theorem twd_fi_fill_11 : decode prog_4_method_3_code 11 = .ok (.iconst 0, 1) := by decide +kernel
theorem twd_fi_fill_12 : decode prog_4_method_3_code 12 = .ok (.putfield 22, 3) := by decide +kernel
theorem twd_fi_fill_15 : decode prog_4_method_3_code 15 = .ok (.aload_n 0, 1) := by decide +kernel
theorem twd_fi_fill_16 : decode prog_4_method_3_code 16 = .ok (.getfield 15, 3) := by decide +kernel
theorem twd_fi_fill_19 : decode prog_4_method_3_code 19 = .ok (.iconst 0, 1) := by decide +kernel
theorem twd_fi_fill_20 : decode prog_4_method_3_code 20 = .ok (.iconst 0, 1) := by decide +kernel
theorem twd_fi_fill_21 : decode prog_4_method_3_code 21 = .ok (.iastore, 1) := by decide +kernel
theorem twd_fi_fill_22 : decode prog_4_method_3_code 22 = .ok (.iconst 0, 1) := by decide +kernel
theorem twd_fi_fill_23 : decode prog_4_method_3_code 23 = .ok (.istore_n 3, 1) := by decide +kernel
theorem twd_fi_fill_24 : decode prog_4_method_3_code 24 = .ok (.iload_n 3, 1) := by decide +kernel
theorem twd_fi_fill_25 : decode prog_4_method_3_code 25 = .ok (.bipush 64, 2) := by decide +kernel
theorem twd_fi_fill_27 : decode prog_4_method_3_code 27 = .ok (.if_icmp .ge 72, 3) := by decide +kernel
theorem twd_fi_fill_30 : decode prog_4_method_3_code 30 = .ok (.aload_n 0, 1) := by decide +kernel
theorem twd_fi_fill_31 : decode prog_4_method_3_code 31 = .ok (.getfield 15, 3) := by decide +kernel
theorem twd_fi_fill_34 : decode prog_4_method_3_code 34 = .ok (.iload_n 3, 1) := by decide +kernel
theorem twd_fi_fill_35 : decode prog_4_method_3_code 35 = .ok (.iaload, 1) := by decide +kernel
theorem twd_fi_fill_36 : decode prog_4_method_3_code 36 = .ok (.aload_n 1, 1) := by decide +kernel
theorem twd_fi_fill_37 : decode prog_4_method_3_code 37 = .ok (.getfield 36, 3) := by decide +kernel
theorem twd_fi_fill_40 : decode prog_4_method_3_code 40 = .ok (.if_icmp .ge 59, 3) := by decide +kernel
theorem twd_fi_fill_43 : decode prog_4_method_3_code 43 = .ok (.aload_n 0, 1) := by decide +kernel
theorem twd_fi_fill_44 : decode prog_4_method_3_code 44 = .ok (.aload_n 1, 1) := by decide +kernel
theorem twd_fi_fill_45 : decode prog_4_method_3_code 45 = .ok (.aload_n 0, 1) := by decide +kernel
theorem twd_fi_fill_46 : decode prog_4_method_3_code 46 = .ok (.getfield 15, 3) := by decide +kernel
theorem twd_fi_fill_49 : decode prog_4_method_3_code 49 = .ok (.iload_n 3, 1) := by decide +kernel
theorem twd_fi_fill_50 : decode prog_4_method_3_code 50 = .ok (.iaload, 1) := by decide +kernel
theorem twd_fi_fill_51 : decode prog_4_method_3_code 51 = .ok (.iload_n 2, 1) := by decide +kernel
theorem twd_fi_fill_52 : decode prog_4_method_3_code 52 = .ok (.invokevirtual 41, 3) := by decide +kernel
theorem twd_fi_fill_55 : decode prog_4_method_3_code 55 = .ok (.istore 4, 2) := by decide +kernel
theorem twd_fi_fill_57 : decode prog_4_method_3_code 57 = .ok (.aload_n 0, 1) := by decide +kernel
theorem twd_fi_fill_58 : decode prog_4_method_3_code 58 = .ok (.getfield 19, 3) := by decide +kernel
theorem twd_fi_fill_61 : decode prog_4_method_3_code 61 = .ok (.iload_n 3, 1) := by decide +kernel
theorem twd_fi_fill_62 : decode prog_4_method_3_code 62 = .ok (.aload_n 0, 1) := by decide +kernel
theorem twd_fi_fill_63 : decode prog_4_method_3_code 63 = .ok (.aload_n 1, 1) := by decide +kernel
theorem twd_fi_fill_64 : decode prog_4_method_3_code 64 = .ok (.aload_n 0, 1) := by decide +kernel
theorem twd_fi_fill_65 : decode prog_4_method_3_code 65 = .ok (.getfield 15, 3) := by decide +kernel
theorem twd_fi_fill_68 : decode prog_4_method_3_code 68 = .ok (.iload_n 3, 1) := by decide +kernel
theorem twd_fi_fill_69 : decode prog_4_method_3_code 69 = .ok (.iaload, 1) := by decide +kernel
theorem twd_fi_fill_70 : decode prog_4_method_3_code 70 = .ok (.iload 4, 2) := by decide +kernel
theorem twd_fi_fill_72 : decode prog_4_method_3_code 72 = .ok (.invokevirtual 45, 3) := by decide +kernel
theorem twd_fi_fill_75 : decode prog_4_method_3_code 75 = .ok (.iastore, 1) := by decide +kernel
theorem twd_fi_fill_76 : decode prog_4_method_3_code 76 = .ok (.aload_n 0, 1) := by decide +kernel
theorem twd_fi_fill_77 : decode prog_4_method_3_code 77 = .ok (.getfield 15, 3) := by decide +kernel
theorem twd_fi_fill_80 : decode prog_4_method_3_code 80 = .ok (.iload_n 3, 1) := by decide +kernel
theorem twd_fi_fill_81 : decode prog_4_method_3_code 81 = .ok (.iconst 1, 1) := by decide +kernel
theorem twd_fi_fill_82 : decode prog_4_method_3_code 82 = .ok (.iadd, 1) := by decide +kernel
theorem twd_fi_fill_83 : decode prog_4_method_3_code 83 = .ok (.iload 4, 2) := by decide +kernel
theorem twd_fi_fill_85 : decode prog_4_method_3_code 85 = .ok (.iastore, 1) := by decide +kernel
theorem twd_fi_fill_86 : decode prog_4_method_3_code 86 = .ok (.aload_n 0, 1) := by decide +kernel
theorem twd_fi_fill_87 : decode prog_4_method_3_code 87 = .ok (.iload_n 3, 1) := by decide +kernel
theorem twd_fi_fill_88 : decode prog_4_method_3_code 88 = .ok (.iconst 1, 1) := by decide +kernel
theorem twd_fi_fill_89 : decode prog_4_method_3_code 89 = .ok (.iadd, 1) := by decide +kernel
theorem twd_fi_fill_90 : decode prog_4_method_3_code 90 = .ok (.putfield 22, 3) := by decide +kernel
theorem twd_fi_fill_93 : decode prog_4_method_3_code 93 = .ok (.iinc 3 1, 3) := by decide +kernel
theorem twd_fi_fill_96 : decode prog_4_method_3_code 96 = .ok (.goto (-72), 3) := by decide +kernel
theorem twd_fi_fill_99 : decode prog_4_method_3_code 99 = .ok (.return_, 1) := by decide +kernel
theorem twk_fi_fill : tw_dc twy_fi_fill 2 := ⟨by decide +kernel, by decide +kernel, by decide +kernel⟩
theorem twd_sh_setLevels_0 : decode prog_9_method_3_code 0 = .ok (.iconst 1, 1) := by decide +kernel
theorem twd_sh_setLevels_1 : decode prog_9_method_3_code 1 = .ok (.istore 5, 2) := by decide +kernel
theorem twd_sh_setLevels_3 : decode prog_9_method_3_code 3 = .ok (.iload 4, 2) := by decide +kernel
theorem twd_sh_setLevels_5 : decode prog_9_method_3_code 5 = .ok (.iconst 1, 1) := by decide +kernel
theorem twd_sh_setLevels_6 : decode prog_9_method_3_code 6 = .ok (.isub, 1) := by decide +kernel
theorem twd_sh_setLevels_7 : decode prog_9_method_3_code 7 = .ok (.istore 6, 2) := by decide +kernel
theorem twd_sh_setLevels_9 : decode prog_9_method_3_code 9 = .ok (.iload 6, 2) := by decide +kernel
theorem twd_sh_setLevels_11 : decode prog_9_method_3_code 11 = .ok (.iload_n 3, 1) := by decide +kernel
theorem twd_sh_setLevels_12 : decode prog_9_method_3_code 12 = .ok (.if_icmp .lt 98, 3) := by decide +kernel
theorem twd_sh_setLevels_15 : decode prog_9_method_3_code 15 = .ok (.aload_n 1, 1) := by decide +kernel
theorem twd_sh_setLevels_16 : decode prog_9_method_3_code 16 = .ok (.getfield 35, 3) := by decide +kernel
theorem twd_sh_setLevels_19 : decode prog_9_method_3_code 19 = .ok (.iload 6, 2) := by decide +kernel
theorem twd_sh_setLevels_21 : decode prog_9_method_3_code 21 = .ok (.iaload, 1) := by decide +kernel
theorem twd_sh_setLevels_22 : decode prog_9_method_3_code 22 = .ok (.istore 7, 2) := by decide +kernel
theorem twd_sh_setLevels_24 : decode prog_9_method_3_code 24 = .ok (.iload 7, 2) := by decide +kernel
theorem twd_sh_setLevels_26 : decode prog_9_method_3_code 26 = .ok (.bipush 9, 2) := by decide +kernel
theorem twd_sh_setLevels_28 : decode prog_9_method_3_code 28 = .ok (.if_icmp .eq 19, 3) := by decide +kernel
theorem twd_sh_setLevels_31 : decode prog_9_method_3_code 31 = .ok (.iload 7, 2) := by decide +kernel
theorem twd_sh_setLevels_33 : decode prog_9_method_3_code 33 = .ok (.invokestatic 40, 3) := by decide +kernel
theorem twd_sh_setLevels_36 : decode prog_9_method_3_code 36 = .ok (.ifCond .ne 11, 3) := by decide +kernel
theorem twd_sh_setLevels_39 : decode prog_9_method_3_code 39 = .ok (.iload 7, 2) := by decide +kernel
theorem twd_sh_setLevels_41 : decode prog_9_method_3_code 41 = .ok (.invokestatic 44, 3) := by decide +kernel
theorem twd_sh_setLevels_44 : decode prog_9_method_3_code 44 = .ok (.ifCond .eq 7, 3) := by decide +kernel
theorem twd_sh_setLevels_47 : decode prog_9_method_3_code 47 = .ok (.iconst 1, 1) := by decide +kernel
theorem twd_sh_setLevels_48 : decode prog_9_method_3_code 48 = .ok (.goto 4, 3) := by decide +kernel
theorem twd_sh_setLevels_51 : decode prog_9_method_3_code 51 = .ok (.iconst 0, 1) := by decide +kernel
theorem twd_sh_setLevels_52 : decode prog_9_method_3_code 52 = .ok (.istore 8, 2) := by decide +kernel
theorem twd_sh_setLevels_54 : decode prog_9_method_3_code 54 = .ok (.iload 7, 2) := by decide +kernel
theorem twd_sh_setLevels_56 : decode prog_9_method_3_code 56 = .ok (.bipush 10, 2) := by decide +kernel
theorem twd_sh_setLevels_58 : decode prog_9_method_3_code 58 = .ok (.if_icmp .eq 13, 3) := by decide +kernel
theorem twd_sh_setLevels_61 : decode prog_9_method_3_code 61 = .ok (.iload 5, 2) := by decide +kernel
theorem twd_sh_setLevels_63 : decode prog_9_method_3_code 63 = .ok (.ifCond .eq 12, 3) := by decide +kernel
theorem twd_sh_setLevels_66 : decode prog_9_method_3_code 66 = .ok (.iload 8, 2) := by decide +kernel
theorem twd_sh_setLevels_68 : decode prog_9_method_3_code 68 = .ok (.ifCond .eq 7, 3) := by decide +kernel
theorem twd_sh_setLevels_71 : decode prog_9_method_3_code 71 = .ok (.iconst 1, 1) := by decide +kernel
theorem twd_sh_setLevels_72 : decode prog_9_method_3_code 72 = .ok (.goto 4, 3) := by decide +kernel
theorem twd_sh_setLevels_75 : decode prog_9_method_3_code 75 = .ok (.iconst 0, 1) := by decide +kernel
theorem twd_sh_setLevels_76 : decode prog_9_method_3_code 76 = .ok (.istore 5, 2) := by decide +kernel
theorem twd_sh_setLevels_78 : decode prog_9_method_3_code 78 = .ok (.aload_n 0, 1) := by decide +kernel
theorem twd_sh_setLevels_79 : decode prog_9_method_3_code 79 = .ok (.getfield 9, 3) := by decide +kernel
theorem twd_sh_setLevels_82 : decode prog_9_method_3_code 82 = .ok (.iload 6, 2) := by decide +kernel
theorem twd_sh_setLevels_84 : decode prog_9_method_3_code 84 = .ok (.iload 5, 2) := by decide +kernel
theorem twd_sh_setLevels_86 : decode prog_9_method_3_code 86 = .ok (.ifCond .eq 10, 3) := by decide +kernel
theorem twd_sh_setLevels_89 : decode prog_9_method_3_code 89 = .ok (.aload_n 2, 1) := by decide +kernel
theorem twd_sh_setLevels_90 : decode prog_9_method_3_code 90 = .ok (.getfield 47, 3) := by decide +kernel
theorem twd_sh_setLevels_93 : decode prog_9_method_3_code 93 = .ok (.goto 10, 3) := by decide +kernel
theorem twd_sh_setLevels_96 : decode prog_9_method_3_code 96 = .ok (.aload_n 2, 1) := by decide +kernel
theorem twd_sh_setLevels_97 : decode prog_9_method_3_code 97 = .ok (.getfield 52, 3) := by decide +kernel
theorem twd_sh_setLevels_100 : decode prog_9_method_3_code 100 = .ok (.iload 6, 2) := by decide +kernel
theorem twd_sh_setLevels_102 : decode prog_9_method_3_code 102 = .ok (.iaload, 1) := by decide +kernel
theorem twd_sh_setLevels_103 : decode prog_9_method_3_code 103 = .ok (.iastore, 1) := by decide +kernel
theorem twd_sh_setLevels_104 : decode prog_9_method_3_code 104 = .ok (.iinc 6 (-1), 3) := by decide +kernel
theorem twd_sh_setLevels_107 : decode prog_9_method_3_code 107 = .ok (.goto (-98), 3) := by decide +kernel
theorem twd_sh_setLevels_110 : decode prog_9_method_3_code 110 = .ok (.return_, 1) := by decide +kernel
theorem twk_sh_setLevels : tw_dc twy_sh_setLevels 4 := ⟨by decide +kernel, by decide +kernel, by decide +kernel⟩
theorem twd_sh_turn_0 : decode prog_9_method_6_code 0 = .ok (.iload_n 2, 1) := by decide +kernel
theorem twd_sh_turn_1 : decode prog_9_method_6_code 1 = .ok (.iload_n 1, 1) := by decide +kernel
theorem twd_sh_turn_2 : decode prog_9_method_6_code 2 = .ok (.isub, 1) := by decide +kernel
theorem twd_sh_turn_3 : decode prog_9_method_6_code 3 = .ok (.iconst 1, 1) := by decide +kernel
theorem twd_sh_turn_4 : decode prog_9_method_6_code 4 = .ok (.iadd, 1) := by decide +kernel
theorem twd_sh_turn_5 : decode prog_9_method_6_code 5 = .ok (.iconst 2, 1) := by decide +kernel
theorem twd_sh_turn_6 : decode prog_9_method_6_code 6 = .ok (.idiv, 1) := by decide +kernel
theorem twd_sh_turn_7 : decode prog_9_method_6_code 7 = .ok (.istore_n 3, 1) := by decide +kernel
theorem twd_sh_turn_8 : decode prog_9_method_6_code 8 = .ok (.iconst 0, 1) := by decide +kernel
theorem twd_sh_turn_9 : decode prog_9_method_6_code 9 = .ok (.istore 4, 2) := by decide +kernel
theorem twd_sh_turn_11 : decode prog_9_method_6_code 11 = .ok (.iload 4, 2) := by decide +kernel
theorem twd_sh_turn_13 : decode prog_9_method_6_code 13 = .ok (.iload_n 3, 1) := by decide +kernel
theorem twd_sh_turn_14 : decode prog_9_method_6_code 14 = .ok (.if_icmp .ge 49, 3) := by decide +kernel
theorem twd_sh_turn_17 : decode prog_9_method_6_code 17 = .ok (.aload_n 0, 1) := by decide +kernel
theorem twd_sh_turn_18 : decode prog_9_method_6_code 18 = .ok (.getfield 15, 3) := by decide +kernel
theorem twd_sh_turn_21 : decode prog_9_method_6_code 21 = .ok (.iload_n 1, 1) := by decide +kernel
theorem twd_sh_turn_22 : decode prog_9_method_6_code 22 = .ok (.iload 4, 2) := by decide +kernel
theorem twd_sh_turn_24 : decode prog_9_method_6_code 24 = .ok (.iadd, 1) := by decide +kernel
theorem twd_sh_turn_25 : decode prog_9_method_6_code 25 = .ok (.iaload, 1) := by decide +kernel
theorem twd_sh_turn_26 : decode prog_9_method_6_code 26 = .ok (.istore 5, 2) := by decide +kernel
theorem twd_sh_turn_28 : decode prog_9_method_6_code 28 = .ok (.aload_n 0, 1) := by decide +kernel
theorem twd_sh_turn_29 : decode prog_9_method_6_code 29 = .ok (.getfield 15, 3) := by decide +kernel
theorem twd_sh_turn_32 : decode prog_9_method_6_code 32 = .ok (.iload_n 1, 1) := by decide +kernel
theorem twd_sh_turn_33 : decode prog_9_method_6_code 33 = .ok (.iload 4, 2) := by decide +kernel
theorem twd_sh_turn_35 : decode prog_9_method_6_code 35 = .ok (.iadd, 1) := by decide +kernel
theorem twd_sh_turn_36 : decode prog_9_method_6_code 36 = .ok (.aload_n 0, 1) := by decide +kernel
theorem twd_sh_turn_37 : decode prog_9_method_6_code 37 = .ok (.getfield 15, 3) := by decide +kernel
theorem twd_sh_turn_40 : decode prog_9_method_6_code 40 = .ok (.iload_n 2, 1) := by decide +kernel
theorem twd_sh_turn_41 : decode prog_9_method_6_code 41 = .ok (.iload 4, 2) := by decide +kernel
theorem twd_sh_turn_43 : decode prog_9_method_6_code 43 = .ok (.isub, 1) := by decide +kernel
theorem twd_sh_turn_44 : decode prog_9_method_6_code 44 = .ok (.iaload, 1) := by decide +kernel
theorem twd_sh_turn_45 : decode prog_9_method_6_code 45 = .ok (.iastore, 1) := by decide +kernel
theorem twd_sh_turn_46 : decode prog_9_method_6_code 46 = .ok (.aload_n 0, 1) := by decide +kernel
theorem twd_sh_turn_47 : decode prog_9_method_6_code 47 = .ok (.getfield 15, 3) := by decide +kernel
theorem twd_sh_turn_50 : decode prog_9_method_6_code 50 = .ok (.iload_n 2, 1) := by decide +kernel
theorem twd_sh_turn_51 : decode prog_9_method_6_code 51 = .ok (.iload 4, 2) := by decide +kernel
theorem twd_sh_turn_53 : decode prog_9_method_6_code 53 = .ok (.isub, 1) := by decide +kernel
theorem twd_sh_turn_54 : decode prog_9_method_6_code 54 = .ok (.iload 5, 2) := by decide +kernel
theorem twd_sh_turn_56 : decode prog_9_method_6_code 56 = .ok (.iastore, 1) := by decide +kernel
theorem twd_sh_turn_57 : decode prog_9_method_6_code 57 = .ok (.iinc 4 1, 3) := by decide +kernel
theorem twd_sh_turn_60 : decode prog_9_method_6_code 60 = .ok (.goto (-49), 3) := by decide +kernel
theorem twd_sh_turn_63 : decode prog_9_method_6_code 63 = .ok (.return_, 1) := by decide +kernel
theorem twk_sh_turn : tw_dc twy_sh_turn 2 := ⟨by decide +kernel, by decide +kernel, by decide +kernel⟩
theorem twd_sh_turnRows_0 : decode prog_9_method_5_code 0 = .ok (.iload_n 1, 1) := by decide +kernel
theorem twd_sh_turnRows_1 : decode prog_9_method_5_code 1 = .ok (.istore 4, 2) := by decide +kernel
theorem twd_sh_turnRows_3 : decode prog_9_method_5_code 3 = .ok (.iload_n 1, 1) := by decide +kernel
theorem twd_sh_turnRows_4 : decode prog_9_method_5_code 4 = .ok (.istore 5, 2) := by decide +kernel
theorem twd_sh_turnRows_6 : decode prog_9_method_5_code 6 = .ok (.iload 5, 2) := by decide +kernel
theorem twd_sh_turnRows_8 : decode prog_9_method_5_code 8 = .ok (.iload_n 2, 1) := by decide +kernel
theorem twd_sh_turnRows_9 : decode prog_9_method_5_code 9 = .ok (.if_icmp .gt 47, 3) := by decide +kernel
theorem twd_sh_turnRows_12 : decode prog_9_method_5_code 12 = .ok (.iload 5, 2) := by decide +kernel
theorem twd_sh_turnRows_14 : decode prog_9_method_5_code 14 = .ok (.iload_n 2, 1) := by decide +kernel
theorem twd_sh_turnRows_15 : decode prog_9_method_5_code 15 = .ok (.if_icmp .eq 19, 3) := by decide +kernel
theorem twd_sh_turnRows_18 : decode prog_9_method_5_code 18 = .ok (.aload_n 0, 1) := by decide +kernel
theorem twd_sh_turnRows_19 : decode prog_9_method_5_code 19 = .ok (.getfield 9, 3) := by decide +kernel
theorem twd_sh_turnRows_22 : decode prog_9_method_5_code 22 = .ok (.aload_n 0, 1) := by decide +kernel
theorem twd_sh_turnRows_23 : decode prog_9_method_5_code 23 = .ok (.getfield 15, 3) := by decide +kernel
theorem twd_sh_turnRows_26 : decode prog_9_method_5_code 26 = .ok (.iload 5, 2) := by decide +kernel
theorem twd_sh_turnRows_28 : decode prog_9_method_5_code 28 = .ok (.iaload, 1) := by decide +kernel
theorem twd_sh_turnRows_29 : decode prog_9_method_5_code 29 = .ok (.iaload, 1) := by decide +kernel
theorem twd_sh_turnRows_30 : decode prog_9_method_5_code 30 = .ok (.iload_n 3, 1) := by decide +kernel
theorem twd_sh_turnRows_31 : decode prog_9_method_5_code 31 = .ok (.if_icmp .ge 19, 3) := by decide +kernel
theorem twd_sh_turnRows_34 : decode prog_9_method_5_code 34 = .ok (.aload_n 0, 1) := by decide +kernel
theorem twd_sh_turnRows_35 : decode prog_9_method_5_code 35 = .ok (.iload 4, 2) := by decide +kernel
theorem twd_sh_turnRows_37 : decode prog_9_method_5_code 37 = .ok (.iload 5, 2) := by decide +kernel
theorem twd_sh_turnRows_39 : decode prog_9_method_5_code 39 = .ok (.iconst 1, 1) := by decide +kernel
theorem twd_sh_turnRows_40 : decode prog_9_method_5_code 40 = .ok (.isub, 1) := by decide +kernel
theorem twd_sh_turnRows_41 : decode prog_9_method_5_code 41 = .ok (.invokevirtual 65, 3) := by decide +kernel
theorem twd_sh_turnRows_44 : decode prog_9_method_5_code 44 = .ok (.iload 5, 2) := by decide +kernel
theorem twd_sh_turnRows_46 : decode prog_9_method_5_code 46 = .ok (.iconst 1, 1) := by decide +kernel
theorem twd_sh_turnRows_47 : decode prog_9_method_5_code 47 = .ok (.iadd, 1) := by decide +kernel
theorem twd_sh_turnRows_48 : decode prog_9_method_5_code 48 = .ok (.istore 4, 2) := by decide +kernel
theorem twd_sh_turnRows_50 : decode prog_9_method_5_code 50 = .ok (.iinc 5 1, 3) := by decide +kernel
theorem twd_sh_turnRows_53 : decode prog_9_method_5_code 53 = .ok (.goto (-47), 3) := by decide +kernel
theorem twd_sh_turnRows_56 : decode prog_9_method_5_code 56 = .ok (.return_, 1) := by decide +kernel
theorem twk_sh_turnRows : tw_dc twy_sh_turnRows 3 := ⟨by decide +kernel, by decide +kernel, by decide +kernel⟩
theorem twd_sh_setOrder_0 : decode prog_9_method_4_code 0 = .ok (.iconst 0, 1) := by decide +kernel
theorem twd_sh_setOrder_1 : decode prog_9_method_4_code 1 = .ok (.istore_n 3, 1) := by decide +kernel
theorem twd_sh_setOrder_2 : decode prog_9_method_4_code 2 = .ok (.iload_n 1, 1) := by decide +kernel
theorem twd_sh_setOrder_3 : decode prog_9_method_4_code 3 = .ok (.istore 4, 2) := by decide +kernel
theorem twd_sh_setOrder_5 : decode prog_9_method_4_code 5 = .ok (.iload 4, 2) := by decide +kernel
theorem twd_sh_setOrder_7 : decode prog_9_method_4_code 7 = .ok (.iload_n 2, 1) := by decide +kernel
theorem twd_sh_setOrder_8 : decode prog_9_method_4_code 8 = .ok (.if_icmp .ge 30, 3) := by decide +kernel
theorem twd_sh_setOrder_11 : decode prog_9_method_4_code 11 = .ok (.aload_n 0, 1) := by decide +kernel
theorem twd_sh_setOrder_12 : decode prog_9_method_4_code 12 = .ok (.getfield 15, 3) := by decide +kernel
theorem twd_sh_setOrder_15 : decode prog_9_method_4_code 15 = .ok (.iload 4, 2) := by decide +kernel
theorem twd_sh_setOrder_17 : decode prog_9_method_4_code 17 = .ok (.iload 4, 2) := by decide +kernel
theorem twd_sh_setOrder_19 : decode prog_9_method_4_code 19 = .ok (.iastore, 1) := by decide +kernel
theorem twd_sh_setOrder_20 : decode prog_9_method_4_code 20 = .ok (.iload_n 3, 1) := by decide +kernel
theorem twd_sh_setOrder_21 : decode prog_9_method_4_code 21 = .ok (.aload_n 0, 1) := by decide +kernel
theorem twd_sh_setOrder_22 : decode prog_9_method_4_code 22 = .ok (.getfield 9, 3) := by decide +kernel
theorem twd_sh_setOrder_25 : decode prog_9_method_4_code 25 = .ok (.iload 4, 2) := by decide +kernel
theorem twd_sh_setOrder_27 : decode prog_9_method_4_code 27 = .ok (.iaload, 1) := by decide +kernel
theorem twd_sh_setOrder_28 : decode prog_9_method_4_code 28 = .ok (.invokestatic 55, 3) := by decide +kernel
theorem twd_sh_setOrder_31 : decode prog_9_method_4_code 31 = .ok (.istore_n 3, 1) := by decide +kernel
theorem twd_sh_setOrder_32 : decode prog_9_method_4_code 32 = .ok (.iinc 4 1, 3) := by decide +kernel
theorem twd_sh_setOrder_35 : decode prog_9_method_4_code 35 = .ok (.goto (-30), 3) := by decide +kernel
theorem twd_sh_setOrder_38 : decode prog_9_method_4_code 38 = .ok (.iload_n 3, 1) := by decide +kernel
theorem twd_sh_setOrder_39 : decode prog_9_method_4_code 39 = .ok (.istore 4, 2) := by decide +kernel
theorem twd_sh_setOrder_41 : decode prog_9_method_4_code 41 = .ok (.iload 4, 2) := by decide +kernel
theorem twd_sh_setOrder_43 : decode prog_9_method_4_code 43 = .ok (.iconst 1, 1) := by decide +kernel
theorem twd_sh_setOrder_44 : decode prog_9_method_4_code 44 = .ok (.if_icmp .lt 17, 3) := by decide +kernel
theorem twd_sh_setOrder_47 : decode prog_9_method_4_code 47 = .ok (.aload_n 0, 1) := by decide +kernel
theorem twd_sh_setOrder_48 : decode prog_9_method_4_code 48 = .ok (.iload_n 1, 1) := by decide +kernel
theorem twd_sh_setOrder_49 : decode prog_9_method_4_code 49 = .ok (.iload_n 2, 1) := by decide +kernel
theorem twd_sh_setOrder_50 : decode prog_9_method_4_code 50 = .ok (.iload 4, 2) := by decide +kernel
theorem twd_sh_setOrder_52 : decode prog_9_method_4_code 52 = .ok (.invokevirtual 61, 3) := by decide +kernel
theorem twd_sh_setOrder_55 : decode prog_9_method_4_code 55 = .ok (.iinc 4 (-1), 3) := by decide +kernel
theorem twd_sh_setOrder_58 : decode prog_9_method_4_code 58 = .ok (.goto (-17), 3) := by decide +kernel
theorem twd_sh_setOrder_61 : decode prog_9_method_4_code 61 = .ok (.return_, 1) := by decide +kernel
theorem twk_sh_setOrder : tw_dc twy_sh_setOrder 2 := ⟨by decide +kernel, by decide +kernel, by decide +kernel⟩
theorem twd_sh_arrange_0 : decode prog_9_method_2_code 0 = .ok (.iconst 0, 1) := by decide +kernel
theorem twd_sh_arrange_1 : decode prog_9_method_2_code 1 = .ok (.istore 4, 2) := by decide +kernel
theorem twd_sh_arrange_3 : decode prog_9_method_2_code 3 = .ok (.iload 4, 2) := by decide +kernel
theorem twd_sh_arrange_5 : decode prog_9_method_2_code 5 = .ok (.aload_n 3, 1) := by decide +kernel
theorem twd_sh_arrange_6 : decode prog_9_method_2_code 6 = .ok (.getfield 18, 3) := by decide +kernel
theorem twd_sh_arrange_9 : decode prog_9_method_2_code 9 = .ok (.if_icmp .ge 47, 3) := by decide +kernel
theorem twd_sh_arrange_12 : decode prog_9_method_2_code 12 = .ok (.aload_n 3, 1) := by decide +kernel
theorem twd_sh_arrange_13 : decode prog_9_method_2_code 13 = .ok (.getfield 24, 3) := by decide +kernel
theorem twd_sh_arrange_16 : decode prog_9_method_2_code 16 = .ok (.iload 4, 2) := by decide +kernel
theorem twd_sh_arrange_18 : decode prog_9_method_2_code 18 = .ok (.iaload, 1) := by decide +kernel
theorem twd_sh_arrange_19 : decode prog_9_method_2_code 19 = .ok (.istore 5, 2) := by decide +kernel
theorem twd_sh_arrange_21 : decode prog_9_method_2_code 21 = .ok (.aload_n 3, 1) := by decide +kernel
theorem twd_sh_arrange_22 : decode prog_9_method_2_code 22 = .ok (.getfield 24, 3) := by decide +kernel
theorem twd_sh_arrange_25 : decode prog_9_method_2_code 25 = .ok (.iload 4, 2) := by decide +kernel
theorem twd_sh_arrange_27 : decode prog_9_method_2_code 27 = .ok (.iconst 1, 1) := by decide +kernel
theorem twd_sh_arrange_28 : decode prog_9_method_2_code 28 = .ok (.iadd, 1) := by decide +kernel
theorem twd_sh_arrange_29 : decode prog_9_method_2_code 29 = .ok (.iaload, 1) := by decide +kernel
theorem twd_sh_arrange_30 : decode prog_9_method_2_code 30 = .ok (.istore 6, 2) := by decide +kernel
theorem twd_sh_arrange_32 : decode prog_9_method_2_code 32 = .ok (.aload_n 0, 1) := by decide +kernel
theorem twd_sh_arrange_33 : decode prog_9_method_2_code 33 = .ok (.aload_n 1, 1) := by decide +kernel
theorem twd_sh_arrange_34 : decode prog_9_method_2_code 34 = .ok (.aload_n 2, 1) := by decide +kernel
theorem twd_sh_arrange_35 : decode prog_9_method_2_code 35 = .ok (.iload 5, 2) := by decide +kernel
theorem twd_sh_arrange_37 : decode prog_9_method_2_code 37 = .ok (.iload 6, 2) := by decide +kernel
theorem twd_sh_arrange_39 : decode prog_9_method_2_code 39 = .ok (.invokevirtual 27, 3) := by decide +kernel
theorem twd_sh_arrange_42 : decode prog_9_method_2_code 42 = .ok (.aload_n 0, 1) := by decide +kernel
theorem twd_sh_arrange_43 : decode prog_9_method_2_code 43 = .ok (.iload 5, 2) := by decide +kernel
theorem twd_sh_arrange_45 : decode prog_9_method_2_code 45 = .ok (.iload 6, 2) := by decide +kernel
theorem twd_sh_arrange_47 : decode prog_9_method_2_code 47 = .ok (.invokevirtual 31, 3) := by decide +kernel
theorem twd_sh_arrange_50 : decode prog_9_method_2_code 50 = .ok (.iinc 4 1, 3) := by decide +kernel
theorem twd_sh_arrange_53 : decode prog_9_method_2_code 53 = .ok (.goto (-50), 3) := by decide +kernel
theorem twd_sh_arrange_56 : decode prog_9_method_2_code 56 = .ok (.return_, 1) := by decide +kernel
theorem twk_sh_arrange : tw_dc twy_sh_arrange 3 := ⟨by decide +kernel, by decide +kernel, by decide +kernel⟩
theorem twd_tl_layOut_0 : decode prog_1_method_20_code 0 = .ok (.aload_n 0, 1) := by decide +kernel
theorem twd_tl_layOut_1 : decode prog_1_method_20_code 1 = .ok (.getfield 41, 3) := by decide +kernel
theorem twd_tl_layOut_4 : decode prog_1_method_20_code 4 = .ok (.ifCond .ne 4, 3) := by decide +kernel
theorem twd_tl_layOut_7 : decode prog_1_method_20_code 7 = .ok (.return_, 1) := by decide +kernel
theorem twd_tl_layOut_8 : decode prog_1_method_20_code 8 = .ok (.aload_n 0, 1) := by decide +kernel
theorem twd_tl_layOut_9 : decode prog_1_method_20_code 9 = .ok (.getfield 19, 3) := by decide +kernel
theorem twd_tl_layOut_12 : decode prog_1_method_20_code 12 = .ok (.aload_n 0, 1) := by decide +kernel
theorem twd_tl_layOut_13 : decode prog_1_method_20_code 13 = .ok (.getfield 10, 3) := by decide +kernel
theorem twd_tl_layOut_16 : decode prog_1_method_20_code 16 = .ok (.invokevirtual 113, 3) := by decide +kernel
theorem twd_tl_layOut_19 : decode prog_1_method_20_code 19 = .ok (.aload_n 0, 1) := by decide +kernel
theorem twd_tl_layOut_20 : decode prog_1_method_20_code 20 = .ok (.getfield 19, 3) := by decide +kernel
theorem twd_tl_layOut_23 : decode prog_1_method_20_code 23 = .ok (.aload_n 0, 1) := by decide +kernel
theorem twd_tl_layOut_24 : decode prog_1_method_20_code 24 = .ok (.getfield 10, 3) := by decide +kernel
theorem twd_tl_layOut_27 : decode prog_1_method_20_code 27 = .ok (.invokevirtual 117, 3) := by decide +kernel
theorem twd_tl_layOut_30 : decode prog_1_method_20_code 30 = .ok (.aload_n 0, 1) := by decide +kernel
theorem twd_tl_layOut_31 : decode prog_1_method_20_code 31 = .ok (.getfield 19, 3) := by decide +kernel
theorem twd_tl_layOut_34 : decode prog_1_method_20_code 34 = .ok (.aload_n 0, 1) := by decide +kernel
theorem twd_tl_layOut_35 : decode prog_1_method_20_code 35 = .ok (.getfield 10, 3) := by decide +kernel
theorem twd_tl_layOut_38 : decode prog_1_method_20_code 38 = .ok (.invokevirtual 120, 3) := by decide +kernel
theorem twd_tl_layOut_41 : decode prog_1_method_20_code 41 = .ok (.aload_n 0, 1) := by decide +kernel
theorem twd_tl_layOut_42 : decode prog_1_method_20_code 42 = .ok (.getfield 26, 3) := by decide +kernel
theorem twd_tl_layOut_45 : decode prog_1_method_20_code 45 = .ok (.aload_n 0, 1) := by decide +kernel
theorem twd_tl_layOut_46 : decode prog_1_method_20_code 46 = .ok (.getfield 10, 3) := by decide +kernel
theorem twd_tl_layOut_49 : decode prog_1_method_20_code 49 = .ok (.aload_n 0, 1) := by decide +kernel
theorem twd_tl_layOut_50 : decode prog_1_method_20_code 50 = .ok (.getfield 37, 3) := by decide +kernel
theorem twd_tl_layOut_53 : decode prog_1_method_20_code 53 = .ok (.invokevirtual 123, 3) := by decide +kernel
theorem twd_tl_layOut_56 : decode prog_1_method_20_code 56 = .ok (.aload_n 0, 1) := by decide +kernel
theorem twd_tl_layOut_57 : decode prog_1_method_20_code 57 = .ok (.getfield 33, 3) := by decide +kernel
theorem twd_tl_layOut_60 : decode prog_1_method_20_code 60 = .ok (.aload_n 0, 1) := by decide +kernel
theorem twd_tl_layOut_61 : decode prog_1_method_20_code 61 = .ok (.getfield 10, 3) := by decide +kernel
theorem twd_tl_layOut_64 : decode prog_1_method_20_code 64 = .ok (.aload_n 0, 1) := by decide +kernel
theorem twd_tl_layOut_65 : decode prog_1_method_20_code 65 = .ok (.getfield 19, 3) := by decide +kernel
theorem twd_tl_layOut_68 : decode prog_1_method_20_code 68 = .ok (.aload_n 0, 1) := by decide +kernel
theorem twd_tl_layOut_69 : decode prog_1_method_20_code 69 = .ok (.getfield 26, 3) := by decide +kernel
theorem twd_tl_layOut_72 : decode prog_1_method_20_code 72 = .ok (.invokevirtual 127, 3) := by decide +kernel
theorem twd_tl_layOut_75 : decode prog_1_method_20_code 75 = .ok (.aload_n 0, 1) := by decide +kernel
theorem twd_tl_layOut_76 : decode prog_1_method_20_code 76 = .ok (.iconst 0, 1) := by decide +kernel
theorem twd_tl_layOut_77 : decode prog_1_method_20_code 77 = .ok (.putfield 41, 3) := by decide +kernel
theorem twd_tl_layOut_80 : decode prog_1_method_20_code 80 = .ok (.return_, 1) := by decide +kernel
theorem twk_tl_layOut : tw_dc twy_tl_layOut 0 := ⟨by decide +kernel, by decide +kernel, by decide +kernel⟩
theorem twd_tl_paragraphLevel_0 : decode prog_1_method_8_code 0 = .ok (.aload_n 0, 1) := by decide +kernel
theorem twd_tl_paragraphLevel_1 : decode prog_1_method_8_code 1 = .ok (.invokevirtual 59, 3) := by decide +kernel
theorem twd_tl_paragraphLevel_4 : decode prog_1_method_8_code 4 = .ok (.aload_n 0, 1) := by decide +kernel
theorem twd_tl_paragraphLevel_5 : decode prog_1_method_8_code 5 = .ok (.getfield 19, 3) := by decide +kernel
theorem twd_tl_paragraphLevel_8 : decode prog_1_method_8_code 8 = .ok (.getfield 62, 3) := by decide +kernel
theorem twd_tl_paragraphLevel_11 : decode prog_1_method_8_code 11 = .ok (.ireturn, 1) := by decide +kernel
theorem twk_tl_paragraphLevel : tw_dc twy_tl_paragraphLevel 0 := ⟨by decide +kernel, by decide +kernel, by decide +kernel⟩
theorem twd_pa_has_0 : decode prog_7_method_3_code 0 = .ok (.iload_n 1, 1) := by decide +kernel
theorem twd_pa_has_1 : decode prog_7_method_3_code 1 = .ok (.ifCond .lt 15, 3) := by decide +kernel
theorem twd_pa_has_4 : decode prog_7_method_3_code 4 = .ok (.iload_n 1, 1) := by decide +kernel
theorem twd_pa_has_5 : decode prog_7_method_3_code 5 = .ok (.aload_n 0, 1) := by decide +kernel
theorem twd_pa_has_6 : decode prog_7_method_3_code 6 = .ok (.getfield 24, 3) := by decide +kernel
theorem twd_pa_has_9 : decode prog_7_method_3_code 9 = .ok (.if_icmp .ge 7, 3) := by decide +kernel
theorem twd_pa_has_12 : decode prog_7_method_3_code 12 = .ok (.iconst 1, 1) := by decide +kernel
theorem twd_pa_has_13 : decode prog_7_method_3_code 13 = .ok (.goto 4, 3) := by decide +kernel
theorem twd_pa_has_16 : decode prog_7_method_3_code 16 = .ok (.iconst 0, 1) := by decide +kernel
theorem twd_pa_has_17 : decode prog_7_method_3_code 17 = .ok (.ireturn, 1) := by decide +kernel
theorem twk_pa_has : tw_dc twy_pa_has 1 := ⟨by decide +kernel, by decide +kernel, by decide +kernel⟩
theorem twd_tl_match_0 : decode prog_1_method_9_code 0 = .ok (.aload_n 0, 1) := by decide +kernel
theorem twd_tl_match_1 : decode prog_1_method_9_code 1 = .ok (.getfield 10, 3) := by decide +kernel
theorem twd_tl_match_4 : decode prog_1_method_9_code 4 = .ok (.iload_n 1, 1) := by decide +kernel
theorem twd_tl_match_5 : decode prog_1_method_9_code 5 = .ok (.invokevirtual 65, 3) := by decide +kernel
theorem twd_tl_match_8 : decode prog_1_method_9_code 8 = .ok (.ifCond .ne 5, 3) := by decide +kernel
theorem twd_tl_match_11 : decode prog_1_method_9_code 11 = .ok (.iconst (-1), 1) := by decide +kernel
theorem twd_tl_match_12 : decode prog_1_method_9_code 12 = .ok (.ireturn, 1) := by decide +kernel
theorem twd_tl_match_13 : decode prog_1_method_9_code 13 = .ok (.aload_n 0, 1) := by decide +kernel
theorem twd_tl_match_14 : decode prog_1_method_9_code 14 = .ok (.invokevirtual 59, 3) := by decide +kernel
theorem twd_tl_match_17 : decode prog_1_method_9_code 17 = .ok (.aload_n 0, 1) := by decide +kernel
theorem twd_tl_match_18 : decode prog_1_method_9_code 18 = .ok (.getfield 19, 3) := by decide +kernel
theorem twd_tl_match_21 : decode prog_1_method_9_code 21 = .ok (.getfield 69, 3) := by decide +kernel
theorem twd_tl_match_24 : decode prog_1_method_9_code 24 = .ok (.getfield 73, 3) := by decide +kernel
theorem twd_tl_match_27 : decode prog_1_method_9_code 27 = .ok (.iload_n 1, 1) := by decide +kernel
theorem twd_tl_match_28 : decode prog_1_method_9_code 28 = .ok (.iaload, 1) := by decide +kernel
theorem twd_tl_match_29 : decode prog_1_method_9_code 29 = .ok (.ireturn, 1) := by decide +kernel
theorem twk_tl_match : tw_dc twy_tl_match 1 := ⟨by decide +kernel, by decide +kernel, by decide +kernel⟩
theorem twd_tl_partner_0 : decode prog_1_method_10_code 0 = .ok (.aload_n 0, 1) := by decide +kernel
theorem twd_tl_partner_1 : decode prog_1_method_10_code 1 = .ok (.getfield 10, 3) := by decide +kernel
theorem twd_tl_partner_4 : decode prog_1_method_10_code 4 = .ok (.iload_n 1, 1) := by decide +kernel
theorem twd_tl_partner_5 : decode prog_1_method_10_code 5 = .ok (.invokevirtual 65, 3) := by decide +kernel
theorem twd_tl_partner_8 : decode prog_1_method_10_code 8 = .ok (.ifCond .ne 5, 3) := by decide +kernel
theorem twd_tl_partner_11 : decode prog_1_method_10_code 11 = .ok (.iconst (-1), 1) := by decide +kernel
theorem twd_tl_partner_12 : decode prog_1_method_10_code 12 = .ok (.ireturn, 1) := by decide +kernel
theorem twd_tl_partner_13 : decode prog_1_method_10_code 13 = .ok (.aload_n 0, 1) := by decide +kernel
theorem twd_tl_partner_14 : decode prog_1_method_10_code 14 = .ok (.invokevirtual 59, 3) := by decide +kernel
theorem twd_tl_partner_17 : decode prog_1_method_10_code 17 = .ok (.aload_n 0, 1) := by decide +kernel
theorem twd_tl_partner_18 : decode prog_1_method_10_code 18 = .ok (.getfield 19, 3) := by decide +kernel
theorem twd_tl_partner_21 : decode prog_1_method_10_code 21 = .ok (.getfield 79, 3) := by decide +kernel
theorem twd_tl_partner_24 : decode prog_1_method_10_code 24 = .ok (.iload_n 1, 1) := by decide +kernel
theorem twd_tl_partner_25 : decode prog_1_method_10_code 25 = .ok (.iaload, 1) := by decide +kernel
theorem twd_tl_partner_26 : decode prog_1_method_10_code 26 = .ok (.ireturn, 1) := by decide +kernel
theorem twk_tl_partner : tw_dc twy_tl_partner 1 := ⟨by decide +kernel, by decide +kernel, by decide +kernel⟩
theorem twd_tl_type_0 : decode prog_1_method_11_code 0 = .ok (.aload_n 0, 1) := by decide +kernel
theorem twd_tl_type_1 : decode prog_1_method_11_code 1 = .ok (.getfield 10, 3) := by decide +kernel
theorem twd_tl_type_4 : decode prog_1_method_11_code 4 = .ok (.iload_n 1, 1) := by decide +kernel
theorem twd_tl_type_5 : decode prog_1_method_11_code 5 = .ok (.invokevirtual 65, 3) := by decide +kernel
theorem twd_tl_type_8 : decode prog_1_method_11_code 8 = .ok (.ifCond .ne 5, 3) := by decide +kernel
theorem twd_tl_type_11 : decode prog_1_method_11_code 11 = .ok (.iconst (-1), 1) := by decide +kernel
theorem twd_tl_type_12 : decode prog_1_method_11_code 12 = .ok (.ireturn, 1) := by decide +kernel
theorem twd_tl_type_13 : decode prog_1_method_11_code 13 = .ok (.aload_n 0, 1) := by decide +kernel
theorem twd_tl_type_14 : decode prog_1_method_11_code 14 = .ok (.invokevirtual 59, 3) := by decide +kernel
theorem twd_tl_type_17 : decode prog_1_method_11_code 17 = .ok (.aload_n 0, 1) := by decide +kernel
theorem twd_tl_type_18 : decode prog_1_method_11_code 18 = .ok (.getfield 19, 3) := by decide +kernel
theorem twd_tl_type_21 : decode prog_1_method_11_code 21 = .ok (.getfield 82, 3) := by decide +kernel
theorem twd_tl_type_24 : decode prog_1_method_11_code 24 = .ok (.iload_n 1, 1) := by decide +kernel
theorem twd_tl_type_25 : decode prog_1_method_11_code 25 = .ok (.iaload, 1) := by decide +kernel
theorem twd_tl_type_26 : decode prog_1_method_11_code 26 = .ok (.ireturn, 1) := by decide +kernel
theorem twk_tl_type : tw_dc twy_tl_type 1 := ⟨by decide +kernel, by decide +kernel, by decide +kernel⟩
theorem twd_tl_level_0 : decode prog_1_method_12_code 0 = .ok (.aload_n 0, 1) := by decide +kernel
theorem twd_tl_level_1 : decode prog_1_method_12_code 1 = .ok (.getfield 10, 3) := by decide +kernel
theorem twd_tl_level_4 : decode prog_1_method_12_code 4 = .ok (.iload_n 1, 1) := by decide +kernel
theorem twd_tl_level_5 : decode prog_1_method_12_code 5 = .ok (.invokevirtual 65, 3) := by decide +kernel
theorem twd_tl_level_8 : decode prog_1_method_12_code 8 = .ok (.ifCond .ne 5, 3) := by decide +kernel
theorem twd_tl_level_11 : decode prog_1_method_12_code 11 = .ok (.iconst (-1), 1) := by decide +kernel
theorem twd_tl_level_12 : decode prog_1_method_12_code 12 = .ok (.ireturn, 1) := by decide +kernel
theorem twd_tl_level_13 : decode prog_1_method_12_code 13 = .ok (.aload_n 0, 1) := by decide +kernel
theorem twd_tl_level_14 : decode prog_1_method_12_code 14 = .ok (.invokevirtual 59, 3) := by decide +kernel
theorem twd_tl_level_17 : decode prog_1_method_12_code 17 = .ok (.aload_n 0, 1) := by decide +kernel
theorem twd_tl_level_18 : decode prog_1_method_12_code 18 = .ok (.getfield 19, 3) := by decide +kernel
theorem twd_tl_level_21 : decode prog_1_method_12_code 21 = .ok (.getfield 85, 3) := by decide +kernel
theorem twd_tl_level_24 : decode prog_1_method_12_code 24 = .ok (.iload_n 1, 1) := by decide +kernel
theorem twd_tl_level_25 : decode prog_1_method_12_code 25 = .ok (.iaload, 1) := by decide +kernel
theorem twd_tl_level_26 : decode prog_1_method_12_code 26 = .ok (.ireturn, 1) := by decide +kernel
theorem twk_tl_level : tw_dc twy_tl_level 1 := ⟨by decide +kernel, by decide +kernel, by decide +kernel⟩
theorem twd_tl_mayBreak_0 : decode prog_1_method_13_code 0 = .ok (.aload_n 0, 1) := by decide +kernel
theorem twd_tl_mayBreak_1 : decode prog_1_method_13_code 1 = .ok (.getfield 10, 3) := by decide +kernel
theorem twd_tl_mayBreak_4 : decode prog_1_method_13_code 4 = .ok (.iload_n 1, 1) := by decide +kernel
theorem twd_tl_mayBreak_5 : decode prog_1_method_13_code 5 = .ok (.invokevirtual 65, 3) := by decide +kernel
theorem twd_tl_mayBreak_8 : decode prog_1_method_13_code 8 = .ok (.ifCond .ne 5, 3) := by decide +kernel
theorem twd_tl_mayBreak_11 : decode prog_1_method_13_code 11 = .ok (.iconst 0, 1) := by decide +kernel
theorem twd_tl_mayBreak_12 : decode prog_1_method_13_code 12 = .ok (.ireturn, 1) := by decide +kernel
theorem twd_tl_mayBreak_13 : decode prog_1_method_13_code 13 = .ok (.aload_n 0, 1) := by decide +kernel
theorem twd_tl_mayBreak_14 : decode prog_1_method_13_code 14 = .ok (.invokevirtual 59, 3) := by decide +kernel
theorem twd_tl_mayBreak_17 : decode prog_1_method_13_code 17 = .ok (.aload_n 0, 1) := by decide +kernel
theorem twd_tl_mayBreak_18 : decode prog_1_method_13_code 18 = .ok (.getfield 26, 3) := by decide +kernel
theorem twd_tl_mayBreak_21 : decode prog_1_method_13_code 21 = .ok (.getfield 88, 3) := by decide +kernel
theorem twd_tl_mayBreak_24 : decode prog_1_method_13_code 24 = .ok (.iload_n 1, 1) := by decide +kernel
theorem twd_tl_mayBreak_25 : decode prog_1_method_13_code 25 = .ok (.baload, 1) := by decide +kernel
theorem twd_tl_mayBreak_26 : decode prog_1_method_13_code 26 = .ok (.ireturn, 1) := by decide +kernel
theorem twk_tl_mayBreak : tw_dc twy_tl_mayBreak 1 := ⟨by decide +kernel, by decide +kernel, by decide +kernel⟩
theorem twd_tl_lines_0 : decode prog_1_method_14_code 0 = .ok (.aload_n 0, 1) := by decide +kernel
theorem twd_tl_lines_1 : decode prog_1_method_14_code 1 = .ok (.invokevirtual 59, 3) := by decide +kernel
theorem twd_tl_lines_4 : decode prog_1_method_14_code 4 = .ok (.aload_n 0, 1) := by decide +kernel
theorem twd_tl_lines_5 : decode prog_1_method_14_code 5 = .ok (.getfield 26, 3) := by decide +kernel
theorem twd_tl_lines_8 : decode prog_1_method_14_code 8 = .ok (.getfield 92, 3) := by decide +kernel
theorem twd_tl_lines_11 : decode prog_1_method_14_code 11 = .ok (.ireturn, 1) := by decide +kernel
theorem twk_tl_lines : tw_dc twy_tl_lines 0 := ⟨by decide +kernel, by decide +kernel, by decide +kernel⟩
theorem twd_tl_start_0 : decode prog_1_method_15_code 0 = .ok (.aload_n 0, 1) := by decide +kernel
theorem twd_tl_start_1 : decode prog_1_method_15_code 1 = .ok (.invokevirtual 59, 3) := by decide +kernel
theorem twd_tl_start_4 : decode prog_1_method_15_code 4 = .ok (.iload_n 1, 1) := by decide +kernel
theorem twd_tl_start_5 : decode prog_1_method_15_code 5 = .ok (.iconst 0, 1) := by decide +kernel
theorem twd_tl_start_6 : decode prog_1_method_15_code 6 = .ok (.aload_n 0, 1) := by decide +kernel
theorem twd_tl_start_7 : decode prog_1_method_15_code 7 = .ok (.getfield 26, 3) := by decide +kernel
theorem twd_tl_start_10 : decode prog_1_method_15_code 10 = .ok (.getfield 92, 3) := by decide +kernel
theorem twd_tl_start_13 : decode prog_1_method_15_code 13 = .ok (.invokestatic 45, 3) := by decide +kernel
theorem twd_tl_start_16 : decode prog_1_method_15_code 16 = .ok (.ifCond .eq 15, 3) := by decide +kernel
theorem twd_tl_start_19 : decode prog_1_method_15_code 19 = .ok (.aload_n 0, 1) := by decide +kernel
theorem twd_tl_start_20 : decode prog_1_method_15_code 20 = .ok (.getfield 26, 3) := by decide +kernel
theorem twd_tl_start_23 : decode prog_1_method_15_code 23 = .ok (.getfield 95, 3) := by decide +kernel
theorem twd_tl_start_26 : decode prog_1_method_15_code 26 = .ok (.iload_n 1, 1) := by decide +kernel
theorem twd_tl_start_27 : decode prog_1_method_15_code 27 = .ok (.iaload, 1) := by decide +kernel
theorem twd_tl_start_28 : decode prog_1_method_15_code 28 = .ok (.goto 4, 3) := by decide +kernel
theorem twd_tl_start_31 : decode prog_1_method_15_code 31 = .ok (.iconst (-1), 1) := by decide +kernel
theorem twd_tl_start_32 : decode prog_1_method_15_code 32 = .ok (.ireturn, 1) := by decide +kernel
theorem twk_tl_start : tw_dc twy_tl_start 1 := ⟨by decide +kernel, by decide +kernel, by decide +kernel⟩
theorem twd_fi_has_0 : decode prog_4_method_2_code 0 = .ok (.iload_n 1, 1) := by decide +kernel
theorem twd_fi_has_1 : decode prog_4_method_2_code 1 = .ok (.ifCond .lt 15, 3) := by decide +kernel
theorem twd_fi_has_4 : decode prog_4_method_2_code 4 = .ok (.iload_n 1, 1) := by decide +kernel
theorem twd_fi_has_5 : decode prog_4_method_2_code 5 = .ok (.aload_n 0, 1) := by decide +kernel
theorem twd_fi_has_6 : decode prog_4_method_2_code 6 = .ok (.getfield 22, 3) := by decide +kernel
theorem twd_fi_has_9 : decode prog_4_method_2_code 9 = .ok (.if_icmp .ge 7, 3) := by decide +kernel
theorem twd_fi_has_12 : decode prog_4_method_2_code 12 = .ok (.iconst 1, 1) := by decide +kernel
theorem twd_fi_has_13 : decode prog_4_method_2_code 13 = .ok (.goto 4, 3) := by decide +kernel
theorem twd_fi_has_16 : decode prog_4_method_2_code 16 = .ok (.iconst 0, 1) := by decide +kernel
theorem twd_fi_has_17 : decode prog_4_method_2_code 17 = .ok (.ireturn, 1) := by decide +kernel
theorem twk_fi_has : tw_dc twy_fi_has 1 := ⟨by decide +kernel, by decide +kernel, by decide +kernel⟩
theorem twd_tl_extent_0 : decode prog_1_method_16_code 0 = .ok (.aload_n 0, 1) := by decide +kernel
theorem twd_tl_extent_1 : decode prog_1_method_16_code 1 = .ok (.invokevirtual 59, 3) := by decide +kernel
theorem twd_tl_extent_4 : decode prog_1_method_16_code 4 = .ok (.aload_n 0, 1) := by decide +kernel
theorem twd_tl_extent_5 : decode prog_1_method_16_code 5 = .ok (.getfield 26, 3) := by decide +kernel
theorem twd_tl_extent_8 : decode prog_1_method_16_code 8 = .ok (.iload_n 1, 1) := by decide +kernel
theorem twd_tl_extent_9 : decode prog_1_method_16_code 9 = .ok (.invokevirtual 98, 3) := by decide +kernel
theorem twd_tl_extent_12 : decode prog_1_method_16_code 12 = .ok (.ifCond .eq 15, 3) := by decide +kernel
theorem twd_tl_extent_15 : decode prog_1_method_16_code 15 = .ok (.aload_n 0, 1) := by decide +kernel
theorem twd_tl_extent_16 : decode prog_1_method_16_code 16 = .ok (.getfield 26, 3) := by decide +kernel
theorem twd_tl_extent_19 : decode prog_1_method_16_code 19 = .ok (.getfield 99, 3) := by decide +kernel
theorem twd_tl_extent_22 : decode prog_1_method_16_code 22 = .ok (.iload_n 1, 1) := by decide +kernel
theorem twd_tl_extent_23 : decode prog_1_method_16_code 23 = .ok (.iaload, 1) := by decide +kernel
theorem twd_tl_extent_24 : decode prog_1_method_16_code 24 = .ok (.goto 4, 3) := by decide +kernel
theorem twd_tl_extent_27 : decode prog_1_method_16_code 27 = .ok (.iconst (-1), 1) := by decide +kernel
theorem twd_tl_extent_28 : decode prog_1_method_16_code 28 = .ok (.ireturn, 1) := by decide +kernel
theorem twk_tl_extent : tw_dc twy_tl_extent 1 := ⟨by decide +kernel, by decide +kernel, by decide +kernel⟩
theorem twd_tl_shownLevel_0 : decode prog_1_method_17_code 0 = .ok (.aload_n 0, 1) := by decide +kernel
theorem twd_tl_shownLevel_1 : decode prog_1_method_17_code 1 = .ok (.getfield 10, 3) := by decide +kernel
theorem twd_tl_shownLevel_4 : decode prog_1_method_17_code 4 = .ok (.iload_n 1, 1) := by decide +kernel
theorem twd_tl_shownLevel_5 : decode prog_1_method_17_code 5 = .ok (.invokevirtual 65, 3) := by decide +kernel
theorem twd_tl_shownLevel_8 : decode prog_1_method_17_code 8 = .ok (.ifCond .ne 5, 3) := by decide +kernel
theorem twd_tl_shownLevel_11 : decode prog_1_method_17_code 11 = .ok (.iconst (-1), 1) := by decide +kernel
theorem twd_tl_shownLevel_12 : decode prog_1_method_17_code 12 = .ok (.ireturn, 1) := by decide +kernel
theorem twd_tl_shownLevel_13 : decode prog_1_method_17_code 13 = .ok (.aload_n 0, 1) := by decide +kernel
theorem twd_tl_shownLevel_14 : decode prog_1_method_17_code 14 = .ok (.invokevirtual 59, 3) := by decide +kernel
theorem twd_tl_shownLevel_17 : decode prog_1_method_17_code 17 = .ok (.aload_n 0, 1) := by decide +kernel
theorem twd_tl_shownLevel_18 : decode prog_1_method_17_code 18 = .ok (.getfield 33, 3) := by decide +kernel
theorem twd_tl_shownLevel_21 : decode prog_1_method_17_code 21 = .ok (.getfield 102, 3) := by decide +kernel
theorem twd_tl_shownLevel_24 : decode prog_1_method_17_code 24 = .ok (.iload_n 1, 1) := by decide +kernel
theorem twd_tl_shownLevel_25 : decode prog_1_method_17_code 25 = .ok (.iaload, 1) := by decide +kernel
theorem twd_tl_shownLevel_26 : decode prog_1_method_17_code 26 = .ok (.ireturn, 1) := by decide +kernel
theorem twk_tl_shownLevel : tw_dc twy_tl_shownLevel 1 := ⟨by decide +kernel, by decide +kernel, by decide +kernel⟩
theorem twd_tl_shown_0 : decode prog_1_method_18_code 0 = .ok (.aload_n 0, 1) := by decide +kernel
theorem twd_tl_shown_1 : decode prog_1_method_18_code 1 = .ok (.invokevirtual 59, 3) := by decide +kernel
theorem twd_tl_shown_4 : decode prog_1_method_18_code 4 = .ok (.aload_n 0, 1) := by decide +kernel
theorem twd_tl_shown_5 : decode prog_1_method_18_code 5 = .ok (.getfield 26, 3) := by decide +kernel
theorem twd_tl_shown_8 : decode prog_1_method_18_code 8 = .ok (.iload_n 1, 1) := by decide +kernel
theorem twd_tl_shown_9 : decode prog_1_method_18_code 9 = .ok (.invokevirtual 98, 3) := by decide +kernel
theorem twd_tl_shown_12 : decode prog_1_method_18_code 12 = .ok (.ifCond .ne 5, 3) := by decide +kernel
theorem twd_tl_shown_15 : decode prog_1_method_18_code 15 = .ok (.iconst (-1), 1) := by decide +kernel
theorem twd_tl_shown_16 : decode prog_1_method_18_code 16 = .ok (.ireturn, 1) := by decide +kernel
theorem twd_tl_shown_17 : decode prog_1_method_18_code 17 = .ok (.aload_n 0, 1) := by decide +kernel
theorem twd_tl_shown_18 : decode prog_1_method_18_code 18 = .ok (.getfield 26, 3) := by decide +kernel
theorem twd_tl_shown_21 : decode prog_1_method_18_code 21 = .ok (.getfield 95, 3) := by decide +kernel
theorem twd_tl_shown_24 : decode prog_1_method_18_code 24 = .ok (.iload_n 1, 1) := by decide +kernel
theorem twd_tl_shown_25 : decode prog_1_method_18_code 25 = .ok (.iaload, 1) := by decide +kernel
theorem twd_tl_shown_26 : decode prog_1_method_18_code 26 = .ok (.istore_n 3, 1) := by decide +kernel
theorem twd_tl_shown_27 : decode prog_1_method_18_code 27 = .ok (.aload_n 0, 1) := by decide +kernel
theorem twd_tl_shown_28 : decode prog_1_method_18_code 28 = .ok (.getfield 26, 3) := by decide +kernel
theorem twd_tl_shown_31 : decode prog_1_method_18_code 31 = .ok (.getfield 95, 3) := by decide +kernel
theorem twd_tl_shown_34 : decode prog_1_method_18_code 34 = .ok (.iload_n 1, 1) := by decide +kernel
theorem twd_tl_shown_35 : decode prog_1_method_18_code 35 = .ok (.iconst 1, 1) := by decide +kernel
theorem twd_tl_shown_36 : decode prog_1_method_18_code 36 = .ok (.iadd, 1) := by decide +kernel
theorem twd_tl_shown_37 : decode prog_1_method_18_code 37 = .ok (.iaload, 1) := by decide +kernel
theorem twd_tl_shown_38 : decode prog_1_method_18_code 38 = .ok (.iload_n 3, 1) := by decide +kernel
theorem twd_tl_shown_39 : decode prog_1_method_18_code 39 = .ok (.isub, 1) := by decide +kernel
theorem twd_tl_shown_40 : decode prog_1_method_18_code 40 = .ok (.istore 4, 2) := by decide +kernel
theorem twd_tl_shown_42 : decode prog_1_method_18_code 42 = .ok (.iload_n 2, 1) := by decide +kernel
theorem twd_tl_shown_43 : decode prog_1_method_18_code 43 = .ok (.iconst 0, 1) := by decide +kernel
theorem twd_tl_shown_44 : decode prog_1_method_18_code 44 = .ok (.iload 4, 2) := by decide +kernel
theorem twd_tl_shown_46 : decode prog_1_method_18_code 46 = .ok (.iconst 1, 1) := by decide +kernel
theorem twd_tl_shown_47 : decode prog_1_method_18_code 47 = .ok (.isub, 1) := by decide +kernel
theorem twd_tl_shown_48 : decode prog_1_method_18_code 48 = .ok (.invokestatic 45, 3) := by decide +kernel
theorem twd_tl_shown_51 : decode prog_1_method_18_code 51 = .ok (.ifCond .eq 17, 3) := by decide +kernel
theorem twd_tl_shown_54 : decode prog_1_method_18_code 54 = .ok (.aload_n 0, 1) := by decide +kernel
theorem twd_tl_shown_55 : decode prog_1_method_18_code 55 = .ok (.getfield 33, 3) := by decide +kernel
theorem twd_tl_shown_58 : decode prog_1_method_18_code 58 = .ok (.getfield 104, 3) := by decide +kernel
theorem twd_tl_shown_61 : decode prog_1_method_18_code 61 = .ok (.iload_n 3, 1) := by decide +kernel
theorem twd_tl_shown_62 : decode prog_1_method_18_code 62 = .ok (.iload_n 2, 1) := by decide +kernel
theorem twd_tl_shown_63 : decode prog_1_method_18_code 63 = .ok (.iadd, 1) := by decide +kernel
theorem twd_tl_shown_64 : decode prog_1_method_18_code 64 = .ok (.iaload, 1) := by decide +kernel
theorem twd_tl_shown_65 : decode prog_1_method_18_code 65 = .ok (.goto 4, 3) := by decide +kernel
theorem twd_tl_shown_68 : decode prog_1_method_18_code 68 = .ok (.iconst (-1), 1) := by decide +kernel
theorem twd_tl_shown_69 : decode prog_1_method_18_code 69 = .ok (.ireturn, 1) := by decide +kernel
theorem twk_tl_shown : tw_dc twy_tl_shown 2 := ⟨by decide +kernel, by decide +kernel, by decide +kernel⟩
theorem twd_tl_mirrored_0 : decode prog_1_method_19_code 0 = .ok (.aload_n 0, 1) := by decide +kernel
theorem twd_tl_mirrored_1 : decode prog_1_method_19_code 1 = .ok (.getfield 10, 3) := by decide +kernel
theorem twd_tl_mirrored_4 : decode prog_1_method_19_code 4 = .ok (.iload_n 1, 1) := by decide +kernel
theorem twd_tl_mirrored_5 : decode prog_1_method_19_code 5 = .ok (.invokevirtual 65, 3) := by decide +kernel
theorem twd_tl_mirrored_8 : decode prog_1_method_19_code 8 = .ok (.ifCond .ne 5, 3) := by decide +kernel
theorem twd_tl_mirrored_11 : decode prog_1_method_19_code 11 = .ok (.iconst 0, 1) := by decide +kernel
theorem twd_tl_mirrored_12 : decode prog_1_method_19_code 12 = .ok (.ireturn, 1) := by decide +kernel
theorem twd_tl_mirrored_13 : decode prog_1_method_19_code 13 = .ok (.aload_n 0, 1) := by decide +kernel
theorem twd_tl_mirrored_14 : decode prog_1_method_19_code 14 = .ok (.invokevirtual 59, 3) := by decide +kernel
theorem twd_tl_mirrored_17 : decode prog_1_method_19_code 17 = .ok (.aload_n 0, 1) := by decide +kernel
theorem twd_tl_mirrored_18 : decode prog_1_method_19_code 18 = .ok (.getfield 10, 3) := by decide +kernel
theorem twd_tl_mirrored_21 : decode prog_1_method_19_code 21 = .ok (.getfield 107, 3) := by decide +kernel
theorem twd_tl_mirrored_24 : decode prog_1_method_19_code 24 = .ok (.iload_n 1, 1) := by decide +kernel
theorem twd_tl_mirrored_25 : decode prog_1_method_19_code 25 = .ok (.iaload, 1) := by decide +kernel
theorem twd_tl_mirrored_26 : decode prog_1_method_19_code 26 = .ok (.ifCond .eq 22, 3) := by decide +kernel
theorem twd_tl_mirrored_29 : decode prog_1_method_19_code 29 = .ok (.aload_n 0, 1) := by decide +kernel
theorem twd_tl_mirrored_30 : decode prog_1_method_19_code 30 = .ok (.getfield 33, 3) := by decide +kernel
theorem twd_tl_mirrored_33 : decode prog_1_method_19_code 33 = .ok (.getfield 102, 3) := by decide +kernel
theorem twd_tl_mirrored_36 : decode prog_1_method_19_code 36 = .ok (.iload_n 1, 1) := by decide +kernel
theorem twd_tl_mirrored_37 : decode prog_1_method_19_code 37 = .ok (.iaload, 1) := by decide +kernel
theorem twd_tl_mirrored_38 : decode prog_1_method_19_code 38 = .ok (.invokestatic 110, 3) := by decide +kernel
theorem twd_tl_mirrored_41 : decode prog_1_method_19_code 41 = .ok (.ifCond .eq 7, 3) := by decide +kernel
theorem twd_tl_mirrored_44 : decode prog_1_method_19_code 44 = .ok (.iconst 1, 1) := by decide +kernel
theorem twd_tl_mirrored_45 : decode prog_1_method_19_code 45 = .ok (.goto 4, 3) := by decide +kernel
theorem twd_tl_mirrored_48 : decode prog_1_method_19_code 48 = .ok (.iconst 0, 1) := by decide +kernel
theorem twd_tl_mirrored_49 : decode prog_1_method_19_code 49 = .ok (.ireturn, 1) := by decide +kernel
theorem twk_tl_mirrored : tw_dc twy_tl_mirrored 1 := ⟨by decide +kernel, by decide +kernel, by decide +kernel⟩
end
section
theorem twd_mo_add_0 : decode prog_11_method_2_code 0 = .ok (.aload_n 0, 1) := by decide +kernel
theorem twd_mo_add_1 : decode prog_11_method_2_code 1 = .ok (.getfield 69, 3) := by decide +kernel
theorem twd_mo_add_4 : decode prog_11_method_2_code 4 = .ok (.bipush 64, 2) := by decide +kernel
theorem twd_mo_add_6 : decode prog_11_method_2_code 6 = .ok (.if_icmp .eq 45, 3) := by decide +kernel
theorem twd_mo_add_9 : decode prog_11_method_2_code 9 = .ok (.iload_n 1, 1) := by decide +kernel
theorem twd_mo_add_10 : decode prog_11_method_2_code 10 = .ok (.ifCond .lt 41, 3) := by decide +kernel
theorem twd_mo_add_13 : decode prog_11_method_2_code 13 = .ok (.iload_n 1, 1) := by decide +kernel
theorem twd_mo_add_14 : decode prog_11_method_2_code 14 = .ok (.bipush 20, 2) := by decide +kernel
theorem twd_mo_add_16 : decode prog_11_method_2_code 16 = .ok (.if_icmp .gt 35, 3) := by decide +kernel
theorem twd_mo_add_19 : decode prog_11_method_2_code 19 = .ok (.iload_n 2, 1) := by decide +kernel
theorem twd_mo_add_20 : decode prog_11_method_2_code 20 = .ok (.ifCond .lt 31, 3) := by decide +kernel
theorem twd_mo_add_23 : decode prog_11_method_2_code 23 = .ok (.iload_n 2, 1) := by decide +kernel
theorem twd_mo_add_24 : decode prog_11_method_2_code 24 = .ok (.bipush 6, 2) := by decide +kernel
theorem twd_mo_add_26 : decode prog_11_method_2_code 26 = .ok (.if_icmp .gt 25, 3) := by decide +kernel
theorem twd_mo_add_29 : decode prog_11_method_2_code 29 = .ok (.iload_n 3, 1) := by decide +kernel
theorem twd_mo_add_30 : decode prog_11_method_2_code 30 = .ok (.ifCond .lt 21, 3) := by decide +kernel
theorem twd_mo_add_33 : decode prog_11_method_2_code 33 = .ok (.iload_n 3, 1) := by decide +kernel
theorem twd_mo_add_34 : decode prog_11_method_2_code 34 = .ok (.iconst 3, 1) := by decide +kernel
theorem twd_mo_add_35 : decode prog_11_method_2_code 35 = .ok (.if_icmp .gt 16, 3) := by decide +kernel
theorem twd_mo_add_38 : decode prog_11_method_2_code 38 = .ok (.iload 4, 2) := by decide +kernel
theorem twd_mo_add_40 : decode prog_11_method_2_code 40 = .ok (.bipush (-3), 2) := by decide +kernel
theorem twd_mo_add_42 : decode prog_11_method_2_code 42 = .ok (.if_icmp .lt 9, 3) := by decide +kernel
theorem twd_mo_add_45 : decode prog_11_method_2_code 45 = .ok (.iload 4, 2) := by decide +kernel
theorem twd_mo_add_47 : decode prog_11_method_2_code 47 = .ok (.iconst 3, 1) := by decide +kernel
theorem twd_mo_add_48 : decode prog_11_method_2_code 48 = .ok (.if_icmp .le 5, 3) := by decide +kernel
theorem twd_mo_add_51 : decode prog_11_method_2_code 51 = .ok (.iconst 0, 1) := by decide +kernel
theorem twd_mo_add_52 : decode prog_11_method_2_code 52 = .ok (.ireturn, 1) := by decide +kernel
theorem twd_mo_add_53 : decode prog_11_method_2_code 53 = .ok (.aload_n 0, 1) := by decide +kernel
theorem twd_mo_add_54 : decode prog_11_method_2_code 54 = .ok (.getfield 16, 3) := by decide +kernel
theorem twd_mo_add_57 : decode prog_11_method_2_code 57 = .ok (.aload_n 0, 1) := by decide +kernel
theorem twd_mo_add_58 : decode prog_11_method_2_code 58 = .ok (.getfield 69, 3) := by decide +kernel
theorem twd_mo_add_61 : decode prog_11_method_2_code 61 = .ok (.iload_n 1, 1) := by decide +kernel
theorem twd_mo_add_62 : decode prog_11_method_2_code 62 = .ok (.iastore, 1) := by decide +kernel
theorem twd_mo_add_63 : decode prog_11_method_2_code 63 = .ok (.aload_n 0, 1) := by decide +kernel
theorem twd_mo_add_64 : decode prog_11_method_2_code 64 = .ok (.getfield 20, 3) := by decide +kernel
theorem twd_mo_add_67 : decode prog_11_method_2_code 67 = .ok (.aload_n 0, 1) := by decide +kernel
theorem twd_mo_add_68 : decode prog_11_method_2_code 68 = .ok (.getfield 69, 3) := by decide +kernel
theorem twd_mo_add_71 : decode prog_11_method_2_code 71 = .ok (.iload_n 2, 1) := by decide +kernel
theorem twd_mo_add_72 : decode prog_11_method_2_code 72 = .ok (.iastore, 1) := by decide +kernel
theorem twd_mo_add_73 : decode prog_11_method_2_code 73 = .ok (.aload_n 0, 1) := by decide +kernel
theorem twd_mo_add_74 : decode prog_11_method_2_code 74 = .ok (.getfield 23, 3) := by decide +kernel
theorem twd_mo_add_77 : decode prog_11_method_2_code 77 = .ok (.aload_n 0, 1) := by decide +kernel
theorem twd_mo_add_78 : decode prog_11_method_2_code 78 = .ok (.getfield 69, 3) := by decide +kernel
theorem twd_mo_add_81 : decode prog_11_method_2_code 81 = .ok (.iload_n 1, 1) := by decide +kernel
theorem twd_mo_add_82 : decode prog_11_method_2_code 82 = .ok (.bipush 12, 2) := by decide +kernel
theorem twd_mo_add_84 : decode prog_11_method_2_code 84 = .ok (.if_icmp .lt 7, 3) := by decide +kernel
theorem twd_mo_add_87 : decode prog_11_method_2_code 87 = .ok (.iconst 0, 1) := by decide +kernel
theorem twd_mo_add_88 : decode prog_11_method_2_code 88 = .ok (.goto 4, 3) := by decide +kernel
theorem twd_mo_add_91 : decode prog_11_method_2_code 91 = .ok (.iload_n 3, 1) := by decide +kernel
theorem twd_mo_add_92 : decode prog_11_method_2_code 92 = .ok (.iastore, 1) := by decide +kernel
theorem twd_mo_add_93 : decode prog_11_method_2_code 93 = .ok (.aload_n 0, 1) := by decide +kernel
theorem twd_mo_add_94 : decode prog_11_method_2_code 94 = .ok (.getfield 26, 3) := by decide +kernel
theorem twd_mo_add_97 : decode prog_11_method_2_code 97 = .ok (.aload_n 0, 1) := by decide +kernel
theorem twd_mo_add_98 : decode prog_11_method_2_code 98 = .ok (.getfield 69, 3) := by decide +kernel
theorem twd_mo_add_101 : decode prog_11_method_2_code 101 = .ok (.iload_n 1, 1) := by decide +kernel
theorem twd_mo_add_102 : decode prog_11_method_2_code 102 = .ok (.bipush 11, 2) := by decide +kernel
theorem twd_mo_add_104 : decode prog_11_method_2_code 104 = .ok (.if_icmp .ne 8, 3) := by decide +kernel
theorem twd_mo_add_107 : decode prog_11_method_2_code 107 = .ok (.iload 4, 2) := by decide +kernel
theorem twd_mo_add_109 : decode prog_11_method_2_code 109 = .ok (.goto 4, 3) := by decide +kernel
theorem twd_mo_add_112 : decode prog_11_method_2_code 112 = .ok (.iconst 0, 1) := by decide +kernel
theorem twd_mo_add_113 : decode prog_11_method_2_code 113 = .ok (.iastore, 1) := by decide +kernel
theorem twd_mo_add_114 : decode prog_11_method_2_code 114 = .ok (.aload_n 0, 1) := by decide +kernel
theorem twd_mo_add_115 : decode prog_11_method_2_code 115 = .ok (.dup, 1) := by decide +kernel
theorem twd_mo_add_116 : decode prog_11_method_2_code 116 = .ok (.getfield 69, 3) := by decide +kernel
theorem twd_mo_add_119 : decode prog_11_method_2_code 119 = .ok (.iconst 1, 1) := by decide +kernel
theorem twd_mo_add_120 : decode prog_11_method_2_code 120 = .ok (.iadd, 1) := by decide +kernel
theorem twd_mo_add_121 : decode prog_11_method_2_code 121 = .ok (.putfield 69, 3) := by decide +kernel
theorem twd_mo_add_124 : decode prog_11_method_2_code 124 = .ok (.aload_n 0, 1) := by decide +kernel
theorem twd_mo_add_125 : decode prog_11_method_2_code 125 = .ok (.iconst 0, 1) := by decide +kernel
theorem twd_mo_add_126 : decode prog_11_method_2_code 126 = .ok (.putfield 72, 3) := by decide +kernel
theorem twd_mo_add_129 : decode prog_11_method_2_code 129 = .ok (.iconst 1, 1) := by decide +kernel
theorem twd_mo_add_130 : decode prog_11_method_2_code 130 = .ok (.ireturn, 1) := by decide +kernel
theorem twk_mo_add : tw_dc twy_mo_add 4 := ⟨by decide +kernel, by decide +kernel, by decide +kernel⟩
theorem twd_mo_drop_0 : decode prog_11_method_3_code 0 = .ok (.aload_n 0, 1) := by decide +kernel
theorem twd_mo_drop_1 : decode prog_11_method_3_code 1 = .ok (.iconst 0, 1) := by decide +kernel
theorem twd_mo_drop_2 : decode prog_11_method_3_code 2 = .ok (.putfield 72, 3) := by decide +kernel
theorem twd_mo_drop_5 : decode prog_11_method_3_code 5 = .ok (.aload_n 0, 1) := by decide +kernel
theorem twd_mo_drop_6 : decode prog_11_method_3_code 6 = .ok (.getfield 69, 3) := by decide +kernel
theorem twd_mo_drop_9 : decode prog_11_method_3_code 9 = .ok (.ifCond .le 7, 3) := by decide +kernel
theorem twd_mo_drop_12 : decode prog_11_method_3_code 12 = .ok (.iconst 1, 1) := by decide +kernel
theorem twd_mo_drop_13 : decode prog_11_method_3_code 13 = .ok (.goto 4, 3) := by decide +kernel
theorem twd_mo_drop_16 : decode prog_11_method_3_code 16 = .ok (.iconst 0, 1) := by decide +kernel
theorem twd_mo_drop_17 : decode prog_11_method_3_code 17 = .ok (.istore_n 1, 1) := by decide +kernel
theorem twd_mo_drop_18 : decode prog_11_method_3_code 18 = .ok (.aload_n 0, 1) := by decide +kernel
theorem twd_mo_drop_19 : decode prog_11_method_3_code 19 = .ok (.iload_n 1, 1) := by decide +kernel
theorem twd_mo_drop_20 : decode prog_11_method_3_code 20 = .ok (.ifCond .eq 12, 3) := by decide +kernel
theorem twd_mo_drop_23 : decode prog_11_method_3_code 23 = .ok (.aload_n 0, 1) := by decide +kernel
theorem twd_mo_drop_24 : decode prog_11_method_3_code 24 = .ok (.getfield 69, 3) := by decide +kernel
theorem twd_mo_drop_27 : decode prog_11_method_3_code 27 = .ok (.iconst 1, 1) := by decide +kernel
theorem twd_mo_drop_28 : decode prog_11_method_3_code 28 = .ok (.isub, 1) := by decide +kernel
theorem twd_mo_drop_29 : decode prog_11_method_3_code 29 = .ok (.goto 4, 3) := by decide +kernel
theorem twd_mo_drop_32 : decode prog_11_method_3_code 32 = .ok (.iconst 0, 1) := by decide +kernel
theorem twd_mo_drop_33 : decode prog_11_method_3_code 33 = .ok (.putfield 69, 3) := by decide +kernel
theorem twd_mo_drop_36 : decode prog_11_method_3_code 36 = .ok (.iload_n 1, 1) := by decide +kernel
theorem twd_mo_drop_37 : decode prog_11_method_3_code 37 = .ok (.ireturn, 1) := by decide +kernel
theorem twk_mo_drop : tw_dc twy_mo_drop 0 := ⟨by decide +kernel, by decide +kernel, by decide +kernel⟩
theorem twd_mo_clear_0 : decode prog_11_method_4_code 0 = .ok (.aload_n 0, 1) := by decide +kernel
theorem twd_mo_clear_1 : decode prog_11_method_4_code 1 = .ok (.iconst 0, 1) := by decide +kernel
theorem twd_mo_clear_2 : decode prog_11_method_4_code 2 = .ok (.putfield 69, 3) := by decide +kernel
theorem twd_mo_clear_5 : decode prog_11_method_4_code 5 = .ok (.aload_n 0, 1) := by decide +kernel
theorem twd_mo_clear_6 : decode prog_11_method_4_code 6 = .ok (.iconst 0, 1) := by decide +kernel
theorem twd_mo_clear_7 : decode prog_11_method_4_code 7 = .ok (.putfield 72, 3) := by decide +kernel
theorem twd_mo_clear_10 : decode prog_11_method_4_code 10 = .ok (.return_, 1) := by decide +kernel
theorem twk_mo_clear : tw_dc twy_mo_clear 0 := ⟨by decide +kernel, by decide +kernel, by decide +kernel⟩
theorem twd_mo_base_0 : decode prog_11_method_5_code 0 = .ok (.iload_n 1, 1) := by decide +kernel
theorem twd_mo_base_1 : decode prog_11_method_5_code 1 = .ok (.ifCond .lt 8, 3) := by decide +kernel
theorem twd_mo_base_4 : decode prog_11_method_5_code 4 = .ok (.iload_n 1, 1) := by decide +kernel
theorem twd_mo_base_5 : decode prog_11_method_5_code 5 = .ok (.iconst 2, 1) := by decide +kernel
theorem twd_mo_base_6 : decode prog_11_method_5_code 6 = .ok (.if_icmp .le 5, 3) := by decide +kernel
theorem twd_mo_base_9 : decode prog_11_method_5_code 9 = .ok (.iconst 0, 1) := by decide +kernel
theorem twd_mo_base_10 : decode prog_11_method_5_code 10 = .ok (.ireturn, 1) := by decide +kernel
theorem twd_mo_base_11 : decode prog_11_method_5_code 11 = .ok (.aload_n 0, 1) := by decide +kernel
theorem twd_mo_base_12 : decode prog_11_method_5_code 12 = .ok (.iload_n 1, 1) := by decide +kernel
theorem twd_mo_base_13 : decode prog_11_method_5_code 13 = .ok (.putfield 7, 3) := by decide +kernel
theorem twd_mo_base_16 : decode prog_11_method_5_code 16 = .ok (.aload_n 0, 1) := by decide +kernel
theorem twd_mo_base_17 : decode prog_11_method_5_code 17 = .ok (.iconst 0, 1) := by decide +kernel
theorem twd_mo_base_18 : decode prog_11_method_5_code 18 = .ok (.putfield 72, 3) := by decide +kernel
theorem twd_mo_base_21 : decode prog_11_method_5_code 21 = .ok (.iconst 1, 1) := by decide +kernel
theorem twd_mo_base_22 : decode prog_11_method_5_code 22 = .ok (.ireturn, 1) := by decide +kernel
theorem twk_mo_base : tw_dc twy_mo_base 1 := ⟨by decide +kernel, by decide +kernel, by decide +kernel⟩
theorem twd_mo_measure_0 : decode prog_11_method_6_code 0 = .ok (.iload_n 1, 1) := by decide +kernel
theorem twd_mo_measure_1 : decode prog_11_method_6_code 1 = .ok (.iconst 1, 1) := by decide +kernel
theorem twd_mo_measure_2 : decode prog_11_method_6_code 2 = .ok (.if_icmp .lt 9, 3) := by decide +kernel
theorem twd_mo_measure_5 : decode prog_11_method_6_code 5 = .ok (.iload_n 1, 1) := by decide +kernel
theorem twd_mo_measure_6 : decode prog_11_method_6_code 6 = .ok (.bipush 100, 2) := by decide +kernel
theorem twd_mo_measure_8 : decode prog_11_method_6_code 8 = .ok (.if_icmp .le 5, 3) := by decide +kernel
theorem twd_mo_measure_11 : decode prog_11_method_6_code 11 = .ok (.iconst 0, 1) := by decide +kernel
theorem twd_mo_measure_12 : decode prog_11_method_6_code 12 = .ok (.ireturn, 1) := by decide +kernel
theorem twd_mo_measure_13 : decode prog_11_method_6_code 13 = .ok (.aload_n 0, 1) := by decide +kernel
theorem twd_mo_measure_14 : decode prog_11_method_6_code 14 = .ok (.iload_n 1, 1) := by decide +kernel
theorem twd_mo_measure_15 : decode prog_11_method_6_code 15 = .ok (.putfield 13, 3) := by decide +kernel
theorem twd_mo_measure_18 : decode prog_11_method_6_code 18 = .ok (.aload_n 0, 1) := by decide +kernel
theorem twd_mo_measure_19 : decode prog_11_method_6_code 19 = .ok (.iconst 0, 1) := by decide +kernel
theorem twd_mo_measure_20 : decode prog_11_method_6_code 20 = .ok (.putfield 72, 3) := by decide +kernel
theorem twd_mo_measure_23 : decode prog_11_method_6_code 23 = .ok (.iconst 1, 1) := by decide +kernel
theorem twd_mo_measure_24 : decode prog_11_method_6_code 24 = .ok (.ireturn, 1) := by decide +kernel
theorem twk_mo_measure : tw_dc twy_mo_measure 1 := ⟨by decide +kernel, by decide +kernel, by decide +kernel⟩
theorem twd_mo_length_0 : decode prog_11_method_7_code 0 = .ok (.aload_n 0, 1) := by decide +kernel
theorem twd_mo_length_1 : decode prog_11_method_7_code 1 = .ok (.getfield 69, 3) := by decide +kernel
theorem twd_mo_length_4 : decode prog_11_method_7_code 4 = .ok (.ireturn, 1) := by decide +kernel
theorem twk_mo_length : tw_dc twy_mo_length 0 := ⟨by decide +kernel, by decide +kernel, by decide +kernel⟩
theorem twd_mo_opener_0 : decode prog_11_method_8_code 0 = .ok (.aload_n 0, 1) := by decide +kernel
theorem twd_mo_opener_1 : decode prog_11_method_8_code 1 = .ok (.getfield 16, 3) := by decide +kernel
theorem twd_mo_opener_4 : decode prog_11_method_8_code 4 = .ok (.iload_n 1, 1) := by decide +kernel
theorem twd_mo_opener_5 : decode prog_11_method_8_code 5 = .ok (.iaload, 1) := by decide +kernel
theorem twd_mo_opener_6 : decode prog_11_method_8_code 6 = .ok (.bipush 17, 2) := by decide +kernel
theorem twd_mo_opener_8 : decode prog_11_method_8_code 8 = .ok (.if_icmp .lt 18, 3) := by decide +kernel
theorem twd_mo_opener_11 : decode prog_11_method_8_code 11 = .ok (.aload_n 0, 1) := by decide +kernel
theorem twd_mo_opener_12 : decode prog_11_method_8_code 12 = .ok (.getfield 16, 3) := by decide +kernel
theorem twd_mo_opener_15 : decode prog_11_method_8_code 15 = .ok (.iload_n 1, 1) := by decide +kernel
theorem twd_mo_opener_16 : decode prog_11_method_8_code 16 = .ok (.iaload, 1) := by decide +kernel
theorem twd_mo_opener_17 : decode prog_11_method_8_code 17 = .ok (.bipush 19, 2) := by decide +kernel
theorem twd_mo_opener_19 : decode prog_11_method_8_code 19 = .ok (.if_icmp .gt 7, 3) := by decide +kernel
theorem twd_mo_opener_22 : decode prog_11_method_8_code 22 = .ok (.iconst 1, 1) := by decide +kernel
theorem twd_mo_opener_23 : decode prog_11_method_8_code 23 = .ok (.goto 4, 3) := by decide +kernel
theorem twd_mo_opener_26 : decode prog_11_method_8_code 26 = .ok (.iconst 0, 1) := by decide +kernel
theorem twd_mo_opener_27 : decode prog_11_method_8_code 27 = .ok (.ireturn, 1) := by decide +kernel
theorem twk_mo_opener : tw_dc twy_mo_opener 1 := ⟨by decide +kernel, by decide +kernel, by decide +kernel⟩
theorem twd_mo_hidden_0 : decode prog_11_method_9_code 0 = .ok (.aload_n 0, 1) := by decide +kernel
theorem twd_mo_hidden_1 : decode prog_11_method_9_code 1 = .ok (.getfield 16, 3) := by decide +kernel
theorem twd_mo_hidden_4 : decode prog_11_method_9_code 4 = .ok (.iload_n 1, 1) := by decide +kernel
theorem twd_mo_hidden_5 : decode prog_11_method_9_code 5 = .ok (.iaload, 1) := by decide +kernel
theorem twd_mo_hidden_6 : decode prog_11_method_9_code 6 = .ok (.bipush 12, 2) := by decide +kernel
theorem twd_mo_hidden_8 : decode prog_11_method_9_code 8 = .ok (.if_icmp .lt 18, 3) := by decide +kernel
theorem twd_mo_hidden_11 : decode prog_11_method_9_code 11 = .ok (.aload_n 0, 1) := by decide +kernel
theorem twd_mo_hidden_12 : decode prog_11_method_9_code 12 = .ok (.getfield 16, 3) := by decide +kernel
theorem twd_mo_hidden_15 : decode prog_11_method_9_code 15 = .ok (.iload_n 1, 1) := by decide +kernel
theorem twd_mo_hidden_16 : decode prog_11_method_9_code 16 = .ok (.iaload, 1) := by decide +kernel
theorem twd_mo_hidden_17 : decode prog_11_method_9_code 17 = .ok (.bipush 16, 2) := by decide +kernel
theorem twd_mo_hidden_19 : decode prog_11_method_9_code 19 = .ok (.if_icmp .gt 7, 3) := by decide +kernel
theorem twd_mo_hidden_22 : decode prog_11_method_9_code 22 = .ok (.iconst 1, 1) := by decide +kernel
theorem twd_mo_hidden_23 : decode prog_11_method_9_code 23 = .ok (.goto 4, 3) := by decide +kernel
theorem twd_mo_hidden_26 : decode prog_11_method_9_code 26 = .ok (.iconst 0, 1) := by decide +kernel
theorem twd_mo_hidden_27 : decode prog_11_method_9_code 27 = .ok (.ireturn, 1) := by decide +kernel
theorem twk_mo_hidden : tw_dc twy_mo_hidden 1 := ⟨by decide +kernel, by decide +kernel, by decide +kernel⟩
theorem twd_mo_closing_0 : decode prog_11_method_10_code 0 = .ok (.iconst 0, 1) := by decide +kernel
theorem twd_mo_closing_1 : decode prog_11_method_10_code 1 = .ok (.istore_n 2, 1) := by decide +kernel
theorem twd_mo_closing_2 : decode prog_11_method_10_code 2 = .ok (.iload_n 1, 1) := by decide +kernel
theorem twd_mo_closing_3 : decode prog_11_method_10_code 3 = .ok (.iconst 1, 1) := by decide +kernel
theorem twd_mo_closing_4 : decode prog_11_method_10_code 4 = .ok (.iadd, 1) := by decide +kernel
theorem twd_mo_closing_5 : decode prog_11_method_10_code 5 = .ok (.istore_n 3, 1) := by decide +kernel
theorem twd_mo_closing_6 : decode prog_11_method_10_code 6 = .ok (.iload_n 3, 1) := by decide +kernel
theorem twd_mo_closing_7 : decode prog_11_method_10_code 7 = .ok (.aload_n 0, 1) := by decide +kernel
theorem twd_mo_closing_8 : decode prog_11_method_10_code 8 = .ok (.getfield 69, 3) := by decide +kernel
theorem twd_mo_closing_11 : decode prog_11_method_10_code 11 = .ok (.if_icmp .ge 57, 3) := by decide +kernel
theorem twd_mo_closing_14 : decode prog_11_method_10_code 14 = .ok (.aload_n 0, 1) := by decide +kernel
theorem twd_mo_closing_15 : decode prog_11_method_10_code 15 = .ok (.getfield 16, 3) := by decide +kernel
theorem twd_mo_closing_18 : decode prog_11_method_10_code 18 = .ok (.iload_n 3, 1) := by decide +kernel
theorem twd_mo_closing_19 : decode prog_11_method_10_code 19 = .ok (.iaload, 1) := by decide +kernel
theorem twd_mo_closing_20 : decode prog_11_method_10_code 20 = .ok (.bipush 20, 2) := by decide +kernel
theorem twd_mo_closing_22 : decode prog_11_method_10_code 22 = .ok (.if_icmp .ne 9, 3) := by decide +kernel
theorem twd_mo_closing_25 : decode prog_11_method_10_code 25 = .ok (.iload_n 2, 1) := by decide +kernel
theorem twd_mo_closing_26 : decode prog_11_method_10_code 26 = .ok (.ifCond .ne 5, 3) := by decide +kernel
theorem twd_mo_closing_29 : decode prog_11_method_10_code 29 = .ok (.iload_n 3, 1) := by decide +kernel
theorem twd_mo_closing_30 : decode prog_11_method_10_code 30 = .ok (.ireturn, 1) := by decide +kernel
theorem twd_mo_closing_31 : decode prog_11_method_10_code 31 = .ok (.iload_n 2, 1) := by decide +kernel
theorem twd_mo_closing_32 : decode prog_11_method_10_code 32 = .ok (.aload_n 0, 1) := by decide +kernel
theorem twd_mo_closing_33 : decode prog_11_method_10_code 33 = .ok (.getfield 16, 3) := by decide +kernel
theorem twd_mo_closing_36 : decode prog_11_method_10_code 36 = .ok (.iload_n 3, 1) := by decide +kernel
theorem twd_mo_closing_37 : decode prog_11_method_10_code 37 = .ok (.iaload, 1) := by decide +kernel
theorem twd_mo_closing_38 : decode prog_11_method_10_code 38 = .ok (.bipush 20, 2) := by decide +kernel
theorem twd_mo_closing_40 : decode prog_11_method_10_code 40 = .ok (.if_icmp .ne 7, 3) := by decide +kernel
theorem twd_mo_closing_43 : decode prog_11_method_10_code 43 = .ok (.iconst (-1), 1) := by decide +kernel
theorem twd_mo_closing_44 : decode prog_11_method_10_code 44 = .ok (.goto 16, 3) := by decide +kernel
theorem twd_mo_closing_47 : decode prog_11_method_10_code 47 = .ok (.aload_n 0, 1) := by decide +kernel
theorem twd_mo_closing_48 : decode prog_11_method_10_code 48 = .ok (.iload_n 3, 1) := by decide +kernel
theorem twd_mo_closing_49 : decode prog_11_method_10_code 49 = .ok (.invokevirtual 76, 3) := by decide +kernel
theorem twd_mo_closing_52 : decode prog_11_method_10_code 52 = .ok (.ifCond .eq 7, 3) := by decide +kernel
theorem twd_mo_closing_55 : decode prog_11_method_10_code 55 = .ok (.iconst 1, 1) := by decide +kernel
theorem twd_mo_closing_56 : decode prog_11_method_10_code 56 = .ok (.goto 4, 3) := by decide +kernel
theorem twd_mo_closing_59 : decode prog_11_method_10_code 59 = .ok (.iconst 0, 1) := by decide +kernel
theorem twd_mo_closing_60 : decode prog_11_method_10_code 60 = .ok (.iadd, 1) := by decide +kernel
theorem twd_mo_closing_61 : decode prog_11_method_10_code 61 = .ok (.istore_n 2, 1) := by decide +kernel
theorem twd_mo_closing_62 : decode prog_11_method_10_code 62 = .ok (.iinc 3 1, 3) := by decide +kernel
theorem twd_mo_closing_65 : decode prog_11_method_10_code 65 = .ok (.goto (-59), 3) := by decide +kernel
theorem twd_mo_closing_68 : decode prog_11_method_10_code 68 = .ok (.iconst (-1), 1) := by decide +kernel
theorem twd_mo_closing_69 : decode prog_11_method_10_code 69 = .ok (.ireturn, 1) := by decide +kernel
theorem twk_mo_closing : tw_dc twy_mo_closing 1 := ⟨by decide +kernel, by decide +kernel, by decide +kernel⟩
theorem twd_mo_match_0 : decode prog_11_method_11_code 0 = .ok (.iload_n 1, 1) := by decide +kernel
theorem twd_mo_match_1 : decode prog_11_method_11_code 1 = .ok (.ifCond .lt 11, 3) := by decide +kernel
theorem twd_mo_match_4 : decode prog_11_method_11_code 4 = .ok (.iload_n 1, 1) := by decide +kernel
theorem twd_mo_match_5 : decode prog_11_method_11_code 5 = .ok (.aload_n 0, 1) := by decide +kernel
theorem twd_mo_match_6 : decode prog_11_method_11_code 6 = .ok (.getfield 69, 3) := by decide +kernel
theorem twd_mo_match_9 : decode prog_11_method_11_code 9 = .ok (.if_icmp .lt 5, 3) := by decide +kernel
theorem twd_mo_match_12 : decode prog_11_method_11_code 12 = .ok (.iconst (-1), 1) := by decide +kernel
theorem twd_mo_match_13 : decode prog_11_method_11_code 13 = .ok (.ireturn, 1) := by decide +kernel
theorem twd_mo_match_14 : decode prog_11_method_11_code 14 = .ok (.aload_n 0, 1) := by decide +kernel
theorem twd_mo_match_15 : decode prog_11_method_11_code 15 = .ok (.iload_n 1, 1) := by decide +kernel
theorem twd_mo_match_16 : decode prog_11_method_11_code 16 = .ok (.invokevirtual 76, 3) := by decide +kernel
theorem twd_mo_match_19 : decode prog_11_method_11_code 19 = .ok (.ifCond .eq 9, 3) := by decide +kernel
theorem twd_mo_match_22 : decode prog_11_method_11_code 22 = .ok (.aload_n 0, 1) := by decide +kernel
theorem twd_mo_match_23 : decode prog_11_method_11_code 23 = .ok (.iload_n 1, 1) := by decide +kernel
theorem twd_mo_match_24 : decode prog_11_method_11_code 24 = .ok (.invokevirtual 80, 3) := by decide +kernel
theorem twd_mo_match_27 : decode prog_11_method_11_code 27 = .ok (.ireturn, 1) := by decide +kernel
theorem twd_mo_match_28 : decode prog_11_method_11_code 28 = .ok (.iconst 0, 1) := by decide +kernel
theorem twd_mo_match_29 : decode prog_11_method_11_code 29 = .ok (.istore_n 2, 1) := by decide +kernel
theorem twd_mo_match_30 : decode prog_11_method_11_code 30 = .ok (.iload_n 2, 1) := by decide +kernel
theorem twd_mo_match_31 : decode prog_11_method_11_code 31 = .ok (.iload_n 1, 1) := by decide +kernel
theorem twd_mo_match_32 : decode prog_11_method_11_code 32 = .ok (.if_icmp .ge 39, 3) := by decide +kernel
theorem twd_mo_match_35 : decode prog_11_method_11_code 35 = .ok (.aload_n 0, 1) := by decide +kernel
theorem twd_mo_match_36 : decode prog_11_method_11_code 36 = .ok (.getfield 16, 3) := by decide +kernel
theorem twd_mo_match_39 : decode prog_11_method_11_code 39 = .ok (.iload_n 1, 1) := by decide +kernel
theorem twd_mo_match_40 : decode prog_11_method_11_code 40 = .ok (.iaload, 1) := by decide +kernel
theorem twd_mo_match_41 : decode prog_11_method_11_code 41 = .ok (.bipush 20, 2) := by decide +kernel
theorem twd_mo_match_43 : decode prog_11_method_11_code 43 = .ok (.if_icmp .ne 28, 3) := by decide +kernel
theorem twd_mo_match_46 : decode prog_11_method_11_code 46 = .ok (.aload_n 0, 1) := by decide +kernel
theorem twd_mo_match_47 : decode prog_11_method_11_code 47 = .ok (.iload_n 2, 1) := by decide +kernel
theorem twd_mo_match_48 : decode prog_11_method_11_code 48 = .ok (.invokevirtual 76, 3) := by decide +kernel
theorem twd_mo_match_51 : decode prog_11_method_11_code 51 = .ok (.ifCond .eq 14, 3) := by decide +kernel
theorem twd_mo_match_54 : decode prog_11_method_11_code 54 = .ok (.aload_n 0, 1) := by decide +kernel
theorem twd_mo_match_55 : decode prog_11_method_11_code 55 = .ok (.iload_n 2, 1) := by decide +kernel
theorem twd_mo_match_56 : decode prog_11_method_11_code 56 = .ok (.invokevirtual 80, 3) := by decide +kernel
theorem twd_mo_match_59 : decode prog_11_method_11_code 59 = .ok (.iload_n 1, 1) := by decide +kernel
theorem twd_mo_match_60 : decode prog_11_method_11_code 60 = .ok (.if_icmp .ne 5, 3) := by decide +kernel
theorem twd_mo_match_63 : decode prog_11_method_11_code 63 = .ok (.iload_n 2, 1) := by decide +kernel
theorem twd_mo_match_64 : decode prog_11_method_11_code 64 = .ok (.ireturn, 1) := by decide +kernel
theorem twd_mo_match_65 : decode prog_11_method_11_code 65 = .ok (.iinc 2 1, 3) := by decide +kernel
theorem twd_mo_match_68 : decode prog_11_method_11_code 68 = .ok (.goto (-38), 3) := by decide +kernel
theorem twd_mo_match_71 : decode prog_11_method_11_code 71 = .ok (.iconst (-1), 1) := by decide +kernel
theorem twd_mo_match_72 : decode prog_11_method_11_code 72 = .ok (.ireturn, 1) := by decide +kernel
theorem twk_mo_match : tw_dc twy_mo_match 1 := ⟨by decide +kernel, by decide +kernel, by decide +kernel⟩
theorem twd_mo_direction_0 : decode prog_11_method_12_code 0 = .ok (.iload_n 1, 1) := by decide +kernel
theorem twd_mo_direction_1 : decode prog_11_method_12_code 1 = .ok (.istore_n 3, 1) := by decide +kernel
theorem twd_mo_direction_2 : decode prog_11_method_12_code 2 = .ok (.iload_n 3, 1) := by decide +kernel
theorem twd_mo_direction_3 : decode prog_11_method_12_code 3 = .ok (.iload_n 2, 1) := by decide +kernel
theorem twd_mo_direction_4 : decode prog_11_method_12_code 4 = .ok (.if_icmp .ge 59, 3) := by decide +kernel
theorem twd_mo_direction_7 : decode prog_11_method_12_code 7 = .ok (.aload_n 0, 1) := by decide +kernel
theorem twd_mo_direction_8 : decode prog_11_method_12_code 8 = .ok (.getfield 16, 3) := by decide +kernel
theorem twd_mo_direction_11 : decode prog_11_method_12_code 11 = .ok (.iload_n 3, 1) := by decide +kernel
theorem twd_mo_direction_12 : decode prog_11_method_12_code 12 = .ok (.iaload, 1) := by decide +kernel
theorem twd_mo_direction_13 : decode prog_11_method_12_code 13 = .ok (.iconst 2, 1) := by decide +kernel
theorem twd_mo_direction_14 : decode prog_11_method_12_code 14 = .ok (.if_icmp .gt 18, 3) := by decide +kernel
theorem twd_mo_direction_17 : decode prog_11_method_12_code 17 = .ok (.aload_n 0, 1) := by decide +kernel
theorem twd_mo_direction_18 : decode prog_11_method_12_code 18 = .ok (.getfield 16, 3) := by decide +kernel
theorem twd_mo_direction_21 : decode prog_11_method_12_code 21 = .ok (.iload_n 3, 1) := by decide +kernel
theorem twd_mo_direction_22 : decode prog_11_method_12_code 22 = .ok (.iaload, 1) := by decide +kernel
theorem twd_mo_direction_23 : decode prog_11_method_12_code 23 = .ok (.ifCond .ne 7, 3) := by decide +kernel
theorem twd_mo_direction_26 : decode prog_11_method_12_code 26 = .ok (.iconst 0, 1) := by decide +kernel
theorem twd_mo_direction_27 : decode prog_11_method_12_code 27 = .ok (.goto 4, 3) := by decide +kernel
theorem twd_mo_direction_30 : decode prog_11_method_12_code 30 = .ok (.iconst 1, 1) := by decide +kernel
theorem twd_mo_direction_31 : decode prog_11_method_12_code 31 = .ok (.ireturn, 1) := by decide +kernel
theorem twd_mo_direction_32 : decode prog_11_method_12_code 32 = .ok (.aload_n 0, 1) := by decide +kernel
theorem twd_mo_direction_33 : decode prog_11_method_12_code 33 = .ok (.iload_n 3, 1) := by decide +kernel
theorem twd_mo_direction_34 : decode prog_11_method_12_code 34 = .ok (.invokevirtual 76, 3) := by decide +kernel
theorem twd_mo_direction_37 : decode prog_11_method_12_code 37 = .ok (.ifCond .eq 20, 3) := by decide +kernel
theorem twd_mo_direction_40 : decode prog_11_method_12_code 40 = .ok (.aload_n 0, 1) := by decide +kernel
theorem twd_mo_direction_41 : decode prog_11_method_12_code 41 = .ok (.iload_n 3, 1) := by decide +kernel
theorem twd_mo_direction_42 : decode prog_11_method_12_code 42 = .ok (.invokevirtual 80, 3) := by decide +kernel
theorem twd_mo_direction_45 : decode prog_11_method_12_code 45 = .ok (.istore 4, 2) := by decide +kernel
theorem twd_mo_direction_47 : decode prog_11_method_12_code 47 = .ok (.iload 4, 2) := by decide +kernel
theorem twd_mo_direction_49 : decode prog_11_method_12_code 49 = .ok (.ifCond .ge 5, 3) := by decide +kernel
theorem twd_mo_direction_52 : decode prog_11_method_12_code 52 = .ok (.iconst 0, 1) := by decide +kernel
theorem twd_mo_direction_53 : decode prog_11_method_12_code 53 = .ok (.ireturn, 1) := by decide +kernel
theorem twd_mo_direction_54 : decode prog_11_method_12_code 54 = .ok (.iload 4, 2) := by decide +kernel
theorem twd_mo_direction_56 : decode prog_11_method_12_code 56 = .ok (.istore_n 3, 1) := by decide +kernel
theorem twd_mo_direction_57 : decode prog_11_method_12_code 57 = .ok (.iinc 3 1, 3) := by decide +kernel
theorem twd_mo_direction_60 : decode prog_11_method_12_code 60 = .ok (.goto (-58), 3) := by decide +kernel
theorem twd_mo_direction_63 : decode prog_11_method_12_code 63 = .ok (.iconst 0, 1) := by decide +kernel
theorem twd_mo_direction_64 : decode prog_11_method_12_code 64 = .ok (.ireturn, 1) := by decide +kernel
theorem twk_mo_direction : tw_dc twy_mo_direction 2 := ⟨by decide +kernel, by decide +kernel, by decide +kernel⟩
theorem twd_mo_put_0 : decode prog_11_method_13_code 0 = .ok (.aload_n 0, 1) := by decide +kernel
theorem twd_mo_put_1 : decode prog_11_method_13_code 1 = .ok (.dup, 1) := by decide +kernel
theorem twd_mo_put_2 : decode prog_11_method_13_code 2 = .ok (.getfield 84, 3) := by decide +kernel
theorem twd_mo_put_5 : decode prog_11_method_13_code 5 = .ok (.iconst 1, 1) := by decide +kernel
theorem twd_mo_put_6 : decode prog_11_method_13_code 6 = .ok (.iadd, 1) := by decide +kernel
theorem twd_mo_put_7 : decode prog_11_method_13_code 7 = .ok (.putfield 84, 3) := by decide +kernel
theorem twd_mo_put_10 : decode prog_11_method_13_code 10 = .ok (.aload_n 0, 1) := by decide +kernel
theorem twd_mo_put_11 : decode prog_11_method_13_code 11 = .ok (.getfield 41, 3) := by decide +kernel
theorem twd_mo_put_14 : decode prog_11_method_13_code 14 = .ok (.aload_n 0, 1) := by decide +kernel
theorem twd_mo_put_15 : decode prog_11_method_13_code 15 = .ok (.getfield 84, 3) := by decide +kernel
theorem twd_mo_put_18 : decode prog_11_method_13_code 18 = .ok (.iload_n 1, 1) := by decide +kernel
theorem twd_mo_put_19 : decode prog_11_method_13_code 19 = .ok (.iastore, 1) := by decide +kernel
theorem twd_mo_put_20 : decode prog_11_method_13_code 20 = .ok (.aload_n 0, 1) := by decide +kernel
theorem twd_mo_put_21 : decode prog_11_method_13_code 21 = .ok (.getfield 44, 3) := by decide +kernel
theorem twd_mo_put_24 : decode prog_11_method_13_code 24 = .ok (.aload_n 0, 1) := by decide +kernel
theorem twd_mo_put_25 : decode prog_11_method_13_code 25 = .ok (.getfield 84, 3) := by decide +kernel
theorem twd_mo_put_28 : decode prog_11_method_13_code 28 = .ok (.iload_n 2, 1) := by decide +kernel
theorem twd_mo_put_29 : decode prog_11_method_13_code 29 = .ok (.iastore, 1) := by decide +kernel
theorem twd_mo_put_30 : decode prog_11_method_13_code 30 = .ok (.aload_n 0, 1) := by decide +kernel
theorem twd_mo_put_31 : decode prog_11_method_13_code 31 = .ok (.getfield 47, 3) := by decide +kernel
theorem twd_mo_put_34 : decode prog_11_method_13_code 34 = .ok (.aload_n 0, 1) := by decide +kernel
theorem twd_mo_put_35 : decode prog_11_method_13_code 35 = .ok (.getfield 84, 3) := by decide +kernel
theorem twd_mo_put_38 : decode prog_11_method_13_code 38 = .ok (.iload_n 3, 1) := by decide +kernel
theorem twd_mo_put_39 : decode prog_11_method_13_code 39 = .ok (.bastore, 1) := by decide +kernel
theorem twd_mo_put_40 : decode prog_11_method_13_code 40 = .ok (.return_, 1) := by decide +kernel
theorem twk_mo_put : tw_dc twy_mo_put 3 := ⟨by decide +kernel, by decide +kernel, by decide +kernel⟩
theorem twd_mo_next_0 : decode prog_11_method_14_code 0 = .ok (.aload_n 0, 1) := by decide +kernel
theorem twd_mo_next_1 : decode prog_11_method_14_code 1 = .ok (.getfield 41, 3) := by decide +kernel
theorem twd_mo_next_4 : decode prog_11_method_14_code 4 = .ok (.aload_n 0, 1) := by decide +kernel
theorem twd_mo_next_5 : decode prog_11_method_14_code 5 = .ok (.getfield 84, 3) := by decide +kernel
theorem twd_mo_next_8 : decode prog_11_method_14_code 8 = .ok (.iaload, 1) := by decide +kernel
theorem twd_mo_next_9 : decode prog_11_method_14_code 9 = .ok (.iconst 1, 1) := by decide +kernel
theorem twd_mo_next_10 : decode prog_11_method_14_code 10 = .ok (.iadd, 1) := by decide +kernel
theorem twd_mo_next_11 : decode prog_11_method_14_code 11 = .ok (.istore_n 2, 1) := by decide +kernel
theorem twd_mo_next_12 : decode prog_11_method_14_code 12 = .ok (.iload_n 2, 1) := by decide +kernel
theorem twd_mo_next_13 : decode prog_11_method_14_code 13 = .ok (.iconst 2, 1) := by decide +kernel
theorem twd_mo_next_14 : decode prog_11_method_14_code 14 = .ok (.irem, 1) := by decide +kernel
theorem twd_mo_next_15 : decode prog_11_method_14_code 15 = .ok (.iconst 1, 1) := by decide +kernel
theorem twd_mo_next_16 : decode prog_11_method_14_code 16 = .ok (.if_icmp .ne 7, 3) := by decide +kernel
theorem twd_mo_next_19 : decode prog_11_method_14_code 19 = .ok (.iconst 1, 1) := by decide +kernel
theorem twd_mo_next_20 : decode prog_11_method_14_code 20 = .ok (.goto 4, 3) := by decide +kernel
theorem twd_mo_next_23 : decode prog_11_method_14_code 23 = .ok (.iconst 0, 1) := by decide +kernel
theorem twd_mo_next_24 : decode prog_11_method_14_code 24 = .ok (.iload_n 1, 1) := by decide +kernel
theorem twd_mo_next_25 : decode prog_11_method_14_code 25 = .ok (.if_icmp .ne 7, 3) := by decide +kernel
theorem twd_mo_next_28 : decode prog_11_method_14_code 28 = .ok (.iload_n 2, 1) := by decide +kernel
theorem twd_mo_next_29 : decode prog_11_method_14_code 29 = .ok (.goto 6, 3) := by decide +kernel
theorem twd_mo_next_32 : decode prog_11_method_14_code 32 = .ok (.iload_n 2, 1) := by decide +kernel
theorem twd_mo_next_33 : decode prog_11_method_14_code 33 = .ok (.iconst 1, 1) := by decide +kernel
theorem twd_mo_next_34 : decode prog_11_method_14_code 34 = .ok (.iadd, 1) := by decide +kernel
theorem twd_mo_next_35 : decode prog_11_method_14_code 35 = .ok (.ireturn, 1) := by decide +kernel
theorem twk_mo_next : tw_dc twy_mo_next 1 := ⟨by decide +kernel, by decide +kernel, by decide +kernel⟩
theorem twd_mo_fits_0 : decode prog_11_method_15_code 0 = .ok (.iload_n 1, 1) := by decide +kernel
theorem twd_mo_fits_1 : decode prog_11_method_15_code 1 = .ok (.iconst 5, 1) := by decide +kernel
theorem twd_mo_fits_2 : decode prog_11_method_15_code 2 = .ok (.if_icmp .gt 21, 3) := by decide +kernel
theorem twd_mo_fits_5 : decode prog_11_method_15_code 5 = .ok (.aload_n 0, 1) := by decide +kernel
theorem twd_mo_fits_6 : decode prog_11_method_15_code 6 = .ok (.getfield 87, 3) := by decide +kernel
theorem twd_mo_fits_9 : decode prog_11_method_15_code 9 = .ok (.ifCond .ne 14, 3) := by decide +kernel
theorem twd_mo_fits_12 : decode prog_11_method_15_code 12 = .ok (.aload_n 0, 1) := by decide +kernel
theorem twd_mo_fits_13 : decode prog_11_method_15_code 13 = .ok (.getfield 90, 3) := by decide +kernel
theorem twd_mo_fits_16 : decode prog_11_method_15_code 16 = .ok (.ifCond .ne 7, 3) := by decide +kernel
theorem twd_mo_fits_19 : decode prog_11_method_15_code 19 = .ok (.iconst 1, 1) := by decide +kernel
theorem twd_mo_fits_20 : decode prog_11_method_15_code 20 = .ok (.goto 4, 3) := by decide +kernel
theorem twd_mo_fits_23 : decode prog_11_method_15_code 23 = .ok (.iconst 0, 1) := by decide +kernel
theorem twd_mo_fits_24 : decode prog_11_method_15_code 24 = .ok (.ireturn, 1) := by decide +kernel
theorem twk_mo_fits : tw_dc twy_mo_fits 1 := ⟨by decide +kernel, by decide +kernel, by decide +kernel⟩
theorem twd_mo_settle_0 : decode prog_11_method_16_code 0 = .ok (.aload_n 0, 1) := by decide +kernel
theorem twd_mo_settle_1 : decode prog_11_method_16_code 1 = .ok (.getfield 29, 3) := by decide +kernel
theorem twd_mo_settle_4 : decode prog_11_method_16_code 4 = .ok (.iload_n 1, 1) := by decide +kernel
theorem twd_mo_settle_5 : decode prog_11_method_16_code 5 = .ok (.aload_n 0, 1) := by decide +kernel
theorem twd_mo_settle_6 : decode prog_11_method_16_code 6 = .ok (.getfield 41, 3) := by decide +kernel
theorem twd_mo_settle_9 : decode prog_11_method_16_code 9 = .ok (.aload_n 0, 1) := by decide +kernel
theorem twd_mo_settle_10 : decode prog_11_method_16_code 10 = .ok (.getfield 84, 3) := by decide +kernel
theorem twd_mo_settle_13 : decode prog_11_method_16_code 13 = .ok (.iaload, 1) := by decide +kernel
theorem twd_mo_settle_14 : decode prog_11_method_16_code 14 = .ok (.iastore, 1) := by decide +kernel
theorem twd_mo_settle_15 : decode prog_11_method_16_code 15 = .ok (.aload_n 0, 1) := by decide +kernel
theorem twd_mo_settle_16 : decode prog_11_method_16_code 16 = .ok (.getfield 32, 3) := by decide +kernel
theorem twd_mo_settle_19 : decode prog_11_method_16_code 19 = .ok (.iload_n 1, 1) := by decide +kernel
theorem twd_mo_settle_20 : decode prog_11_method_16_code 20 = .ok (.aload_n 0, 1) := by decide +kernel
theorem twd_mo_settle_21 : decode prog_11_method_16_code 21 = .ok (.getfield 44, 3) := by decide +kernel
theorem twd_mo_settle_24 : decode prog_11_method_16_code 24 = .ok (.aload_n 0, 1) := by decide +kernel
theorem twd_mo_settle_25 : decode prog_11_method_16_code 25 = .ok (.getfield 84, 3) := by decide +kernel
theorem twd_mo_settle_28 : decode prog_11_method_16_code 28 = .ok (.iaload, 1) := by decide +kernel
theorem twd_mo_settle_29 : decode prog_11_method_16_code 29 = .ok (.ifCond .lt 15, 3) := by decide +kernel
theorem twd_mo_settle_32 : decode prog_11_method_16_code 32 = .ok (.aload_n 0, 1) := by decide +kernel
theorem twd_mo_settle_33 : decode prog_11_method_16_code 33 = .ok (.getfield 44, 3) := by decide +kernel
theorem twd_mo_settle_36 : decode prog_11_method_16_code 36 = .ok (.aload_n 0, 1) := by decide +kernel
theorem twd_mo_settle_37 : decode prog_11_method_16_code 37 = .ok (.getfield 84, 3) := by decide +kernel
theorem twd_mo_settle_40 : decode prog_11_method_16_code 40 = .ok (.iaload, 1) := by decide +kernel
theorem twd_mo_settle_41 : decode prog_11_method_16_code 41 = .ok (.goto 9, 3) := by decide +kernel
theorem twd_mo_settle_44 : decode prog_11_method_16_code 44 = .ok (.aload_n 0, 1) := by decide +kernel
theorem twd_mo_settle_45 : decode prog_11_method_16_code 45 = .ok (.getfield 16, 3) := by decide +kernel
theorem twd_mo_settle_48 : decode prog_11_method_16_code 48 = .ok (.iload_n 1, 1) := by decide +kernel
theorem twd_mo_settle_49 : decode prog_11_method_16_code 49 = .ok (.iaload, 1) := by decide +kernel
theorem twd_mo_settle_50 : decode prog_11_method_16_code 50 = .ok (.iastore, 1) := by decide +kernel
theorem twd_mo_settle_51 : decode prog_11_method_16_code 51 = .ok (.return_, 1) := by decide +kernel
theorem twk_mo_settle : tw_dc twy_mo_settle 1 := ⟨by decide +kernel, by decide +kernel, by decide +kernel⟩
theorem twd_mo_embed_0 : decode prog_11_method_17_code 0 = .ok (.aload_n 0, 1) := by decide +kernel
theorem twd_mo_embed_1 : decode prog_11_method_17_code 1 = .ok (.iload_n 1, 1) := by decide +kernel
theorem twd_mo_embed_2 : decode prog_11_method_17_code 2 = .ok (.bipush 13, 2) := by decide +kernel
theorem twd_mo_embed_4 : decode prog_11_method_17_code 4 = .ok (.if_icmp .eq 9, 3) := by decide +kernel
theorem twd_mo_embed_7 : decode prog_11_method_17_code 7 = .ok (.iload_n 1, 1) := by decide +kernel
theorem twd_mo_embed_8 : decode prog_11_method_17_code 8 = .ok (.bipush 15, 2) := by decide +kernel
theorem twd_mo_embed_10 : decode prog_11_method_17_code 10 = .ok (.if_icmp .ne 7, 3) := by decide +kernel
theorem twd_mo_embed_13 : decode prog_11_method_17_code 13 = .ok (.iconst 1, 1) := by decide +kernel
theorem twd_mo_embed_14 : decode prog_11_method_17_code 14 = .ok (.goto 4, 3) := by decide +kernel
theorem twd_mo_embed_17 : decode prog_11_method_17_code 17 = .ok (.iconst 0, 1) := by decide +kernel
theorem twd_mo_embed_18 : decode prog_11_method_17_code 18 = .ok (.invokevirtual 93, 3) := by decide +kernel
theorem twd_mo_embed_21 : decode prog_11_method_17_code 21 = .ok (.istore_n 2, 1) := by decide +kernel
theorem twd_mo_embed_22 : decode prog_11_method_17_code 22 = .ok (.aload_n 0, 1) := by decide +kernel
theorem twd_mo_embed_23 : decode prog_11_method_17_code 23 = .ok (.iload_n 2, 1) := by decide +kernel
theorem twd_mo_embed_24 : decode prog_11_method_17_code 24 = .ok (.invokevirtual 97, 3) := by decide +kernel
theorem twd_mo_embed_27 : decode prog_11_method_17_code 27 = .ok (.ifCond .eq 33, 3) := by decide +kernel
theorem twd_mo_embed_30 : decode prog_11_method_17_code 30 = .ok (.aload_n 0, 1) := by decide +kernel
theorem twd_mo_embed_31 : decode prog_11_method_17_code 31 = .ok (.iload_n 2, 1) := by decide +kernel
theorem twd_mo_embed_32 : decode prog_11_method_17_code 32 = .ok (.iload_n 1, 1) := by decide +kernel
theorem twd_mo_embed_33 : decode prog_11_method_17_code 33 = .ok (.bipush 14, 2) := by decide +kernel
theorem twd_mo_embed_35 : decode prog_11_method_17_code 35 = .ok (.if_icmp .ne 7, 3) := by decide +kernel
theorem twd_mo_embed_38 : decode prog_11_method_17_code 38 = .ok (.iconst 0, 1) := by decide +kernel
theorem twd_mo_embed_39 : decode prog_11_method_17_code 39 = .ok (.goto 14, 3) := by decide +kernel
theorem twd_mo_embed_42 : decode prog_11_method_17_code 42 = .ok (.iload_n 1, 1) := by decide +kernel
theorem twd_mo_embed_43 : decode prog_11_method_17_code 43 = .ok (.bipush 15, 2) := by decide +kernel
theorem twd_mo_embed_45 : decode prog_11_method_17_code 45 = .ok (.if_icmp .ne 7, 3) := by decide +kernel
theorem twd_mo_embed_48 : decode prog_11_method_17_code 48 = .ok (.iconst 1, 1) := by decide +kernel
theorem twd_mo_embed_49 : decode prog_11_method_17_code 49 = .ok (.goto 4, 3) := by decide +kernel
theorem twd_mo_embed_52 : decode prog_11_method_17_code 52 = .ok (.iconst (-1), 1) := by decide +kernel
theorem twd_mo_embed_53 : decode prog_11_method_17_code 53 = .ok (.iconst 0, 1) := by decide +kernel
theorem twd_mo_embed_54 : decode prog_11_method_17_code 54 = .ok (.invokevirtual 100, 3) := by decide +kernel
theorem twd_mo_embed_57 : decode prog_11_method_17_code 57 = .ok (.goto 20, 3) := by decide +kernel
theorem twd_mo_embed_60 : decode prog_11_method_17_code 60 = .ok (.aload_n 0, 1) := by decide +kernel
theorem twd_mo_embed_61 : decode prog_11_method_17_code 61 = .ok (.getfield 87, 3) := by decide +kernel
theorem twd_mo_embed_64 : decode prog_11_method_17_code 64 = .ok (.ifCond .ne 13, 3) := by decide +kernel
theorem twd_mo_embed_67 : decode prog_11_method_17_code 67 = .ok (.aload_n 0, 1) := by decide +kernel
theorem twd_mo_embed_68 : decode prog_11_method_17_code 68 = .ok (.dup, 1) := by decide +kernel
theorem twd_mo_embed_69 : decode prog_11_method_17_code 69 = .ok (.getfield 90, 3) := by decide +kernel
theorem twd_mo_embed_72 : decode prog_11_method_17_code 72 = .ok (.iconst 1, 1) := by decide +kernel
theorem twd_mo_embed_73 : decode prog_11_method_17_code 73 = .ok (.iadd, 1) := by decide +kernel
theorem twd_mo_embed_74 : decode prog_11_method_17_code 74 = .ok (.putfield 90, 3) := by decide +kernel
theorem twd_mo_embed_77 : decode prog_11_method_17_code 77 = .ok (.return_, 1) := by decide +kernel
theorem twk_mo_embed : tw_dc twy_mo_embed 1 := ⟨by decide +kernel, by decide +kernel, by decide +kernel⟩
theorem twd_mo_isolateAt_0 : decode prog_11_method_18_code 0 = .ok (.aload_n 0, 1) := by decide +kernel
theorem twd_mo_isolateAt_1 : decode prog_11_method_18_code 1 = .ok (.iload_n 1, 1) := by decide +kernel
theorem twd_mo_isolateAt_2 : decode prog_11_method_18_code 2 = .ok (.invokevirtual 104, 3) := by decide +kernel
theorem twd_mo_isolateAt_5 : decode prog_11_method_18_code 5 = .ok (.aload_n 0, 1) := by decide +kernel
theorem twd_mo_isolateAt_6 : decode prog_11_method_18_code 6 = .ok (.iload_n 1, 1) := by decide +kernel
theorem twd_mo_isolateAt_7 : decode prog_11_method_18_code 7 = .ok (.invokevirtual 80, 3) := by decide +kernel
theorem twd_mo_isolateAt_10 : decode prog_11_method_18_code 10 = .ok (.istore_n 2, 1) := by decide +kernel
theorem twd_mo_isolateAt_11 : decode prog_11_method_18_code 11 = .ok (.aload_n 0, 1) := by decide +kernel
theorem twd_mo_isolateAt_12 : decode prog_11_method_18_code 12 = .ok (.getfield 16, 3) := by decide +kernel
theorem twd_mo_isolateAt_15 : decode prog_11_method_18_code 15 = .ok (.iload_n 1, 1) := by decide +kernel
theorem twd_mo_isolateAt_16 : decode prog_11_method_18_code 16 = .ok (.iaload, 1) := by decide +kernel
theorem twd_mo_isolateAt_17 : decode prog_11_method_18_code 17 = .ok (.bipush 18, 2) := by decide +kernel
theorem twd_mo_isolateAt_19 : decode prog_11_method_18_code 19 = .ok (.if_icmp .eq 37, 3) := by decide +kernel
theorem twd_mo_isolateAt_22 : decode prog_11_method_18_code 22 = .ok (.aload_n 0, 1) := by decide +kernel
theorem twd_mo_isolateAt_23 : decode prog_11_method_18_code 23 = .ok (.getfield 16, 3) := by decide +kernel
theorem twd_mo_isolateAt_26 : decode prog_11_method_18_code 26 = .ok (.iload_n 1, 1) := by decide +kernel
theorem twd_mo_isolateAt_27 : decode prog_11_method_18_code 27 = .ok (.iaload, 1) := by decide +kernel
theorem twd_mo_isolateAt_28 : decode prog_11_method_18_code 28 = .ok (.bipush 19, 2) := by decide +kernel
theorem twd_mo_isolateAt_30 : decode prog_11_method_18_code 30 = .ok (.if_icmp .ne 30, 3) := by decide +kernel
theorem twd_mo_isolateAt_33 : decode prog_11_method_18_code 33 = .ok (.aload_n 0, 1) := by decide +kernel
theorem twd_mo_isolateAt_34 : decode prog_11_method_18_code 34 = .ok (.iload_n 1, 1) := by decide +kernel
theorem twd_mo_isolateAt_35 : decode prog_11_method_18_code 35 = .ok (.iconst 1, 1) := by decide +kernel
theorem twd_mo_isolateAt_36 : decode prog_11_method_18_code 36 = .ok (.iadd, 1) := by decide +kernel
theorem twd_mo_isolateAt_37 : decode prog_11_method_18_code 37 = .ok (.iload_n 2, 1) := by decide +kernel
theorem twd_mo_isolateAt_38 : decode prog_11_method_18_code 38 = .ok (.ifCond .ge 10, 3) := by decide +kernel
theorem twd_mo_isolateAt_41 : decode prog_11_method_18_code 41 = .ok (.aload_n 0, 1) := by decide +kernel
theorem twd_mo_isolateAt_42 : decode prog_11_method_18_code 42 = .ok (.getfield 69, 3) := by decide +kernel
theorem twd_mo_isolateAt_45 : decode prog_11_method_18_code 45 = .ok (.goto 4, 3) := by decide +kernel
theorem twd_mo_isolateAt_48 : decode prog_11_method_18_code 48 = .ok (.iload_n 2, 1) := by decide +kernel
theorem twd_mo_isolateAt_49 : decode prog_11_method_18_code 49 = .ok (.invokevirtual 108, 3) := by decide +kernel
theorem twd_mo_isolateAt_52 : decode prog_11_method_18_code 52 = .ok (.iconst 1, 1) := by decide +kernel
theorem twd_mo_isolateAt_53 : decode prog_11_method_18_code 53 = .ok (.if_icmp .ne 7, 3) := by decide +kernel
theorem twd_mo_isolateAt_56 : decode prog_11_method_18_code 56 = .ok (.iconst 1, 1) := by decide +kernel
theorem twd_mo_isolateAt_57 : decode prog_11_method_18_code 57 = .ok (.goto 4, 3) := by decide +kernel
theorem twd_mo_isolateAt_60 : decode prog_11_method_18_code 60 = .ok (.iconst 0, 1) := by decide +kernel
theorem twd_mo_isolateAt_61 : decode prog_11_method_18_code 61 = .ok (.istore_n 3, 1) := by decide +kernel
theorem twd_mo_isolateAt_62 : decode prog_11_method_18_code 62 = .ok (.aload_n 0, 1) := by decide +kernel
theorem twd_mo_isolateAt_63 : decode prog_11_method_18_code 63 = .ok (.iload_n 3, 1) := by decide +kernel
theorem twd_mo_isolateAt_64 : decode prog_11_method_18_code 64 = .ok (.invokevirtual 93, 3) := by decide +kernel
theorem twd_mo_isolateAt_67 : decode prog_11_method_18_code 67 = .ok (.istore 4, 2) := by decide +kernel
theorem twd_mo_isolateAt_69 : decode prog_11_method_18_code 69 = .ok (.aload_n 0, 1) := by decide +kernel
theorem twd_mo_isolateAt_70 : decode prog_11_method_18_code 70 = .ok (.iload 4, 2) := by decide +kernel
theorem twd_mo_isolateAt_72 : decode prog_11_method_18_code 72 = .ok (.invokevirtual 97, 3) := by decide +kernel
theorem twd_mo_isolateAt_75 : decode prog_11_method_18_code 75 = .ok (.ifCond .eq 24, 3) := by decide +kernel
theorem twd_mo_isolateAt_78 : decode prog_11_method_18_code 78 = .ok (.aload_n 0, 1) := by decide +kernel
theorem twd_mo_isolateAt_79 : decode prog_11_method_18_code 79 = .ok (.dup, 1) := by decide +kernel
theorem twd_mo_isolateAt_80 : decode prog_11_method_18_code 80 = .ok (.getfield 112, 3) := by decide +kernel
theorem twd_mo_isolateAt_83 : decode prog_11_method_18_code 83 = .ok (.iconst 1, 1) := by decide +kernel
theorem twd_mo_isolateAt_84 : decode prog_11_method_18_code 84 = .ok (.iadd, 1) := by decide +kernel
theorem twd_mo_isolateAt_85 : decode prog_11_method_18_code 85 = .ok (.putfield 112, 3) := by decide +kernel
theorem twd_mo_isolateAt_88 : decode prog_11_method_18_code 88 = .ok (.aload_n 0, 1) := by decide +kernel
theorem twd_mo_isolateAt_89 : decode prog_11_method_18_code 89 = .ok (.iload 4, 2) := by decide +kernel
theorem twd_mo_isolateAt_91 : decode prog_11_method_18_code 91 = .ok (.iconst (-1), 1) := by decide +kernel
theorem twd_mo_isolateAt_92 : decode prog_11_method_18_code 92 = .ok (.iconst 1, 1) := by decide +kernel
theorem twd_mo_isolateAt_93 : decode prog_11_method_18_code 93 = .ok (.invokevirtual 100, 3) := by decide +kernel
theorem twd_mo_isolateAt_96 : decode prog_11_method_18_code 96 = .ok (.goto 13, 3) := by decide +kernel
theorem twd_mo_isolateAt_99 : decode prog_11_method_18_code 99 = .ok (.aload_n 0, 1) := by decide +kernel
theorem twd_mo_isolateAt_100 : decode prog_11_method_18_code 100 = .ok (.dup, 1) := by decide +kernel
theorem twd_mo_isolateAt_101 : decode prog_11_method_18_code 101 = .ok (.getfield 87, 3) := by decide +kernel
theorem twd_mo_isolateAt_104 : decode prog_11_method_18_code 104 = .ok (.iconst 1, 1) := by decide +kernel
theorem twd_mo_isolateAt_105 : decode prog_11_method_18_code 105 = .ok (.iadd, 1) := by decide +kernel
theorem twd_mo_isolateAt_106 : decode prog_11_method_18_code 106 = .ok (.putfield 87, 3) := by decide +kernel
theorem twd_mo_isolateAt_109 : decode prog_11_method_18_code 109 = .ok (.return_, 1) := by decide +kernel
theorem twk_mo_isolateAt : tw_dc twy_mo_isolateAt 1 := ⟨by decide +kernel, by decide +kernel, by decide +kernel⟩
theorem twd_mo_leave_0 : decode prog_11_method_19_code 0 = .ok (.aload_n 0, 1) := by decide +kernel
theorem twd_mo_leave_1 : decode prog_11_method_19_code 1 = .ok (.getfield 87, 3) := by decide +kernel
theorem twd_mo_leave_4 : decode prog_11_method_19_code 4 = .ok (.ifCond .le 16, 3) := by decide +kernel
theorem twd_mo_leave_7 : decode prog_11_method_19_code 7 = .ok (.aload_n 0, 1) := by decide +kernel
theorem twd_mo_leave_8 : decode prog_11_method_19_code 8 = .ok (.dup, 1) := by decide +kernel
theorem twd_mo_leave_9 : decode prog_11_method_19_code 9 = .ok (.getfield 87, 3) := by decide +kernel
theorem twd_mo_leave_12 : decode prog_11_method_19_code 12 = .ok (.iconst 1, 1) := by decide +kernel
theorem twd_mo_leave_13 : decode prog_11_method_19_code 13 = .ok (.isub, 1) := by decide +kernel
theorem twd_mo_leave_14 : decode prog_11_method_19_code 14 = .ok (.putfield 87, 3) := by decide +kernel
theorem twd_mo_leave_17 : decode prog_11_method_19_code 17 = .ok (.goto 67, 3) := by decide +kernel
theorem twd_mo_leave_20 : decode prog_11_method_19_code 20 = .ok (.aload_n 0, 1) := by decide +kernel
theorem twd_mo_leave_21 : decode prog_11_method_19_code 21 = .ok (.getfield 112, 3) := by decide +kernel
theorem twd_mo_leave_24 : decode prog_11_method_19_code 24 = .ok (.ifCond .le 60, 3) := by decide +kernel
theorem twd_mo_leave_27 : decode prog_11_method_19_code 27 = .ok (.aload_n 0, 1) := by decide +kernel
theorem twd_mo_leave_28 : decode prog_11_method_19_code 28 = .ok (.iconst 0, 1) := by decide +kernel
theorem twd_mo_leave_29 : decode prog_11_method_19_code 29 = .ok (.putfield 90, 3) := by decide +kernel
theorem twd_mo_leave_32 : decode prog_11_method_19_code 32 = .ok (.aload_n 0, 1) := by decide +kernel
theorem twd_mo_leave_33 : decode prog_11_method_19_code 33 = .ok (.getfield 84, 3) := by decide +kernel
theorem twd_mo_leave_36 : decode prog_11_method_19_code 36 = .ok (.ifCond .le 28, 3) := by decide +kernel
theorem twd_mo_leave_39 : decode prog_11_method_19_code 39 = .ok (.aload_n 0, 1) := by decide +kernel
theorem twd_mo_leave_40 : decode prog_11_method_19_code 40 = .ok (.getfield 47, 3) := by decide +kernel
theorem twd_mo_leave_43 : decode prog_11_method_19_code 43 = .ok (.aload_n 0, 1) := by decide +kernel
theorem twd_mo_leave_44 : decode prog_11_method_19_code 44 = .ok (.getfield 84, 3) := by decide +kernel
theorem twd_mo_leave_47 : decode prog_11_method_19_code 47 = .ok (.baload, 1) := by decide +kernel
theorem twd_mo_leave_48 : decode prog_11_method_19_code 48 = .ok (.ifCond .ne 16, 3) := by decide +kernel
theorem twd_mo_leave_51 : decode prog_11_method_19_code 51 = .ok (.aload_n 0, 1) := by decide +kernel
theorem twd_mo_leave_52 : decode prog_11_method_19_code 52 = .ok (.dup, 1) := by decide +kernel
theorem twd_mo_leave_53 : decode prog_11_method_19_code 53 = .ok (.getfield 84, 3) := by decide +kernel
theorem twd_mo_leave_56 : decode prog_11_method_19_code 56 = .ok (.iconst 1, 1) := by decide +kernel
theorem twd_mo_leave_57 : decode prog_11_method_19_code 57 = .ok (.isub, 1) := by decide +kernel
theorem twd_mo_leave_58 : decode prog_11_method_19_code 58 = .ok (.putfield 84, 3) := by decide +kernel
theorem twd_mo_leave_61 : decode prog_11_method_19_code 61 = .ok (.goto (-29), 3) := by decide +kernel
theorem twd_mo_leave_64 : decode prog_11_method_19_code 64 = .ok (.aload_n 0, 1) := by decide +kernel
theorem twd_mo_leave_65 : decode prog_11_method_19_code 65 = .ok (.dup, 1) := by decide +kernel
theorem twd_mo_leave_66 : decode prog_11_method_19_code 66 = .ok (.getfield 84, 3) := by decide +kernel
theorem twd_mo_leave_69 : decode prog_11_method_19_code 69 = .ok (.iconst 1, 1) := by decide +kernel
theorem twd_mo_leave_70 : decode prog_11_method_19_code 70 = .ok (.isub, 1) := by decide +kernel
theorem twd_mo_leave_71 : decode prog_11_method_19_code 71 = .ok (.putfield 84, 3) := by decide +kernel
theorem twd_mo_leave_74 : decode prog_11_method_19_code 74 = .ok (.aload_n 0, 1) := by decide +kernel
theorem twd_mo_leave_75 : decode prog_11_method_19_code 75 = .ok (.dup, 1) := by decide +kernel
theorem twd_mo_leave_76 : decode prog_11_method_19_code 76 = .ok (.getfield 112, 3) := by decide +kernel
theorem twd_mo_leave_79 : decode prog_11_method_19_code 79 = .ok (.iconst 1, 1) := by decide +kernel
theorem twd_mo_leave_80 : decode prog_11_method_19_code 80 = .ok (.isub, 1) := by decide +kernel
theorem twd_mo_leave_81 : decode prog_11_method_19_code 81 = .ok (.putfield 112, 3) := by decide +kernel
theorem twd_mo_leave_84 : decode prog_11_method_19_code 84 = .ok (.aload_n 0, 1) := by decide +kernel
theorem twd_mo_leave_85 : decode prog_11_method_19_code 85 = .ok (.iload_n 1, 1) := by decide +kernel
theorem twd_mo_leave_86 : decode prog_11_method_19_code 86 = .ok (.invokevirtual 104, 3) := by decide +kernel
theorem twd_mo_leave_89 : decode prog_11_method_19_code 89 = .ok (.return_, 1) := by decide +kernel
theorem twk_mo_leave : tw_dc twy_mo_leave 1 := ⟨by decide +kernel, by decide +kernel, by decide +kernel⟩
theorem twd_mo_pop_0 : decode prog_11_method_20_code 0 = .ok (.aload_n 0, 1) := by decide +kernel
theorem twd_mo_pop_1 : decode prog_11_method_20_code 1 = .ok (.getfield 87, 3) := by decide +kernel
theorem twd_mo_pop_4 : decode prog_11_method_20_code 4 = .ok (.ifCond .le 4, 3) := by decide +kernel
theorem twd_mo_pop_7 : decode prog_11_method_20_code 7 = .ok (.return_, 1) := by decide +kernel
theorem twd_mo_pop_8 : decode prog_11_method_20_code 8 = .ok (.aload_n 0, 1) := by decide +kernel
theorem twd_mo_pop_9 : decode prog_11_method_20_code 9 = .ok (.getfield 90, 3) := by decide +kernel
theorem twd_mo_pop_12 : decode prog_11_method_20_code 12 = .ok (.ifCond .le 16, 3) := by decide +kernel
theorem twd_mo_pop_15 : decode prog_11_method_20_code 15 = .ok (.aload_n 0, 1) := by decide +kernel
theorem twd_mo_pop_16 : decode prog_11_method_20_code 16 = .ok (.dup, 1) := by decide +kernel
theorem twd_mo_pop_17 : decode prog_11_method_20_code 17 = .ok (.getfield 90, 3) := by decide +kernel
theorem twd_mo_pop_20 : decode prog_11_method_20_code 20 = .ok (.iconst 1, 1) := by decide +kernel
theorem twd_mo_pop_21 : decode prog_11_method_20_code 21 = .ok (.isub, 1) := by decide +kernel
theorem twd_mo_pop_22 : decode prog_11_method_20_code 22 = .ok (.putfield 90, 3) := by decide +kernel
theorem twd_mo_pop_25 : decode prog_11_method_20_code 25 = .ok (.goto 32, 3) := by decide +kernel
theorem twd_mo_pop_28 : decode prog_11_method_20_code 28 = .ok (.aload_n 0, 1) := by decide +kernel
theorem twd_mo_pop_29 : decode prog_11_method_20_code 29 = .ok (.getfield 84, 3) := by decide +kernel
theorem twd_mo_pop_32 : decode prog_11_method_20_code 32 = .ok (.ifCond .le 25, 3) := by decide +kernel
theorem twd_mo_pop_35 : decode prog_11_method_20_code 35 = .ok (.aload_n 0, 1) := by decide +kernel
theorem twd_mo_pop_36 : decode prog_11_method_20_code 36 = .ok (.getfield 47, 3) := by decide +kernel
theorem twd_mo_pop_39 : decode prog_11_method_20_code 39 = .ok (.aload_n 0, 1) := by decide +kernel
theorem twd_mo_pop_40 : decode prog_11_method_20_code 40 = .ok (.getfield 84, 3) := by decide +kernel
theorem twd_mo_pop_43 : decode prog_11_method_20_code 43 = .ok (.baload, 1) := by decide +kernel
theorem twd_mo_pop_44 : decode prog_11_method_20_code 44 = .ok (.ifCond .ne 13, 3) := by decide +kernel
theorem twd_mo_pop_47 : decode prog_11_method_20_code 47 = .ok (.aload_n 0, 1) := by decide +kernel
theorem twd_mo_pop_48 : decode prog_11_method_20_code 48 = .ok (.dup, 1) := by decide +kernel
theorem twd_mo_pop_49 : decode prog_11_method_20_code 49 = .ok (.getfield 84, 3) := by decide +kernel
theorem twd_mo_pop_52 : decode prog_11_method_20_code 52 = .ok (.iconst 1, 1) := by decide +kernel
theorem twd_mo_pop_53 : decode prog_11_method_20_code 53 = .ok (.isub, 1) := by decide +kernel
theorem twd_mo_pop_54 : decode prog_11_method_20_code 54 = .ok (.putfield 84, 3) := by decide +kernel
theorem twd_mo_pop_57 : decode prog_11_method_20_code 57 = .ok (.return_, 1) := by decide +kernel
theorem twk_mo_pop : tw_dc twy_mo_pop 0 := ⟨by decide +kernel, by decide +kernel, by decide +kernel⟩
theorem twd_mo_explicit_0 : decode prog_11_method_21_code 0 = .ok (.aload_n 0, 1) := by decide +kernel
theorem twd_mo_explicit_1 : decode prog_11_method_21_code 1 = .ok (.aload_n 0, 1) := by decide +kernel
theorem twd_mo_explicit_2 : decode prog_11_method_21_code 2 = .ok (.getfield 7, 3) := by decide +kernel
theorem twd_mo_explicit_5 : decode prog_11_method_21_code 5 = .ok (.iconst 2, 1) := by decide +kernel
theorem twd_mo_explicit_6 : decode prog_11_method_21_code 6 = .ok (.if_icmp .ge 10, 3) := by decide +kernel
theorem twd_mo_explicit_9 : decode prog_11_method_21_code 9 = .ok (.aload_n 0, 1) := by decide +kernel
theorem twd_mo_explicit_10 : decode prog_11_method_21_code 10 = .ok (.getfield 7, 3) := by decide +kernel
theorem twd_mo_explicit_13 : decode prog_11_method_21_code 13 = .ok (.goto 12, 3) := by decide +kernel
theorem twd_mo_explicit_16 : decode prog_11_method_21_code 16 = .ok (.aload_n 0, 1) := by decide +kernel
theorem twd_mo_explicit_17 : decode prog_11_method_21_code 17 = .ok (.iconst 0, 1) := by decide +kernel
theorem twd_mo_explicit_18 : decode prog_11_method_21_code 18 = .ok (.aload_n 0, 1) := by decide +kernel
theorem twd_mo_explicit_19 : decode prog_11_method_21_code 19 = .ok (.getfield 69, 3) := by decide +kernel
theorem twd_mo_explicit_22 : decode prog_11_method_21_code 22 = .ok (.invokevirtual 108, 3) := by decide +kernel
theorem twd_mo_explicit_25 : decode prog_11_method_21_code 25 = .ok (.putfield 115, 3) := by decide +kernel
theorem twd_mo_explicit_28 : decode prog_11_method_21_code 28 = .ok (.aload_n 0, 1) := by decide +kernel
theorem twd_mo_explicit_29 : decode prog_11_method_21_code 29 = .ok (.iconst (-1), 1) := by decide +kernel
theorem twd_mo_explicit_30 : decode prog_11_method_21_code 30 = .ok (.putfield 84, 3) := by decide +kernel
theorem twd_mo_explicit_33 : decode prog_11_method_21_code 33 = .ok (.aload_n 0, 1) := by decide +kernel
theorem twd_mo_explicit_34 : decode prog_11_method_21_code 34 = .ok (.aload_n 0, 1) := by decide +kernel
theorem twd_mo_explicit_35 : decode prog_11_method_21_code 35 = .ok (.getfield 115, 3) := by decide +kernel
theorem twd_mo_explicit_38 : decode prog_11_method_21_code 38 = .ok (.iconst (-1), 1) := by decide +kernel
theorem twd_mo_explicit_39 : decode prog_11_method_21_code 39 = .ok (.iconst 0, 1) := by decide +kernel
theorem twd_mo_explicit_40 : decode prog_11_method_21_code 40 = .ok (.invokevirtual 100, 3) := by decide +kernel
theorem twd_mo_explicit_43 : decode prog_11_method_21_code 43 = .ok (.aload_n 0, 1) := by decide +kernel
theorem twd_mo_explicit_44 : decode prog_11_method_21_code 44 = .ok (.iconst 0, 1) := by decide +kernel
theorem twd_mo_explicit_45 : decode prog_11_method_21_code 45 = .ok (.putfield 87, 3) := by decide +kernel
theorem twd_mo_explicit_48 : decode prog_11_method_21_code 48 = .ok (.aload_n 0, 1) := by decide +kernel
theorem twd_mo_explicit_49 : decode prog_11_method_21_code 49 = .ok (.iconst 0, 1) := by decide +kernel
theorem twd_mo_explicit_50 : decode prog_11_method_21_code 50 = .ok (.putfield 90, 3) := by decide +kernel
theorem twd_mo_explicit_53 : decode prog_11_method_21_code 53 = .ok (.aload_n 0, 1) := by decide +kernel
theorem twd_mo_explicit_54 : decode prog_11_method_21_code 54 = .ok (.iconst 0, 1) := by decide +kernel
theorem twd_mo_explicit_55 : decode prog_11_method_21_code 55 = .ok (.putfield 112, 3) := by decide +kernel
theorem twd_mo_explicit_58 : decode prog_11_method_21_code 58 = .ok (.iconst 0, 1) := by decide +kernel
theorem twd_mo_explicit_59 : decode prog_11_method_21_code 59 = .ok (.istore_n 1, 1) := by decide +kernel
theorem twd_mo_explicit_60 : decode prog_11_method_21_code 60 = .ok (.iload_n 1, 1) := by decide +kernel
theorem twd_mo_explicit_61 : decode prog_11_method_21_code 61 = .ok (.aload_n 0, 1) := by decide +kernel
theorem twd_mo_explicit_62 : decode prog_11_method_21_code 62 = .ok (.getfield 69, 3) := by decide +kernel
theorem twd_mo_explicit_65 : decode prog_11_method_21_code 65 = .ok (.if_icmp .ge 98, 3) := by decide +kernel
theorem twd_mo_explicit_68 : decode prog_11_method_21_code 68 = .ok (.aload_n 0, 1) := by decide +kernel
theorem twd_mo_explicit_69 : decode prog_11_method_21_code 69 = .ok (.getfield 16, 3) := by decide +kernel
theorem twd_mo_explicit_72 : decode prog_11_method_21_code 72 = .ok (.iload_n 1, 1) := by decide +kernel
theorem twd_mo_explicit_73 : decode prog_11_method_21_code 73 = .ok (.iaload, 1) := by decide +kernel
theorem twd_mo_explicit_74 : decode prog_11_method_21_code 74 = .ok (.istore_n 2, 1) := by decide +kernel
theorem twd_mo_explicit_75 : decode prog_11_method_21_code 75 = .ok (.aload_n 0, 1) := by decide +kernel
theorem twd_mo_explicit_76 : decode prog_11_method_21_code 76 = .ok (.getfield 32, 3) := by decide +kernel
theorem twd_mo_explicit_79 : decode prog_11_method_21_code 79 = .ok (.iload_n 1, 1) := by decide +kernel
theorem twd_mo_explicit_80 : decode prog_11_method_21_code 80 = .ok (.iconst (-1), 1) := by decide +kernel
theorem twd_mo_explicit_81 : decode prog_11_method_21_code 81 = .ok (.iastore, 1) := by decide +kernel
theorem twd_mo_explicit_82 : decode prog_11_method_21_code 82 = .ok (.aload_n 0, 1) := by decide +kernel
theorem twd_mo_explicit_83 : decode prog_11_method_21_code 83 = .ok (.getfield 38, 3) := by decide +kernel
theorem twd_mo_explicit_86 : decode prog_11_method_21_code 86 = .ok (.iload_n 1, 1) := by decide +kernel
theorem twd_mo_explicit_87 : decode prog_11_method_21_code 87 = .ok (.iconst (-1), 1) := by decide +kernel
theorem twd_mo_explicit_88 : decode prog_11_method_21_code 88 = .ok (.iastore, 1) := by decide +kernel
theorem twd_mo_explicit_89 : decode prog_11_method_21_code 89 = .ok (.iload_n 2, 1) := by decide +kernel
theorem twd_mo_explicit_90 : decode prog_11_method_21_code 90 = .ok (.bipush 12, 2) := by decide +kernel
theorem twd_mo_explicit_92 : decode prog_11_method_21_code 92 = .ok (.if_icmp .lt 17, 3) := by decide +kernel
theorem twd_mo_explicit_95 : decode prog_11_method_21_code 95 = .ok (.iload_n 2, 1) := by decide +kernel
theorem twd_mo_explicit_96 : decode prog_11_method_21_code 96 = .ok (.bipush 15, 2) := by decide +kernel
theorem twd_mo_explicit_98 : decode prog_11_method_21_code 98 = .ok (.if_icmp .gt 11, 3) := by decide +kernel
theorem twd_mo_explicit_101 : decode prog_11_method_21_code 101 = .ok (.aload_n 0, 1) := by decide +kernel
theorem twd_mo_explicit_102 : decode prog_11_method_21_code 102 = .ok (.iload_n 2, 1) := by decide +kernel
theorem twd_mo_explicit_103 : decode prog_11_method_21_code 103 = .ok (.invokevirtual 118, 3) := by decide +kernel
theorem twd_mo_explicit_106 : decode prog_11_method_21_code 106 = .ok (.goto 51, 3) := by decide +kernel
theorem twd_mo_explicit_109 : decode prog_11_method_21_code 109 = .ok (.iload_n 2, 1) := by decide +kernel
theorem twd_mo_explicit_110 : decode prog_11_method_21_code 110 = .ok (.bipush 16, 2) := by decide +kernel
theorem twd_mo_explicit_112 : decode prog_11_method_21_code 112 = .ok (.if_icmp .ne 10, 3) := by decide +kernel
theorem twd_mo_explicit_115 : decode prog_11_method_21_code 115 = .ok (.aload_n 0, 1) := by decide +kernel
theorem twd_mo_explicit_116 : decode prog_11_method_21_code 116 = .ok (.invokevirtual 121, 3) := by decide +kernel
theorem twd_mo_explicit_119 : decode prog_11_method_21_code 119 = .ok (.goto 38, 3) := by decide +kernel
theorem twd_mo_explicit_122 : decode prog_11_method_21_code 122 = .ok (.aload_n 0, 1) := by decide +kernel
theorem twd_mo_explicit_123 : decode prog_11_method_21_code 123 = .ok (.iload_n 1, 1) := by decide +kernel
theorem twd_mo_explicit_124 : decode prog_11_method_21_code 124 = .ok (.invokevirtual 76, 3) := by decide +kernel
theorem twd_mo_explicit_127 : decode prog_11_method_21_code 127 = .ok (.ifCond .eq 11, 3) := by decide +kernel
theorem twd_mo_explicit_130 : decode prog_11_method_21_code 130 = .ok (.aload_n 0, 1) := by decide +kernel
theorem twd_mo_explicit_131 : decode prog_11_method_21_code 131 = .ok (.iload_n 1, 1) := by decide +kernel
theorem twd_mo_explicit_132 : decode prog_11_method_21_code 132 = .ok (.invokevirtual 124, 3) := by decide +kernel
theorem twd_mo_explicit_135 : decode prog_11_method_21_code 135 = .ok (.goto 22, 3) := by decide +kernel
theorem twd_mo_explicit_138 : decode prog_11_method_21_code 138 = .ok (.iload_n 2, 1) := by decide +kernel
theorem twd_mo_explicit_139 : decode prog_11_method_21_code 139 = .ok (.bipush 20, 2) := by decide +kernel
theorem twd_mo_explicit_141 : decode prog_11_method_21_code 141 = .ok (.if_icmp .ne 11, 3) := by decide +kernel
theorem twd_mo_explicit_144 : decode prog_11_method_21_code 144 = .ok (.aload_n 0, 1) := by decide +kernel
theorem twd_mo_explicit_145 : decode prog_11_method_21_code 145 = .ok (.iload_n 1, 1) := by decide +kernel
theorem twd_mo_explicit_146 : decode prog_11_method_21_code 146 = .ok (.invokevirtual 127, 3) := by decide +kernel
theorem twd_mo_explicit_149 : decode prog_11_method_21_code 149 = .ok (.goto 8, 3) := by decide +kernel
theorem twd_mo_explicit_152 : decode prog_11_method_21_code 152 = .ok (.aload_n 0, 1) := by decide +kernel
theorem twd_mo_explicit_153 : decode prog_11_method_21_code 153 = .ok (.iload_n 1, 1) := by decide +kernel
theorem twd_mo_explicit_154 : decode prog_11_method_21_code 154 = .ok (.invokevirtual 104, 3) := by decide +kernel
theorem twd_mo_explicit_157 : decode prog_11_method_21_code 157 = .ok (.iinc 1 1, 3) := by decide +kernel
theorem twd_mo_explicit_160 : decode prog_11_method_21_code 160 = .ok (.goto (-100), 3) := by decide +kernel
theorem twd_mo_explicit_163 : decode prog_11_method_21_code 163 = .ok (.return_, 1) := by decide +kernel
theorem twk_mo_explicit : tw_dc twy_mo_explicit 0 := ⟨by decide +kernel, by decide +kernel, by decide +kernel⟩
theorem twd_mo_seen_0 : decode prog_11_method_22_code 0 = .ok (.iload_n 1, 1) := by decide +kernel
theorem twd_mo_seen_1 : decode prog_11_method_22_code 1 = .ok (.istore_n 3, 1) := by decide +kernel
theorem twd_mo_seen_2 : decode prog_11_method_22_code 2 = .ok (.iload_n 3, 1) := by decide +kernel
theorem twd_mo_seen_3 : decode prog_11_method_22_code 3 = .ok (.ifCond .lt 26, 3) := by decide +kernel
theorem twd_mo_seen_6 : decode prog_11_method_22_code 6 = .ok (.iload_n 3, 1) := by decide +kernel
theorem twd_mo_seen_7 : decode prog_11_method_22_code 7 = .ok (.aload_n 0, 1) := by decide +kernel
theorem twd_mo_seen_8 : decode prog_11_method_22_code 8 = .ok (.getfield 69, 3) := by decide +kernel
theorem twd_mo_seen_11 : decode prog_11_method_22_code 11 = .ok (.if_icmp .ge 18, 3) := by decide +kernel
theorem twd_mo_seen_14 : decode prog_11_method_22_code 14 = .ok (.aload_n 0, 1) := by decide +kernel
theorem twd_mo_seen_15 : decode prog_11_method_22_code 15 = .ok (.iload_n 3, 1) := by decide +kernel
theorem twd_mo_seen_16 : decode prog_11_method_22_code 16 = .ok (.invokevirtual 130, 3) := by decide +kernel
theorem twd_mo_seen_19 : decode prog_11_method_22_code 19 = .ok (.ifCond .eq 10, 3) := by decide +kernel
theorem twd_mo_seen_22 : decode prog_11_method_22_code 22 = .ok (.iload_n 3, 1) := by decide +kernel
theorem twd_mo_seen_23 : decode prog_11_method_22_code 23 = .ok (.iload_n 2, 1) := by decide +kernel
theorem twd_mo_seen_24 : decode prog_11_method_22_code 24 = .ok (.iadd, 1) := by decide +kernel
theorem twd_mo_seen_25 : decode prog_11_method_22_code 25 = .ok (.istore_n 3, 1) := by decide +kernel
theorem twd_mo_seen_26 : decode prog_11_method_22_code 26 = .ok (.goto (-24), 3) := by decide +kernel
theorem twd_mo_seen_29 : decode prog_11_method_22_code 29 = .ok (.iload_n 3, 1) := by decide +kernel
theorem twd_mo_seen_30 : decode prog_11_method_22_code 30 = .ok (.ifCond .lt 11, 3) := by decide +kernel
theorem twd_mo_seen_33 : decode prog_11_method_22_code 33 = .ok (.iload_n 3, 1) := by decide +kernel
theorem twd_mo_seen_34 : decode prog_11_method_22_code 34 = .ok (.aload_n 0, 1) := by decide +kernel
theorem twd_mo_seen_35 : decode prog_11_method_22_code 35 = .ok (.getfield 69, 3) := by decide +kernel
theorem twd_mo_seen_38 : decode prog_11_method_22_code 38 = .ok (.if_icmp .lt 7, 3) := by decide +kernel
theorem twd_mo_seen_41 : decode prog_11_method_22_code 41 = .ok (.iconst (-1), 1) := by decide +kernel
theorem twd_mo_seen_42 : decode prog_11_method_22_code 42 = .ok (.goto 4, 3) := by decide +kernel
theorem twd_mo_seen_45 : decode prog_11_method_22_code 45 = .ok (.iload_n 3, 1) := by decide +kernel
theorem twd_mo_seen_46 : decode prog_11_method_22_code 46 = .ok (.ireturn, 1) := by decide +kernel
theorem twk_mo_seen : tw_dc twy_mo_seen 2 := ⟨by decide +kernel, by decide +kernel, by decide +kernel⟩
theorem twd_mo_beginsRun_0 : decode prog_11_method_23_code 0 = .ok (.aload_n 0, 1) := by decide +kernel
theorem twd_mo_beginsRun_1 : decode prog_11_method_23_code 1 = .ok (.iload_n 1, 1) := by decide +kernel
theorem twd_mo_beginsRun_2 : decode prog_11_method_23_code 2 = .ok (.iconst 1, 1) := by decide +kernel
theorem twd_mo_beginsRun_3 : decode prog_11_method_23_code 3 = .ok (.isub, 1) := by decide +kernel
theorem twd_mo_beginsRun_4 : decode prog_11_method_23_code 4 = .ok (.iconst (-1), 1) := by decide +kernel
theorem twd_mo_beginsRun_5 : decode prog_11_method_23_code 5 = .ok (.invokevirtual 133, 3) := by decide +kernel
theorem twd_mo_beginsRun_8 : decode prog_11_method_23_code 8 = .ok (.istore_n 2, 1) := by decide +kernel
theorem twd_mo_beginsRun_9 : decode prog_11_method_23_code 9 = .ok (.iload_n 2, 1) := by decide +kernel
theorem twd_mo_beginsRun_10 : decode prog_11_method_23_code 10 = .ok (.ifCond .lt 18, 3) := by decide +kernel
theorem twd_mo_beginsRun_13 : decode prog_11_method_23_code 13 = .ok (.aload_n 0, 1) := by decide +kernel
theorem twd_mo_beginsRun_14 : decode prog_11_method_23_code 14 = .ok (.getfield 29, 3) := by decide +kernel
theorem twd_mo_beginsRun_17 : decode prog_11_method_23_code 17 = .ok (.iload_n 2, 1) := by decide +kernel
theorem twd_mo_beginsRun_18 : decode prog_11_method_23_code 18 = .ok (.iaload, 1) := by decide +kernel
theorem twd_mo_beginsRun_19 : decode prog_11_method_23_code 19 = .ok (.aload_n 0, 1) := by decide +kernel
theorem twd_mo_beginsRun_20 : decode prog_11_method_23_code 20 = .ok (.getfield 29, 3) := by decide +kernel
theorem twd_mo_beginsRun_23 : decode prog_11_method_23_code 23 = .ok (.iload_n 1, 1) := by decide +kernel
theorem twd_mo_beginsRun_24 : decode prog_11_method_23_code 24 = .ok (.iaload, 1) := by decide +kernel
theorem twd_mo_beginsRun_25 : decode prog_11_method_23_code 25 = .ok (.if_icmp .eq 7, 3) := by decide +kernel
theorem twd_mo_beginsRun_28 : decode prog_11_method_23_code 28 = .ok (.iconst 1, 1) := by decide +kernel
theorem twd_mo_beginsRun_29 : decode prog_11_method_23_code 29 = .ok (.goto 4, 3) := by decide +kernel
theorem twd_mo_beginsRun_32 : decode prog_11_method_23_code 32 = .ok (.iconst 0, 1) := by decide +kernel
theorem twd_mo_beginsRun_33 : decode prog_11_method_23_code 33 = .ok (.ireturn, 1) := by decide +kernel
theorem twk_mo_beginsRun : tw_dc twy_mo_beginsRun 1 := ⟨by decide +kernel, by decide +kernel, by decide +kernel⟩
theorem twd_mo_addRun_0 : decode prog_11_method_24_code 0 = .ok (.iload_n 1, 1) := by decide +kernel
theorem twd_mo_addRun_1 : decode prog_11_method_24_code 1 = .ok (.istore_n 2, 1) := by decide +kernel
theorem twd_mo_addRun_2 : decode prog_11_method_24_code 2 = .ok (.aload_n 0, 1) := by decide +kernel
theorem twd_mo_addRun_3 : decode prog_11_method_24_code 3 = .ok (.iload_n 2, 1) := by decide +kernel
theorem twd_mo_addRun_4 : decode prog_11_method_24_code 4 = .ok (.invokevirtual 136, 3) := by decide +kernel
theorem twd_mo_addRun_7 : decode prog_11_method_24_code 7 = .ok (.ifCond .ne 15, 3) := by decide +kernel
theorem twd_mo_addRun_10 : decode prog_11_method_24_code 10 = .ok (.aload_n 0, 1) := by decide +kernel
theorem twd_mo_addRun_11 : decode prog_11_method_24_code 11 = .ok (.iload_n 2, 1) := by decide +kernel
theorem twd_mo_addRun_12 : decode prog_11_method_24_code 12 = .ok (.iconst 1, 1) := by decide +kernel
theorem twd_mo_addRun_13 : decode prog_11_method_24_code 13 = .ok (.isub, 1) := by decide +kernel
theorem twd_mo_addRun_14 : decode prog_11_method_24_code 14 = .ok (.iconst (-1), 1) := by decide +kernel
theorem twd_mo_addRun_15 : decode prog_11_method_24_code 15 = .ok (.invokevirtual 133, 3) := by decide +kernel
theorem twd_mo_addRun_18 : decode prog_11_method_24_code 18 = .ok (.istore_n 2, 1) := by decide +kernel
theorem twd_mo_addRun_19 : decode prog_11_method_24_code 19 = .ok (.goto (-17), 3) := by decide +kernel
theorem twd_mo_addRun_22 : decode prog_11_method_24_code 22 = .ok (.aload_n 0, 1) := by decide +kernel
theorem twd_mo_addRun_23 : decode prog_11_method_24_code 23 = .ok (.getfield 29, 3) := by decide +kernel
theorem twd_mo_addRun_26 : decode prog_11_method_24_code 26 = .ok (.iload_n 2, 1) := by decide +kernel
theorem twd_mo_addRun_27 : decode prog_11_method_24_code 27 = .ok (.iaload, 1) := by decide +kernel
theorem twd_mo_addRun_28 : decode prog_11_method_24_code 28 = .ok (.istore_n 3, 1) := by decide +kernel
theorem twd_mo_addRun_29 : decode prog_11_method_24_code 29 = .ok (.iload_n 2, 1) := by decide +kernel
theorem twd_mo_addRun_30 : decode prog_11_method_24_code 30 = .ok (.ifCond .lt 54, 3) := by decide +kernel
theorem twd_mo_addRun_33 : decode prog_11_method_24_code 33 = .ok (.aload_n 0, 1) := by decide +kernel
theorem twd_mo_addRun_34 : decode prog_11_method_24_code 34 = .ok (.getfield 29, 3) := by decide +kernel
theorem twd_mo_addRun_37 : decode prog_11_method_24_code 37 = .ok (.iload_n 2, 1) := by decide +kernel
theorem twd_mo_addRun_38 : decode prog_11_method_24_code 38 = .ok (.iaload, 1) := by decide +kernel
theorem twd_mo_addRun_39 : decode prog_11_method_24_code 39 = .ok (.iload_n 3, 1) := by decide +kernel
theorem twd_mo_addRun_40 : decode prog_11_method_24_code 40 = .ok (.if_icmp .ne 44, 3) := by decide +kernel
theorem twd_mo_addRun_43 : decode prog_11_method_24_code 43 = .ok (.aload_n 0, 1) := by decide +kernel
theorem twd_mo_addRun_44 : decode prog_11_method_24_code 44 = .ok (.getfield 139, 3) := by decide +kernel
theorem twd_mo_addRun_47 : decode prog_11_method_24_code 47 = .ok (.bipush 64, 2) := by decide +kernel
theorem twd_mo_addRun_49 : decode prog_11_method_24_code 49 = .ok (.if_icmp .ge 35, 3) := by decide +kernel
theorem twd_mo_addRun_52 : decode prog_11_method_24_code 52 = .ok (.aload_n 0, 1) := by decide +kernel
theorem twd_mo_addRun_53 : decode prog_11_method_24_code 53 = .ok (.getfield 51, 3) := by decide +kernel
theorem twd_mo_addRun_56 : decode prog_11_method_24_code 56 = .ok (.aload_n 0, 1) := by decide +kernel
theorem twd_mo_addRun_57 : decode prog_11_method_24_code 57 = .ok (.getfield 139, 3) := by decide +kernel
theorem twd_mo_addRun_60 : decode prog_11_method_24_code 60 = .ok (.iload_n 2, 1) := by decide +kernel
theorem twd_mo_addRun_61 : decode prog_11_method_24_code 61 = .ok (.iastore, 1) := by decide +kernel
theorem twd_mo_addRun_62 : decode prog_11_method_24_code 62 = .ok (.aload_n 0, 1) := by decide +kernel
theorem twd_mo_addRun_63 : decode prog_11_method_24_code 63 = .ok (.dup, 1) := by decide +kernel
theorem twd_mo_addRun_64 : decode prog_11_method_24_code 64 = .ok (.getfield 139, 3) := by decide +kernel
theorem twd_mo_addRun_67 : decode prog_11_method_24_code 67 = .ok (.iconst 1, 1) := by decide +kernel
theorem twd_mo_addRun_68 : decode prog_11_method_24_code 68 = .ok (.iadd, 1) := by decide +kernel
theorem twd_mo_addRun_69 : decode prog_11_method_24_code 69 = .ok (.putfield 139, 3) := by decide +kernel
theorem twd_mo_addRun_72 : decode prog_11_method_24_code 72 = .ok (.aload_n 0, 1) := by decide +kernel
theorem twd_mo_addRun_73 : decode prog_11_method_24_code 73 = .ok (.iload_n 2, 1) := by decide +kernel
theorem twd_mo_addRun_74 : decode prog_11_method_24_code 74 = .ok (.iconst 1, 1) := by decide +kernel
theorem twd_mo_addRun_75 : decode prog_11_method_24_code 75 = .ok (.iadd, 1) := by decide +kernel
theorem twd_mo_addRun_76 : decode prog_11_method_24_code 76 = .ok (.iconst 1, 1) := by decide +kernel
theorem twd_mo_addRun_77 : decode prog_11_method_24_code 77 = .ok (.invokevirtual 133, 3) := by decide +kernel
theorem twd_mo_addRun_80 : decode prog_11_method_24_code 80 = .ok (.istore_n 2, 1) := by decide +kernel
theorem twd_mo_addRun_81 : decode prog_11_method_24_code 81 = .ok (.goto (-52), 3) := by decide +kernel
theorem twd_mo_addRun_84 : decode prog_11_method_24_code 84 = .ok (.return_, 1) := by decide +kernel
theorem twk_mo_addRun : tw_dc twy_mo_addRun 1 := ⟨by decide +kernel, by decide +kernel, by decide +kernel⟩
theorem twd_mo_bounds_0 : decode prog_11_method_26_code 0 = .ok (.aload_n 0, 1) := by decide +kernel
theorem twd_mo_bounds_1 : decode prog_11_method_26_code 1 = .ok (.getfield 29, 3) := by decide +kernel
theorem twd_mo_bounds_4 : decode prog_11_method_26_code 4 = .ok (.aload_n 0, 1) := by decide +kernel
theorem twd_mo_bounds_5 : decode prog_11_method_26_code 5 = .ok (.getfield 51, 3) := by decide +kernel
theorem twd_mo_bounds_8 : decode prog_11_method_26_code 8 = .ok (.iconst 0, 1) := by decide +kernel
theorem twd_mo_bounds_9 : decode prog_11_method_26_code 9 = .ok (.iaload, 1) := by decide +kernel
theorem twd_mo_bounds_10 : decode prog_11_method_26_code 10 = .ok (.iaload, 1) := by decide +kernel
theorem twd_mo_bounds_11 : decode prog_11_method_26_code 11 = .ok (.istore_n 1, 1) := by decide +kernel
theorem twd_mo_bounds_12 : decode prog_11_method_26_code 12 = .ok (.aload_n 0, 1) := by decide +kernel
theorem twd_mo_bounds_13 : decode prog_11_method_26_code 13 = .ok (.getfield 51, 3) := by decide +kernel
theorem twd_mo_bounds_16 : decode prog_11_method_26_code 16 = .ok (.aload_n 0, 1) := by decide +kernel
theorem twd_mo_bounds_17 : decode prog_11_method_26_code 17 = .ok (.getfield 139, 3) := by decide +kernel
theorem twd_mo_bounds_20 : decode prog_11_method_26_code 20 = .ok (.iconst 1, 1) := by decide +kernel
theorem twd_mo_bounds_21 : decode prog_11_method_26_code 21 = .ok (.isub, 1) := by decide +kernel
theorem twd_mo_bounds_22 : decode prog_11_method_26_code 22 = .ok (.iaload, 1) := by decide +kernel
theorem twd_mo_bounds_23 : decode prog_11_method_26_code 23 = .ok (.istore_n 2, 1) := by decide +kernel
theorem twd_mo_bounds_24 : decode prog_11_method_26_code 24 = .ok (.aload_n 0, 1) := by decide +kernel
theorem twd_mo_bounds_25 : decode prog_11_method_26_code 25 = .ok (.aload_n 0, 1) := by decide +kernel
theorem twd_mo_bounds_26 : decode prog_11_method_26_code 26 = .ok (.getfield 51, 3) := by decide +kernel
theorem twd_mo_bounds_29 : decode prog_11_method_26_code 29 = .ok (.iconst 0, 1) := by decide +kernel
theorem twd_mo_bounds_30 : decode prog_11_method_26_code 30 = .ok (.iaload, 1) := by decide +kernel
theorem twd_mo_bounds_31 : decode prog_11_method_26_code 31 = .ok (.iconst 1, 1) := by decide +kernel
theorem twd_mo_bounds_32 : decode prog_11_method_26_code 32 = .ok (.isub, 1) := by decide +kernel
theorem twd_mo_bounds_33 : decode prog_11_method_26_code 33 = .ok (.iconst (-1), 1) := by decide +kernel
theorem twd_mo_bounds_34 : decode prog_11_method_26_code 34 = .ok (.invokevirtual 133, 3) := by decide +kernel
theorem twd_mo_bounds_37 : decode prog_11_method_26_code 37 = .ok (.istore_n 3, 1) := by decide +kernel
theorem twd_mo_bounds_38 : decode prog_11_method_26_code 38 = .ok (.aload_n 0, 1) := by decide +kernel
theorem twd_mo_bounds_39 : decode prog_11_method_26_code 39 = .ok (.iload_n 2, 1) := by decide +kernel
theorem twd_mo_bounds_40 : decode prog_11_method_26_code 40 = .ok (.invokevirtual 76, 3) := by decide +kernel
theorem twd_mo_bounds_43 : decode prog_11_method_26_code 43 = .ok (.ifCond .eq 15, 3) := by decide +kernel
theorem twd_mo_bounds_46 : decode prog_11_method_26_code 46 = .ok (.aload_n 0, 1) := by decide +kernel
theorem twd_mo_bounds_47 : decode prog_11_method_26_code 47 = .ok (.iload_n 2, 1) := by decide +kernel
theorem twd_mo_bounds_48 : decode prog_11_method_26_code 48 = .ok (.invokevirtual 80, 3) := by decide +kernel
theorem twd_mo_bounds_51 : decode prog_11_method_26_code 51 = .ok (.ifCond .ge 7, 3) := by decide +kernel
theorem twd_mo_bounds_54 : decode prog_11_method_26_code 54 = .ok (.iconst (-1), 1) := by decide +kernel
theorem twd_mo_bounds_55 : decode prog_11_method_26_code 55 = .ok (.goto 11, 3) := by decide +kernel
theorem twd_mo_bounds_58 : decode prog_11_method_26_code 58 = .ok (.aload_n 0, 1) := by decide +kernel
theorem twd_mo_bounds_59 : decode prog_11_method_26_code 59 = .ok (.iload_n 2, 1) := by decide +kernel
theorem twd_mo_bounds_60 : decode prog_11_method_26_code 60 = .ok (.iconst 1, 1) := by decide +kernel
theorem twd_mo_bounds_61 : decode prog_11_method_26_code 61 = .ok (.iadd, 1) := by decide +kernel
theorem twd_mo_bounds_62 : decode prog_11_method_26_code 62 = .ok (.iconst 1, 1) := by decide +kernel
theorem twd_mo_bounds_63 : decode prog_11_method_26_code 63 = .ok (.invokevirtual 133, 3) := by decide +kernel
theorem twd_mo_bounds_66 : decode prog_11_method_26_code 66 = .ok (.istore 4, 2) := by decide +kernel
theorem twd_mo_bounds_68 : decode prog_11_method_26_code 68 = .ok (.iload_n 3, 1) := by decide +kernel
theorem twd_mo_bounds_69 : decode prog_11_method_26_code 69 = .ok (.ifCond .ge 10, 3) := by decide +kernel
theorem twd_mo_bounds_72 : decode prog_11_method_26_code 72 = .ok (.aload_n 0, 1) := by decide +kernel
theorem twd_mo_bounds_73 : decode prog_11_method_26_code 73 = .ok (.getfield 115, 3) := by decide +kernel
theorem twd_mo_bounds_76 : decode prog_11_method_26_code 76 = .ok (.goto 9, 3) := by decide +kernel
theorem twd_mo_bounds_79 : decode prog_11_method_26_code 79 = .ok (.aload_n 0, 1) := by decide +kernel
theorem twd_mo_bounds_80 : decode prog_11_method_26_code 80 = .ok (.getfield 29, 3) := by decide +kernel
theorem twd_mo_bounds_83 : decode prog_11_method_26_code 83 = .ok (.iload_n 3, 1) := by decide +kernel
theorem twd_mo_bounds_84 : decode prog_11_method_26_code 84 = .ok (.iaload, 1) := by decide +kernel
theorem twd_mo_bounds_85 : decode prog_11_method_26_code 85 = .ok (.istore 5, 2) := by decide +kernel
theorem twd_mo_bounds_87 : decode prog_11_method_26_code 87 = .ok (.iload 4, 2) := by decide +kernel
theorem twd_mo_bounds_89 : decode prog_11_method_26_code 89 = .ok (.ifCond .ge 10, 3) := by decide +kernel
theorem twd_mo_bounds_92 : decode prog_11_method_26_code 92 = .ok (.aload_n 0, 1) := by decide +kernel
theorem twd_mo_bounds_93 : decode prog_11_method_26_code 93 = .ok (.getfield 115, 3) := by decide +kernel
theorem twd_mo_bounds_96 : decode prog_11_method_26_code 96 = .ok (.goto 10, 3) := by decide +kernel
theorem twd_mo_bounds_99 : decode prog_11_method_26_code 99 = .ok (.aload_n 0, 1) := by decide +kernel
theorem twd_mo_bounds_100 : decode prog_11_method_26_code 100 = .ok (.getfield 29, 3) := by decide +kernel
theorem twd_mo_bounds_103 : decode prog_11_method_26_code 103 = .ok (.iload 4, 2) := by decide +kernel
theorem twd_mo_bounds_105 : decode prog_11_method_26_code 105 = .ok (.iaload, 1) := by decide +kernel
theorem twd_mo_bounds_106 : decode prog_11_method_26_code 106 = .ok (.istore 6, 2) := by decide +kernel
theorem twd_mo_bounds_108 : decode prog_11_method_26_code 108 = .ok (.aload_n 0, 1) := by decide +kernel
theorem twd_mo_bounds_109 : decode prog_11_method_26_code 109 = .ok (.iload 5, 2) := by decide +kernel
theorem twd_mo_bounds_111 : decode prog_11_method_26_code 111 = .ok (.iload_n 1, 1) := by decide +kernel
theorem twd_mo_bounds_112 : decode prog_11_method_26_code 112 = .ok (.if_icmp .le 8, 3) := by decide +kernel
theorem twd_mo_bounds_115 : decode prog_11_method_26_code 115 = .ok (.iload 5, 2) := by decide +kernel
theorem twd_mo_bounds_117 : decode prog_11_method_26_code 117 = .ok (.goto 4, 3) := by decide +kernel
theorem twd_mo_bounds_120 : decode prog_11_method_26_code 120 = .ok (.iload_n 1, 1) := by decide +kernel
theorem twd_mo_bounds_121 : decode prog_11_method_26_code 121 = .ok (.iconst 2, 1) := by decide +kernel
theorem twd_mo_bounds_122 : decode prog_11_method_26_code 122 = .ok (.irem, 1) := by decide +kernel
theorem twd_mo_bounds_123 : decode prog_11_method_26_code 123 = .ok (.putfield 160, 3) := by decide +kernel
theorem twd_mo_bounds_126 : decode prog_11_method_26_code 126 = .ok (.aload_n 0, 1) := by decide +kernel
theorem twd_mo_bounds_127 : decode prog_11_method_26_code 127 = .ok (.iload 6, 2) := by decide +kernel
theorem twd_mo_bounds_129 : decode prog_11_method_26_code 129 = .ok (.iload_n 1, 1) := by decide +kernel
theorem twd_mo_bounds_130 : decode prog_11_method_26_code 130 = .ok (.if_icmp .le 8, 3) := by decide +kernel
theorem twd_mo_bounds_133 : decode prog_11_method_26_code 133 = .ok (.iload 6, 2) := by decide +kernel
theorem twd_mo_bounds_135 : decode prog_11_method_26_code 135 = .ok (.goto 4, 3) := by decide +kernel
theorem twd_mo_bounds_138 : decode prog_11_method_26_code 138 = .ok (.iload_n 1, 1) := by decide +kernel
theorem twd_mo_bounds_139 : decode prog_11_method_26_code 139 = .ok (.iconst 2, 1) := by decide +kernel
theorem twd_mo_bounds_140 : decode prog_11_method_26_code 140 = .ok (.irem, 1) := by decide +kernel
theorem twd_mo_bounds_141 : decode prog_11_method_26_code 141 = .ok (.putfield 163, 3) := by decide +kernel
theorem twd_mo_bounds_144 : decode prog_11_method_26_code 144 = .ok (.aload_n 0, 1) := by decide +kernel
theorem twd_mo_bounds_145 : decode prog_11_method_26_code 145 = .ok (.iload_n 1, 1) := by decide +kernel
theorem twd_mo_bounds_146 : decode prog_11_method_26_code 146 = .ok (.iconst 2, 1) := by decide +kernel
theorem twd_mo_bounds_147 : decode prog_11_method_26_code 147 = .ok (.irem, 1) := by decide +kernel
theorem twd_mo_bounds_148 : decode prog_11_method_26_code 148 = .ok (.putfield 166, 3) := by decide +kernel
theorem twd_mo_bounds_151 : decode prog_11_method_26_code 151 = .ok (.return_, 1) := by decide +kernel
theorem twk_mo_bounds : tw_dc twy_mo_bounds 0 := ⟨by decide +kernel, by decide +kernel, by decide +kernel⟩
theorem twd_mo_at_0 : decode prog_11_method_27_code 0 = .ok (.aload_n 0, 1) := by decide +kernel
theorem twd_mo_at_1 : decode prog_11_method_27_code 1 = .ok (.getfield 32, 3) := by decide +kernel
theorem twd_mo_at_4 : decode prog_11_method_27_code 4 = .ok (.aload_n 0, 1) := by decide +kernel
theorem twd_mo_at_5 : decode prog_11_method_27_code 5 = .ok (.getfield 51, 3) := by decide +kernel
theorem twd_mo_at_8 : decode prog_11_method_27_code 8 = .ok (.iload_n 1, 1) := by decide +kernel
theorem twd_mo_at_9 : decode prog_11_method_27_code 9 = .ok (.iaload, 1) := by decide +kernel
theorem twd_mo_at_10 : decode prog_11_method_27_code 10 = .ok (.iaload, 1) := by decide +kernel
theorem twd_mo_at_11 : decode prog_11_method_27_code 11 = .ok (.ireturn, 1) := by decide +kernel
theorem twk_mo_at : tw_dc twy_mo_at 1 := ⟨by decide +kernel, by decide +kernel, by decide +kernel⟩
theorem twd_mo_set_0 : decode prog_11_method_28_code 0 = .ok (.aload_n 0, 1) := by decide +kernel
theorem twd_mo_set_1 : decode prog_11_method_28_code 1 = .ok (.getfield 32, 3) := by decide +kernel
theorem twd_mo_set_4 : decode prog_11_method_28_code 4 = .ok (.aload_n 0, 1) := by decide +kernel
theorem twd_mo_set_5 : decode prog_11_method_28_code 5 = .ok (.getfield 51, 3) := by decide +kernel
theorem twd_mo_set_8 : decode prog_11_method_28_code 8 = .ok (.iload_n 1, 1) := by decide +kernel
theorem twd_mo_set_9 : decode prog_11_method_28_code 9 = .ok (.iaload, 1) := by decide +kernel
theorem twd_mo_set_10 : decode prog_11_method_28_code 10 = .ok (.iload_n 2, 1) := by decide +kernel
theorem twd_mo_set_11 : decode prog_11_method_28_code 11 = .ok (.iastore, 1) := by decide +kernel
theorem twd_mo_set_12 : decode prog_11_method_28_code 12 = .ok (.return_, 1) := by decide +kernel
theorem twk_mo_set : tw_dc twy_mo_set 2 := ⟨by decide +kernel, by decide +kernel, by decide +kernel⟩
theorem twd_mo_terminators_0 : decode prog_11_method_30_code 0 = .ok (.iconst 0, 1) := by decide +kernel
theorem twd_mo_terminators_1 : decode prog_11_method_30_code 1 = .ok (.istore_n 1, 1) := by decide +kernel
theorem twd_mo_terminators_2 : decode prog_11_method_30_code 2 = .ok (.iload_n 1, 1) := by decide +kernel
theorem twd_mo_terminators_3 : decode prog_11_method_30_code 3 = .ok (.aload_n 0, 1) := by decide +kernel
theorem twd_mo_terminators_4 : decode prog_11_method_30_code 4 = .ok (.getfield 139, 3) := by decide +kernel
theorem twd_mo_terminators_7 : decode prog_11_method_30_code 7 = .ok (.if_icmp .ge 113, 3) := by decide +kernel
theorem twd_mo_terminators_10 : decode prog_11_method_30_code 10 = .ok (.iload_n 1, 1) := by decide +kernel
theorem twd_mo_terminators_11 : decode prog_11_method_30_code 11 = .ok (.istore_n 2, 1) := by decide +kernel
theorem twd_mo_terminators_12 : decode prog_11_method_30_code 12 = .ok (.iload_n 2, 1) := by decide +kernel
theorem twd_mo_terminators_13 : decode prog_11_method_30_code 13 = .ok (.aload_n 0, 1) := by decide +kernel
theorem twd_mo_terminators_14 : decode prog_11_method_30_code 14 = .ok (.getfield 139, 3) := by decide +kernel
theorem twd_mo_terminators_17 : decode prog_11_method_30_code 17 = .ok (.if_icmp .ge 18, 3) := by decide +kernel
theorem twd_mo_terminators_20 : decode prog_11_method_30_code 20 = .ok (.aload_n 0, 1) := by decide +kernel
theorem twd_mo_terminators_21 : decode prog_11_method_30_code 21 = .ok (.iload_n 2, 1) := by decide +kernel
theorem twd_mo_terminators_22 : decode prog_11_method_30_code 22 = .ok (.invokevirtual 169, 3) := by decide +kernel
theorem twd_mo_terminators_25 : decode prog_11_method_30_code 25 = .ok (.iconst 5, 1) := by decide +kernel
theorem twd_mo_terminators_26 : decode prog_11_method_30_code 26 = .ok (.if_icmp .ne 9, 3) := by decide +kernel
theorem twd_mo_terminators_29 : decode prog_11_method_30_code 29 = .ok (.iinc 2 1, 3) := by decide +kernel
theorem twd_mo_terminators_32 : decode prog_11_method_30_code 32 = .ok (.goto (-20), 3) := by decide +kernel
theorem twd_mo_terminators_35 : decode prog_11_method_30_code 35 = .ok (.iload_n 2, 1) := by decide +kernel
theorem twd_mo_terminators_36 : decode prog_11_method_30_code 36 = .ok (.iload_n 1, 1) := by decide +kernel
theorem twd_mo_terminators_37 : decode prog_11_method_30_code 37 = .ok (.if_icmp .le 39, 3) := by decide +kernel
theorem twd_mo_terminators_40 : decode prog_11_method_30_code 40 = .ok (.iload_n 1, 1) := by decide +kernel
theorem twd_mo_terminators_41 : decode prog_11_method_30_code 41 = .ok (.ifCond .le 14, 3) := by decide +kernel
theorem twd_mo_terminators_44 : decode prog_11_method_30_code 44 = .ok (.aload_n 0, 1) := by decide +kernel
theorem twd_mo_terminators_45 : decode prog_11_method_30_code 45 = .ok (.iload_n 1, 1) := by decide +kernel
theorem twd_mo_terminators_46 : decode prog_11_method_30_code 46 = .ok (.iconst 1, 1) := by decide +kernel
theorem twd_mo_terminators_47 : decode prog_11_method_30_code 47 = .ok (.isub, 1) := by decide +kernel
theorem twd_mo_terminators_48 : decode prog_11_method_30_code 48 = .ok (.invokevirtual 169, 3) := by decide +kernel
theorem twd_mo_terminators_51 : decode prog_11_method_30_code 51 = .ok (.iconst 3, 1) := by decide +kernel
theorem twd_mo_terminators_52 : decode prog_11_method_30_code 52 = .ok (.if_icmp .eq 20, 3) := by decide +kernel
theorem twd_mo_terminators_55 : decode prog_11_method_30_code 55 = .ok (.iload_n 2, 1) := by decide +kernel
theorem twd_mo_terminators_56 : decode prog_11_method_30_code 56 = .ok (.aload_n 0, 1) := by decide +kernel
theorem twd_mo_terminators_57 : decode prog_11_method_30_code 57 = .ok (.getfield 139, 3) := by decide +kernel
theorem twd_mo_terminators_60 : decode prog_11_method_30_code 60 = .ok (.if_icmp .ge 16, 3) := by decide +kernel
theorem twd_mo_terminators_63 : decode prog_11_method_30_code 63 = .ok (.aload_n 0, 1) := by decide +kernel
theorem twd_mo_terminators_64 : decode prog_11_method_30_code 64 = .ok (.iload_n 2, 1) := by decide +kernel
theorem twd_mo_terminators_65 : decode prog_11_method_30_code 65 = .ok (.invokevirtual 169, 3) := by decide +kernel
theorem twd_mo_terminators_68 : decode prog_11_method_30_code 68 = .ok (.iconst 3, 1) := by decide +kernel
theorem twd_mo_terminators_69 : decode prog_11_method_30_code 69 = .ok (.if_icmp .ne 7, 3) := by decide +kernel
theorem twd_mo_terminators_72 : decode prog_11_method_30_code 72 = .ok (.iconst 1, 1) := by decide +kernel
theorem twd_mo_terminators_73 : decode prog_11_method_30_code 73 = .ok (.goto 4, 3) := by decide +kernel
theorem twd_mo_terminators_76 : decode prog_11_method_30_code 76 = .ok (.iconst 0, 1) := by decide +kernel
theorem twd_mo_terminators_77 : decode prog_11_method_30_code 77 = .ok (.istore_n 3, 1) := by decide +kernel
theorem twd_mo_terminators_78 : decode prog_11_method_30_code 78 = .ok (.iload_n 1, 1) := by decide +kernel
theorem twd_mo_terminators_79 : decode prog_11_method_30_code 79 = .ok (.istore 4, 2) := by decide +kernel
theorem twd_mo_terminators_81 : decode prog_11_method_30_code 81 = .ok (.iload 4, 2) := by decide +kernel
theorem twd_mo_terminators_83 : decode prog_11_method_30_code 83 = .ok (.iload_n 2, 1) := by decide +kernel
theorem twd_mo_terminators_84 : decode prog_11_method_30_code 84 = .ok (.if_icmp .ge 20, 3) := by decide +kernel
theorem twd_mo_terminators_87 : decode prog_11_method_30_code 87 = .ok (.iload_n 3, 1) := by decide +kernel
theorem twd_mo_terminators_88 : decode prog_11_method_30_code 88 = .ok (.ifCond .eq 16, 3) := by decide +kernel
theorem twd_mo_terminators_91 : decode prog_11_method_30_code 91 = .ok (.aload_n 0, 1) := by decide +kernel
theorem twd_mo_terminators_92 : decode prog_11_method_30_code 92 = .ok (.iload 4, 2) := by decide +kernel
theorem twd_mo_terminators_94 : decode prog_11_method_30_code 94 = .ok (.iconst 3, 1) := by decide +kernel
theorem twd_mo_terminators_95 : decode prog_11_method_30_code 95 = .ok (.invokevirtual 172, 3) := by decide +kernel
theorem twd_mo_terminators_98 : decode prog_11_method_30_code 98 = .ok (.iinc 4 1, 3) := by decide +kernel
theorem twd_mo_terminators_101 : decode prog_11_method_30_code 101 = .ok (.goto (-20), 3) := by decide +kernel
theorem twd_mo_terminators_104 : decode prog_11_method_30_code 104 = .ok (.iload_n 2, 1) := by decide +kernel
theorem twd_mo_terminators_105 : decode prog_11_method_30_code 105 = .ok (.iload_n 1, 1) := by decide +kernel
theorem twd_mo_terminators_106 : decode prog_11_method_30_code 106 = .ok (.if_icmp .le 7, 3) := by decide +kernel
theorem twd_mo_terminators_109 : decode prog_11_method_30_code 109 = .ok (.iload_n 2, 1) := by decide +kernel
theorem twd_mo_terminators_110 : decode prog_11_method_30_code 110 = .ok (.goto 6, 3) := by decide +kernel
theorem twd_mo_terminators_113 : decode prog_11_method_30_code 113 = .ok (.iload_n 1, 1) := by decide +kernel
theorem twd_mo_terminators_114 : decode prog_11_method_30_code 114 = .ok (.iconst 1, 1) := by decide +kernel
theorem twd_mo_terminators_115 : decode prog_11_method_30_code 115 = .ok (.iadd, 1) := by decide +kernel
theorem twd_mo_terminators_116 : decode prog_11_method_30_code 116 = .ok (.istore_n 1, 1) := by decide +kernel
theorem twd_mo_terminators_117 : decode prog_11_method_30_code 117 = .ok (.goto (-115), 3) := by decide +kernel
theorem twd_mo_terminators_120 : decode prog_11_method_30_code 120 = .ok (.iconst 0, 1) := by decide +kernel
theorem twd_mo_terminators_121 : decode prog_11_method_30_code 121 = .ok (.istore_n 2, 1) := by decide +kernel
theorem twd_mo_terminators_122 : decode prog_11_method_30_code 122 = .ok (.iload_n 2, 1) := by decide +kernel
theorem twd_mo_terminators_123 : decode prog_11_method_30_code 123 = .ok (.aload_n 0, 1) := by decide +kernel
theorem twd_mo_terminators_124 : decode prog_11_method_30_code 124 = .ok (.getfield 139, 3) := by decide +kernel
theorem twd_mo_terminators_127 : decode prog_11_method_30_code 127 = .ok (.if_icmp .ge 44, 3) := by decide +kernel
theorem twd_mo_terminators_130 : decode prog_11_method_30_code 130 = .ok (.aload_n 0, 1) := by decide +kernel
theorem twd_mo_terminators_131 : decode prog_11_method_30_code 131 = .ok (.iload_n 2, 1) := by decide +kernel
theorem twd_mo_terminators_132 : decode prog_11_method_30_code 132 = .ok (.invokevirtual 169, 3) := by decide +kernel
theorem twd_mo_terminators_135 : decode prog_11_method_30_code 135 = .ok (.iconst 4, 1) := by decide +kernel
theorem twd_mo_terminators_136 : decode prog_11_method_30_code 136 = .ok (.if_icmp .eq 22, 3) := by decide +kernel
theorem twd_mo_terminators_139 : decode prog_11_method_30_code 139 = .ok (.aload_n 0, 1) := by decide +kernel
theorem twd_mo_terminators_140 : decode prog_11_method_30_code 140 = .ok (.iload_n 2, 1) := by decide +kernel
theorem twd_mo_terminators_141 : decode prog_11_method_30_code 141 = .ok (.invokevirtual 169, 3) := by decide +kernel
theorem twd_mo_terminators_144 : decode prog_11_method_30_code 144 = .ok (.iconst 5, 1) := by decide +kernel
theorem twd_mo_terminators_145 : decode prog_11_method_30_code 145 = .ok (.if_icmp .eq 13, 3) := by decide +kernel
theorem twd_mo_terminators_148 : decode prog_11_method_30_code 148 = .ok (.aload_n 0, 1) := by decide +kernel
theorem twd_mo_terminators_149 : decode prog_11_method_30_code 149 = .ok (.iload_n 2, 1) := by decide +kernel
theorem twd_mo_terminators_150 : decode prog_11_method_30_code 150 = .ok (.invokevirtual 169, 3) := by decide +kernel
theorem twd_mo_terminators_153 : decode prog_11_method_30_code 153 = .ok (.bipush 7, 2) := by decide +kernel
theorem twd_mo_terminators_155 : decode prog_11_method_30_code 155 = .ok (.if_icmp .ne 10, 3) := by decide +kernel
theorem twd_mo_terminators_158 : decode prog_11_method_30_code 158 = .ok (.aload_n 0, 1) := by decide +kernel
theorem twd_mo_terminators_159 : decode prog_11_method_30_code 159 = .ok (.iload_n 2, 1) := by decide +kernel
theorem twd_mo_terminators_160 : decode prog_11_method_30_code 160 = .ok (.bipush 11, 2) := by decide +kernel
theorem twd_mo_terminators_162 : decode prog_11_method_30_code 162 = .ok (.invokevirtual 172, 3) := by decide +kernel
theorem twd_mo_terminators_165 : decode prog_11_method_30_code 165 = .ok (.iinc 2 1, 3) := by decide +kernel
theorem twd_mo_terminators_168 : decode prog_11_method_30_code 168 = .ok (.goto (-46), 3) := by decide +kernel
theorem twd_mo_terminators_171 : decode prog_11_method_30_code 171 = .ok (.return_, 1) := by decide +kernel
theorem twk_mo_terminators : tw_dc twy_mo_terminators 0 := ⟨by decide +kernel, by decide +kernel, by decide +kernel⟩
theorem twd_mo_weak_0 : decode prog_11_method_29_code 0 = .ok (.iconst 0, 1) := by decide +kernel
theorem twd_mo_weak_1 : decode prog_11_method_29_code 1 = .ok (.istore_n 1, 1) := by decide +kernel
theorem twd_mo_weak_2 : decode prog_11_method_29_code 2 = .ok (.iload_n 1, 1) := by decide +kernel
theorem twd_mo_weak_3 : decode prog_11_method_29_code 3 = .ok (.aload_n 0, 1) := by decide +kernel
theorem twd_mo_weak_4 : decode prog_11_method_29_code 4 = .ok (.getfield 139, 3) := by decide +kernel
theorem twd_mo_weak_7 : decode prog_11_method_29_code 7 = .ok (.if_icmp .ge 75, 3) := by decide +kernel
theorem twd_mo_weak_10 : decode prog_11_method_29_code 10 = .ok (.aload_n 0, 1) := by decide +kernel
theorem twd_mo_weak_11 : decode prog_11_method_29_code 11 = .ok (.getfield 54, 3) := by decide +kernel
theorem twd_mo_weak_14 : decode prog_11_method_29_code 14 = .ok (.iload_n 1, 1) := by decide +kernel
theorem twd_mo_weak_15 : decode prog_11_method_29_code 15 = .ok (.aload_n 0, 1) := by decide +kernel
theorem twd_mo_weak_16 : decode prog_11_method_29_code 16 = .ok (.iload_n 1, 1) := by decide +kernel
theorem twd_mo_weak_17 : decode prog_11_method_29_code 17 = .ok (.invokevirtual 169, 3) := by decide +kernel
theorem twd_mo_weak_20 : decode prog_11_method_29_code 20 = .ok (.bipush 8, 2) := by decide +kernel
theorem twd_mo_weak_22 : decode prog_11_method_29_code 22 = .ok (.if_icmp .ne 7, 3) := by decide +kernel
theorem twd_mo_weak_25 : decode prog_11_method_29_code 25 = .ok (.iconst 1, 1) := by decide +kernel
theorem twd_mo_weak_26 : decode prog_11_method_29_code 26 = .ok (.goto 4, 3) := by decide +kernel
theorem twd_mo_weak_29 : decode prog_11_method_29_code 29 = .ok (.iconst 0, 1) := by decide +kernel
theorem twd_mo_weak_30 : decode prog_11_method_29_code 30 = .ok (.bastore, 1) := by decide +kernel
theorem twd_mo_weak_31 : decode prog_11_method_29_code 31 = .ok (.iload_n 1, 1) := by decide +kernel
theorem twd_mo_weak_32 : decode prog_11_method_29_code 32 = .ok (.ifCond .ne 10, 3) := by decide +kernel
theorem twd_mo_weak_35 : decode prog_11_method_29_code 35 = .ok (.aload_n 0, 1) := by decide +kernel
theorem twd_mo_weak_36 : decode prog_11_method_29_code 36 = .ok (.getfield 160, 3) := by decide +kernel
theorem twd_mo_weak_39 : decode prog_11_method_29_code 39 = .ok (.goto 10, 3) := by decide +kernel
theorem twd_mo_weak_42 : decode prog_11_method_29_code 42 = .ok (.aload_n 0, 1) := by decide +kernel
theorem twd_mo_weak_43 : decode prog_11_method_29_code 43 = .ok (.iload_n 1, 1) := by decide +kernel
theorem twd_mo_weak_44 : decode prog_11_method_29_code 44 = .ok (.iconst 1, 1) := by decide +kernel
theorem twd_mo_weak_45 : decode prog_11_method_29_code 45 = .ok (.isub, 1) := by decide +kernel
theorem twd_mo_weak_46 : decode prog_11_method_29_code 46 = .ok (.invokevirtual 169, 3) := by decide +kernel
theorem twd_mo_weak_49 : decode prog_11_method_29_code 49 = .ok (.istore_n 2, 1) := by decide +kernel
theorem twd_mo_weak_50 : decode prog_11_method_29_code 50 = .ok (.aload_n 0, 1) := by decide +kernel
theorem twd_mo_weak_51 : decode prog_11_method_29_code 51 = .ok (.getfield 54, 3) := by decide +kernel
theorem twd_mo_weak_54 : decode prog_11_method_29_code 54 = .ok (.iload_n 1, 1) := by decide +kernel
theorem twd_mo_weak_55 : decode prog_11_method_29_code 55 = .ok (.baload, 1) := by decide +kernel
theorem twd_mo_weak_56 : decode prog_11_method_29_code 56 = .ok (.ifCond .eq 20, 3) := by decide +kernel
theorem twd_mo_weak_59 : decode prog_11_method_29_code 59 = .ok (.aload_n 0, 1) := by decide +kernel
theorem twd_mo_weak_60 : decode prog_11_method_29_code 60 = .ok (.iload_n 1, 1) := by decide +kernel
theorem twd_mo_weak_61 : decode prog_11_method_29_code 61 = .ok (.iload_n 2, 1) := by decide +kernel
theorem twd_mo_weak_62 : decode prog_11_method_29_code 62 = .ok (.bipush 17, 2) := by decide +kernel
theorem twd_mo_weak_64 : decode prog_11_method_29_code 64 = .ok (.if_icmp .lt 8, 3) := by decide +kernel
theorem twd_mo_weak_67 : decode prog_11_method_29_code 67 = .ok (.bipush 11, 2) := by decide +kernel
theorem twd_mo_weak_69 : decode prog_11_method_29_code 69 = .ok (.goto 4, 3) := by decide +kernel
theorem twd_mo_weak_72 : decode prog_11_method_29_code 72 = .ok (.iload_n 2, 1) := by decide +kernel
theorem twd_mo_weak_73 : decode prog_11_method_29_code 73 = .ok (.invokevirtual 172, 3) := by decide +kernel
theorem twd_mo_weak_76 : decode prog_11_method_29_code 76 = .ok (.iinc 1 1, 3) := by decide +kernel
theorem twd_mo_weak_79 : decode prog_11_method_29_code 79 = .ok (.goto (-77), 3) := by decide +kernel
theorem twd_mo_weak_82 : decode prog_11_method_29_code 82 = .ok (.iconst (-1), 1) := by decide +kernel
theorem twd_mo_weak_83 : decode prog_11_method_29_code 83 = .ok (.istore_n 1, 1) := by decide +kernel
theorem twd_mo_weak_84 : decode prog_11_method_29_code 84 = .ok (.iconst 0, 1) := by decide +kernel
theorem twd_mo_weak_85 : decode prog_11_method_29_code 85 = .ok (.istore_n 2, 1) := by decide +kernel
theorem twd_mo_weak_86 : decode prog_11_method_29_code 86 = .ok (.iload_n 2, 1) := by decide +kernel
theorem twd_mo_weak_87 : decode prog_11_method_29_code 87 = .ok (.aload_n 0, 1) := by decide +kernel
theorem twd_mo_weak_88 : decode prog_11_method_29_code 88 = .ok (.getfield 139, 3) := by decide +kernel
theorem twd_mo_weak_91 : decode prog_11_method_29_code 91 = .ok (.if_icmp .ge 49, 3) := by decide +kernel
theorem twd_mo_weak_94 : decode prog_11_method_29_code 94 = .ok (.aload_n 0, 1) := by decide +kernel
theorem twd_mo_weak_95 : decode prog_11_method_29_code 95 = .ok (.iload_n 2, 1) := by decide +kernel
theorem twd_mo_weak_96 : decode prog_11_method_29_code 96 = .ok (.invokevirtual 169, 3) := by decide +kernel
theorem twd_mo_weak_99 : decode prog_11_method_29_code 99 = .ok (.iconst 2, 1) := by decide +kernel
theorem twd_mo_weak_100 : decode prog_11_method_29_code 100 = .ok (.if_icmp .gt 11, 3) := by decide +kernel
theorem twd_mo_weak_103 : decode prog_11_method_29_code 103 = .ok (.aload_n 0, 1) := by decide +kernel
theorem twd_mo_weak_104 : decode prog_11_method_29_code 104 = .ok (.iload_n 2, 1) := by decide +kernel
theorem twd_mo_weak_105 : decode prog_11_method_29_code 105 = .ok (.invokevirtual 169, 3) := by decide +kernel
theorem twd_mo_weak_108 : decode prog_11_method_29_code 108 = .ok (.goto 4, 3) := by decide +kernel
theorem twd_mo_weak_111 : decode prog_11_method_29_code 111 = .ok (.iload_n 1, 1) := by decide +kernel
theorem twd_mo_weak_112 : decode prog_11_method_29_code 112 = .ok (.istore_n 1, 1) := by decide +kernel
theorem twd_mo_weak_113 : decode prog_11_method_29_code 113 = .ok (.aload_n 0, 1) := by decide +kernel
theorem twd_mo_weak_114 : decode prog_11_method_29_code 114 = .ok (.iload_n 2, 1) := by decide +kernel
theorem twd_mo_weak_115 : decode prog_11_method_29_code 115 = .ok (.invokevirtual 169, 3) := by decide +kernel
theorem twd_mo_weak_118 : decode prog_11_method_29_code 118 = .ok (.iconst 3, 1) := by decide +kernel
theorem twd_mo_weak_119 : decode prog_11_method_29_code 119 = .ok (.if_icmp .ne 15, 3) := by decide +kernel
theorem twd_mo_weak_122 : decode prog_11_method_29_code 122 = .ok (.iload_n 1, 1) := by decide +kernel
theorem twd_mo_weak_123 : decode prog_11_method_29_code 123 = .ok (.iconst 2, 1) := by decide +kernel
theorem twd_mo_weak_124 : decode prog_11_method_29_code 124 = .ok (.if_icmp .ne 10, 3) := by decide +kernel
theorem twd_mo_weak_127 : decode prog_11_method_29_code 127 = .ok (.aload_n 0, 1) := by decide +kernel
theorem twd_mo_weak_128 : decode prog_11_method_29_code 128 = .ok (.iload_n 2, 1) := by decide +kernel
theorem twd_mo_weak_129 : decode prog_11_method_29_code 129 = .ok (.bipush 6, 2) := by decide +kernel
theorem twd_mo_weak_131 : decode prog_11_method_29_code 131 = .ok (.invokevirtual 172, 3) := by decide +kernel
theorem twd_mo_weak_134 : decode prog_11_method_29_code 134 = .ok (.iinc 2 1, 3) := by decide +kernel
theorem twd_mo_weak_137 : decode prog_11_method_29_code 137 = .ok (.goto (-51), 3) := by decide +kernel
theorem twd_mo_weak_140 : decode prog_11_method_29_code 140 = .ok (.iconst 0, 1) := by decide +kernel
theorem twd_mo_weak_141 : decode prog_11_method_29_code 141 = .ok (.istore_n 2, 1) := by decide +kernel
theorem twd_mo_weak_142 : decode prog_11_method_29_code 142 = .ok (.iload_n 2, 1) := by decide +kernel
theorem twd_mo_weak_143 : decode prog_11_method_29_code 143 = .ok (.aload_n 0, 1) := by decide +kernel
theorem twd_mo_weak_144 : decode prog_11_method_29_code 144 = .ok (.getfield 139, 3) := by decide +kernel
theorem twd_mo_weak_147 : decode prog_11_method_29_code 147 = .ok (.if_icmp .ge 24, 3) := by decide +kernel
theorem twd_mo_weak_150 : decode prog_11_method_29_code 150 = .ok (.aload_n 0, 1) := by decide +kernel
theorem twd_mo_weak_151 : decode prog_11_method_29_code 151 = .ok (.iload_n 2, 1) := by decide +kernel
theorem twd_mo_weak_152 : decode prog_11_method_29_code 152 = .ok (.invokevirtual 169, 3) := by decide +kernel
theorem twd_mo_weak_155 : decode prog_11_method_29_code 155 = .ok (.iconst 2, 1) := by decide +kernel
theorem twd_mo_weak_156 : decode prog_11_method_29_code 156 = .ok (.if_icmp .ne 9, 3) := by decide +kernel
theorem twd_mo_weak_159 : decode prog_11_method_29_code 159 = .ok (.aload_n 0, 1) := by decide +kernel
theorem twd_mo_weak_160 : decode prog_11_method_29_code 160 = .ok (.iload_n 2, 1) := by decide +kernel
theorem twd_mo_weak_161 : decode prog_11_method_29_code 161 = .ok (.iconst 1, 1) := by decide +kernel
theorem twd_mo_weak_162 : decode prog_11_method_29_code 162 = .ok (.invokevirtual 172, 3) := by decide +kernel
theorem twd_mo_weak_165 : decode prog_11_method_29_code 165 = .ok (.iinc 2 1, 3) := by decide +kernel
theorem twd_mo_weak_168 : decode prog_11_method_29_code 168 = .ok (.goto (-26), 3) := by decide +kernel
theorem twd_mo_weak_171 : decode prog_11_method_29_code 171 = .ok (.iconst 1, 1) := by decide +kernel
theorem twd_mo_weak_172 : decode prog_11_method_29_code 172 = .ok (.istore_n 2, 1) := by decide +kernel
theorem twd_mo_weak_173 : decode prog_11_method_29_code 173 = .ok (.iload_n 2, 1) := by decide +kernel
theorem twd_mo_weak_174 : decode prog_11_method_29_code 174 = .ok (.iconst 1, 1) := by decide +kernel
theorem twd_mo_weak_175 : decode prog_11_method_29_code 175 = .ok (.iadd, 1) := by decide +kernel
theorem twd_mo_weak_176 : decode prog_11_method_29_code 176 = .ok (.aload_n 0, 1) := by decide +kernel
theorem twd_mo_weak_177 : decode prog_11_method_29_code 177 = .ok (.getfield 139, 3) := by decide +kernel
theorem twd_mo_weak_180 : decode prog_11_method_29_code 180 = .ok (.if_icmp .ge 100, 3) := by decide +kernel
theorem twd_mo_weak_183 : decode prog_11_method_29_code 183 = .ok (.aload_n 0, 1) := by decide +kernel
theorem twd_mo_weak_184 : decode prog_11_method_29_code 184 = .ok (.iload_n 2, 1) := by decide +kernel
theorem twd_mo_weak_185 : decode prog_11_method_29_code 185 = .ok (.iconst 1, 1) := by decide +kernel
theorem twd_mo_weak_186 : decode prog_11_method_29_code 186 = .ok (.isub, 1) := by decide +kernel
theorem twd_mo_weak_187 : decode prog_11_method_29_code 187 = .ok (.invokevirtual 169, 3) := by decide +kernel
theorem twd_mo_weak_190 : decode prog_11_method_29_code 190 = .ok (.aload_n 0, 1) := by decide +kernel
theorem twd_mo_weak_191 : decode prog_11_method_29_code 191 = .ok (.iload_n 2, 1) := by decide +kernel
theorem twd_mo_weak_192 : decode prog_11_method_29_code 192 = .ok (.iconst 1, 1) := by decide +kernel
theorem twd_mo_weak_193 : decode prog_11_method_29_code 193 = .ok (.iadd, 1) := by decide +kernel
theorem twd_mo_weak_194 : decode prog_11_method_29_code 194 = .ok (.invokevirtual 169, 3) := by decide +kernel
theorem twd_mo_weak_197 : decode prog_11_method_29_code 197 = .ok (.if_icmp .ne 40, 3) := by decide +kernel
theorem twd_mo_weak_200 : decode prog_11_method_29_code 200 = .ok (.aload_n 0, 1) := by decide +kernel
theorem twd_mo_weak_201 : decode prog_11_method_29_code 201 = .ok (.iload_n 2, 1) := by decide +kernel
theorem twd_mo_weak_202 : decode prog_11_method_29_code 202 = .ok (.iconst 1, 1) := by decide +kernel
theorem twd_mo_weak_203 : decode prog_11_method_29_code 203 = .ok (.isub, 1) := by decide +kernel
theorem twd_mo_weak_204 : decode prog_11_method_29_code 204 = .ok (.invokevirtual 169, 3) := by decide +kernel
theorem twd_mo_weak_207 : decode prog_11_method_29_code 207 = .ok (.iconst 3, 1) := by decide +kernel
theorem twd_mo_weak_208 : decode prog_11_method_29_code 208 = .ok (.if_icmp .eq 25, 3) := by decide +kernel
theorem twd_mo_weak_211 : decode prog_11_method_29_code 211 = .ok (.aload_n 0, 1) := by decide +kernel
theorem twd_mo_weak_212 : decode prog_11_method_29_code 212 = .ok (.iload_n 2, 1) := by decide +kernel
theorem twd_mo_weak_213 : decode prog_11_method_29_code 213 = .ok (.iconst 1, 1) := by decide +kernel
theorem twd_mo_weak_214 : decode prog_11_method_29_code 214 = .ok (.isub, 1) := by decide +kernel
theorem twd_mo_weak_215 : decode prog_11_method_29_code 215 = .ok (.invokevirtual 169, 3) := by decide +kernel
theorem twd_mo_weak_218 : decode prog_11_method_29_code 218 = .ok (.bipush 6, 2) := by decide +kernel
theorem twd_mo_weak_220 : decode prog_11_method_29_code 220 = .ok (.if_icmp .ne 17, 3) := by decide +kernel
theorem twd_mo_weak_223 : decode prog_11_method_29_code 223 = .ok (.aload_n 0, 1) := by decide +kernel
theorem twd_mo_weak_224 : decode prog_11_method_29_code 224 = .ok (.iload_n 2, 1) := by decide +kernel
theorem twd_mo_weak_225 : decode prog_11_method_29_code 225 = .ok (.invokevirtual 169, 3) := by decide +kernel
theorem twd_mo_weak_228 : decode prog_11_method_29_code 228 = .ok (.bipush 7, 2) := by decide +kernel
theorem twd_mo_weak_230 : decode prog_11_method_29_code 230 = .ok (.if_icmp .ne 7, 3) := by decide +kernel
theorem twd_mo_weak_233 : decode prog_11_method_29_code 233 = .ok (.iconst 1, 1) := by decide +kernel
theorem twd_mo_weak_234 : decode prog_11_method_29_code 234 = .ok (.goto 4, 3) := by decide +kernel
theorem twd_mo_weak_237 : decode prog_11_method_29_code 237 = .ok (.iconst 0, 1) := by decide +kernel
theorem twd_mo_weak_238 : decode prog_11_method_29_code 238 = .ok (.istore_n 3, 1) := by decide +kernel
theorem twd_mo_weak_239 : decode prog_11_method_29_code 239 = .ok (.aload_n 0, 1) := by decide +kernel
theorem twd_mo_weak_240 : decode prog_11_method_29_code 240 = .ok (.iload_n 2, 1) := by decide +kernel
theorem twd_mo_weak_241 : decode prog_11_method_29_code 241 = .ok (.invokevirtual 169, 3) := by decide +kernel
theorem twd_mo_weak_244 : decode prog_11_method_29_code 244 = .ok (.iconst 4, 1) := by decide +kernel
theorem twd_mo_weak_245 : decode prog_11_method_29_code 245 = .ok (.if_icmp .eq 13, 3) := by decide +kernel
theorem twd_mo_weak_248 : decode prog_11_method_29_code 248 = .ok (.aload_n 0, 1) := by decide +kernel
theorem twd_mo_weak_249 : decode prog_11_method_29_code 249 = .ok (.iload_n 2, 1) := by decide +kernel
theorem twd_mo_weak_250 : decode prog_11_method_29_code 250 = .ok (.invokevirtual 169, 3) := by decide +kernel
theorem twd_mo_weak_253 : decode prog_11_method_29_code 253 = .ok (.bipush 7, 2) := by decide +kernel
theorem twd_mo_weak_255 : decode prog_11_method_29_code 255 = .ok (.if_icmp .ne 19, 3) := by decide +kernel
theorem twd_mo_weak_258 : decode prog_11_method_29_code 258 = .ok (.iload_n 3, 1) := by decide +kernel
theorem twd_mo_weak_259 : decode prog_11_method_29_code 259 = .ok (.ifCond .eq 15, 3) := by decide +kernel
theorem twd_mo_weak_262 : decode prog_11_method_29_code 262 = .ok (.aload_n 0, 1) := by decide +kernel
theorem twd_mo_weak_263 : decode prog_11_method_29_code 263 = .ok (.iload_n 2, 1) := by decide +kernel
theorem twd_mo_weak_264 : decode prog_11_method_29_code 264 = .ok (.aload_n 0, 1) := by decide +kernel
theorem twd_mo_weak_265 : decode prog_11_method_29_code 265 = .ok (.iload_n 2, 1) := by decide +kernel
theorem twd_mo_weak_266 : decode prog_11_method_29_code 266 = .ok (.iconst 1, 1) := by decide +kernel
theorem twd_mo_weak_267 : decode prog_11_method_29_code 267 = .ok (.isub, 1) := by decide +kernel
theorem twd_mo_weak_268 : decode prog_11_method_29_code 268 = .ok (.invokevirtual 169, 3) := by decide +kernel
theorem twd_mo_weak_271 : decode prog_11_method_29_code 271 = .ok (.invokevirtual 172, 3) := by decide +kernel
theorem twd_mo_weak_274 : decode prog_11_method_29_code 274 = .ok (.iinc 2 1, 3) := by decide +kernel
theorem twd_mo_weak_277 : decode prog_11_method_29_code 277 = .ok (.goto (-104), 3) := by decide +kernel
theorem twd_mo_weak_280 : decode prog_11_method_29_code 280 = .ok (.aload_n 0, 1) := by decide +kernel
theorem twd_mo_weak_281 : decode prog_11_method_29_code 281 = .ok (.invokevirtual 176, 3) := by decide +kernel
theorem twd_mo_weak_284 : decode prog_11_method_29_code 284 = .ok (.aload_n 0, 1) := by decide +kernel
theorem twd_mo_weak_285 : decode prog_11_method_29_code 285 = .ok (.getfield 160, 3) := by decide +kernel
theorem twd_mo_weak_288 : decode prog_11_method_29_code 288 = .ok (.istore_n 1, 1) := by decide +kernel
theorem twd_mo_weak_289 : decode prog_11_method_29_code 289 = .ok (.iconst 0, 1) := by decide +kernel
theorem twd_mo_weak_290 : decode prog_11_method_29_code 290 = .ok (.istore_n 2, 1) := by decide +kernel
theorem twd_mo_weak_291 : decode prog_11_method_29_code 291 = .ok (.iload_n 2, 1) := by decide +kernel
theorem twd_mo_weak_292 : decode prog_11_method_29_code 292 = .ok (.aload_n 0, 1) := by decide +kernel
theorem twd_mo_weak_293 : decode prog_11_method_29_code 293 = .ok (.getfield 139, 3) := by decide +kernel
theorem twd_mo_weak_296 : decode prog_11_method_29_code 296 = .ok (.if_icmp .ge 47, 3) := by decide +kernel
theorem twd_mo_weak_299 : decode prog_11_method_29_code 299 = .ok (.aload_n 0, 1) := by decide +kernel
theorem twd_mo_weak_300 : decode prog_11_method_29_code 300 = .ok (.iload_n 2, 1) := by decide +kernel
theorem twd_mo_weak_301 : decode prog_11_method_29_code 301 = .ok (.invokevirtual 169, 3) := by decide +kernel
theorem twd_mo_weak_304 : decode prog_11_method_29_code 304 = .ok (.iconst 1, 1) := by decide +kernel
theorem twd_mo_weak_305 : decode prog_11_method_29_code 305 = .ok (.if_icmp .gt 11, 3) := by decide +kernel
theorem twd_mo_weak_308 : decode prog_11_method_29_code 308 = .ok (.aload_n 0, 1) := by decide +kernel
theorem twd_mo_weak_309 : decode prog_11_method_29_code 309 = .ok (.iload_n 2, 1) := by decide +kernel
theorem twd_mo_weak_310 : decode prog_11_method_29_code 310 = .ok (.invokevirtual 169, 3) := by decide +kernel
theorem twd_mo_weak_313 : decode prog_11_method_29_code 313 = .ok (.goto 4, 3) := by decide +kernel
theorem twd_mo_weak_316 : decode prog_11_method_29_code 316 = .ok (.iload_n 1, 1) := by decide +kernel
theorem twd_mo_weak_317 : decode prog_11_method_29_code 317 = .ok (.istore_n 1, 1) := by decide +kernel
theorem twd_mo_weak_318 : decode prog_11_method_29_code 318 = .ok (.aload_n 0, 1) := by decide +kernel
theorem twd_mo_weak_319 : decode prog_11_method_29_code 319 = .ok (.iload_n 2, 1) := by decide +kernel
theorem twd_mo_weak_320 : decode prog_11_method_29_code 320 = .ok (.invokevirtual 169, 3) := by decide +kernel
theorem twd_mo_weak_323 : decode prog_11_method_29_code 323 = .ok (.iconst 3, 1) := by decide +kernel
theorem twd_mo_weak_324 : decode prog_11_method_29_code 324 = .ok (.if_icmp .ne 13, 3) := by decide +kernel
theorem twd_mo_weak_327 : decode prog_11_method_29_code 327 = .ok (.iload_n 1, 1) := by decide +kernel
theorem twd_mo_weak_328 : decode prog_11_method_29_code 328 = .ok (.ifCond .ne 9, 3) := by decide +kernel
theorem twd_mo_weak_331 : decode prog_11_method_29_code 331 = .ok (.aload_n 0, 1) := by decide +kernel
theorem twd_mo_weak_332 : decode prog_11_method_29_code 332 = .ok (.iload_n 2, 1) := by decide +kernel
theorem twd_mo_weak_333 : decode prog_11_method_29_code 333 = .ok (.iconst 0, 1) := by decide +kernel
theorem twd_mo_weak_334 : decode prog_11_method_29_code 334 = .ok (.invokevirtual 172, 3) := by decide +kernel
theorem twd_mo_weak_337 : decode prog_11_method_29_code 337 = .ok (.iinc 2 1, 3) := by decide +kernel
theorem twd_mo_weak_340 : decode prog_11_method_29_code 340 = .ok (.goto (-49), 3) := by decide +kernel
theorem twd_mo_weak_343 : decode prog_11_method_29_code 343 = .ok (.return_, 1) := by decide +kernel
theorem twk_mo_weak : tw_dc twy_mo_weak 0 := ⟨by decide +kernel, by decide +kernel, by decide +kernel⟩
theorem twd_mo_strong_0 : decode prog_11_method_31_code 0 = .ok (.aload_n 0, 1) := by decide +kernel
theorem twd_mo_strong_1 : decode prog_11_method_31_code 1 = .ok (.iload_n 1, 1) := by decide +kernel
theorem twd_mo_strong_2 : decode prog_11_method_31_code 2 = .ok (.invokevirtual 169, 3) := by decide +kernel
theorem twd_mo_strong_5 : decode prog_11_method_31_code 5 = .ok (.istore_n 2, 1) := by decide +kernel
theorem twd_mo_strong_6 : decode prog_11_method_31_code 6 = .ok (.iload_n 2, 1) := by decide +kernel
theorem twd_mo_strong_7 : decode prog_11_method_31_code 7 = .ok (.ifCond .ne 7, 3) := by decide +kernel
theorem twd_mo_strong_10 : decode prog_11_method_31_code 10 = .ok (.iconst 0, 1) := by decide +kernel
theorem twd_mo_strong_11 : decode prog_11_method_31_code 11 = .ok (.goto 24, 3) := by decide +kernel
theorem twd_mo_strong_14 : decode prog_11_method_31_code 14 = .ok (.iload_n 2, 1) := by decide +kernel
theorem twd_mo_strong_15 : decode prog_11_method_31_code 15 = .ok (.iconst 1, 1) := by decide +kernel
theorem twd_mo_strong_16 : decode prog_11_method_31_code 16 = .ok (.if_icmp .eq 14, 3) := by decide +kernel
theorem twd_mo_strong_19 : decode prog_11_method_31_code 19 = .ok (.iload_n 2, 1) := by decide +kernel
theorem twd_mo_strong_20 : decode prog_11_method_31_code 20 = .ok (.iconst 3, 1) := by decide +kernel
theorem twd_mo_strong_21 : decode prog_11_method_31_code 21 = .ok (.if_icmp .eq 9, 3) := by decide +kernel
theorem twd_mo_strong_24 : decode prog_11_method_31_code 24 = .ok (.iload_n 2, 1) := by decide +kernel
theorem twd_mo_strong_25 : decode prog_11_method_31_code 25 = .ok (.bipush 6, 2) := by decide +kernel
theorem twd_mo_strong_27 : decode prog_11_method_31_code 27 = .ok (.if_icmp .ne 7, 3) := by decide +kernel
theorem twd_mo_strong_30 : decode prog_11_method_31_code 30 = .ok (.iconst 1, 1) := by decide +kernel
theorem twd_mo_strong_31 : decode prog_11_method_31_code 31 = .ok (.goto 4, 3) := by decide +kernel
theorem twd_mo_strong_34 : decode prog_11_method_31_code 34 = .ok (.iconst (-1), 1) := by decide +kernel
theorem twd_mo_strong_35 : decode prog_11_method_31_code 35 = .ok (.ireturn, 1) := by decide +kernel
theorem twk_mo_strong : tw_dc twy_mo_strong 1 := ⟨by decide +kernel, by decide +kernel, by decide +kernel⟩
theorem twd_mo_give_0 : decode prog_11_method_34_code 0 = .ok (.aload_n 0, 1) := by decide +kernel
theorem twd_mo_give_1 : decode prog_11_method_34_code 1 = .ok (.iload_n 1, 1) := by decide +kernel
theorem twd_mo_give_2 : decode prog_11_method_34_code 2 = .ok (.iload_n 2, 1) := by decide +kernel
theorem twd_mo_give_3 : decode prog_11_method_34_code 3 = .ok (.invokevirtual 172, 3) := by decide +kernel
theorem twd_mo_give_6 : decode prog_11_method_34_code 6 = .ok (.iload_n 1, 1) := by decide +kernel
theorem twd_mo_give_7 : decode prog_11_method_34_code 7 = .ok (.iconst 1, 1) := by decide +kernel
theorem twd_mo_give_8 : decode prog_11_method_34_code 8 = .ok (.iadd, 1) := by decide +kernel
theorem twd_mo_give_9 : decode prog_11_method_34_code 9 = .ok (.istore_n 3, 1) := by decide +kernel
theorem twd_mo_give_10 : decode prog_11_method_34_code 10 = .ok (.iload_n 3, 1) := by decide +kernel
theorem twd_mo_give_11 : decode prog_11_method_34_code 11 = .ok (.aload_n 0, 1) := by decide +kernel
theorem twd_mo_give_12 : decode prog_11_method_34_code 12 = .ok (.getfield 139, 3) := by decide +kernel
theorem twd_mo_give_15 : decode prog_11_method_34_code 15 = .ok (.if_icmp .ge 24, 3) := by decide +kernel
theorem twd_mo_give_18 : decode prog_11_method_34_code 18 = .ok (.aload_n 0, 1) := by decide +kernel
theorem twd_mo_give_19 : decode prog_11_method_34_code 19 = .ok (.getfield 54, 3) := by decide +kernel
theorem twd_mo_give_22 : decode prog_11_method_34_code 22 = .ok (.iload_n 3, 1) := by decide +kernel
theorem twd_mo_give_23 : decode prog_11_method_34_code 23 = .ok (.baload, 1) := by decide +kernel
theorem twd_mo_give_24 : decode prog_11_method_34_code 24 = .ok (.ifCond .eq 15, 3) := by decide +kernel
theorem twd_mo_give_27 : decode prog_11_method_34_code 27 = .ok (.aload_n 0, 1) := by decide +kernel
theorem twd_mo_give_28 : decode prog_11_method_34_code 28 = .ok (.iload_n 3, 1) := by decide +kernel
theorem twd_mo_give_29 : decode prog_11_method_34_code 29 = .ok (.iload_n 2, 1) := by decide +kernel
theorem twd_mo_give_30 : decode prog_11_method_34_code 30 = .ok (.invokevirtual 172, 3) := by decide +kernel
theorem twd_mo_give_33 : decode prog_11_method_34_code 33 = .ok (.iinc 3 1, 3) := by decide +kernel
theorem twd_mo_give_36 : decode prog_11_method_34_code 36 = .ok (.goto (-26), 3) := by decide +kernel
theorem twd_mo_give_39 : decode prog_11_method_34_code 39 = .ok (.return_, 1) := by decide +kernel
theorem twk_mo_give : tw_dc twy_mo_give 2 := ⟨by decide +kernel, by decide +kernel, by decide +kernel⟩
theorem twd_mo_enclose_0 : decode prog_11_method_33_code 0 = .ok (.iconst 0, 1) := by decide +kernel
theorem twd_mo_enclose_1 : decode prog_11_method_33_code 1 = .ok (.istore_n 3, 1) := by decide +kernel
theorem twd_mo_enclose_2 : decode prog_11_method_33_code 2 = .ok (.iconst 0, 1) := by decide +kernel
theorem twd_mo_enclose_3 : decode prog_11_method_33_code 3 = .ok (.istore 4, 2) := by decide +kernel
theorem twd_mo_enclose_5 : decode prog_11_method_33_code 5 = .ok (.iload_n 1, 1) := by decide +kernel
theorem twd_mo_enclose_6 : decode prog_11_method_33_code 6 = .ok (.iconst 1, 1) := by decide +kernel
theorem twd_mo_enclose_7 : decode prog_11_method_33_code 7 = .ok (.iadd, 1) := by decide +kernel
theorem twd_mo_enclose_8 : decode prog_11_method_33_code 8 = .ok (.istore 5, 2) := by decide +kernel
theorem twd_mo_enclose_10 : decode prog_11_method_33_code 10 = .ok (.iload 5, 2) := by decide +kernel
theorem twd_mo_enclose_12 : decode prog_11_method_33_code 12 = .ok (.iload_n 2, 1) := by decide +kernel
theorem twd_mo_enclose_13 : decode prog_11_method_33_code 13 = .ok (.if_icmp .ge 59, 3) := by decide +kernel
theorem twd_mo_enclose_16 : decode prog_11_method_33_code 16 = .ok (.iload_n 3, 1) := by decide +kernel
theorem twd_mo_enclose_17 : decode prog_11_method_33_code 17 = .ok (.ifCond .ne 16, 3) := by decide +kernel
theorem twd_mo_enclose_20 : decode prog_11_method_33_code 20 = .ok (.aload_n 0, 1) := by decide +kernel
theorem twd_mo_enclose_21 : decode prog_11_method_33_code 21 = .ok (.iload 5, 2) := by decide +kernel
theorem twd_mo_enclose_23 : decode prog_11_method_33_code 23 = .ok (.invokevirtual 182, 3) := by decide +kernel
theorem twd_mo_enclose_26 : decode prog_11_method_33_code 26 = .ok (.aload_n 0, 1) := by decide +kernel
theorem twd_mo_enclose_27 : decode prog_11_method_33_code 27 = .ok (.getfield 166, 3) := by decide +kernel
theorem twd_mo_enclose_30 : decode prog_11_method_33_code 30 = .ok (.if_icmp .ne 7, 3) := by decide +kernel
theorem twd_mo_enclose_33 : decode prog_11_method_33_code 33 = .ok (.iconst 1, 1) := by decide +kernel
theorem twd_mo_enclose_34 : decode prog_11_method_33_code 34 = .ok (.goto 4, 3) := by decide +kernel
theorem twd_mo_enclose_37 : decode prog_11_method_33_code 37 = .ok (.iconst 0, 1) := by decide +kernel
theorem twd_mo_enclose_38 : decode prog_11_method_33_code 38 = .ok (.istore_n 3, 1) := by decide +kernel
theorem twd_mo_enclose_39 : decode prog_11_method_33_code 39 = .ok (.iload 4, 2) := by decide +kernel
theorem twd_mo_enclose_41 : decode prog_11_method_33_code 41 = .ok (.ifCond .ne 18, 3) := by decide +kernel
theorem twd_mo_enclose_44 : decode prog_11_method_33_code 44 = .ok (.aload_n 0, 1) := by decide +kernel
theorem twd_mo_enclose_45 : decode prog_11_method_33_code 45 = .ok (.iload 5, 2) := by decide +kernel
theorem twd_mo_enclose_47 : decode prog_11_method_33_code 47 = .ok (.invokevirtual 182, 3) := by decide +kernel
theorem twd_mo_enclose_50 : decode prog_11_method_33_code 50 = .ok (.iconst 1, 1) := by decide +kernel
theorem twd_mo_enclose_51 : decode prog_11_method_33_code 51 = .ok (.aload_n 0, 1) := by decide +kernel
theorem twd_mo_enclose_52 : decode prog_11_method_33_code 52 = .ok (.getfield 166, 3) := by decide +kernel
theorem twd_mo_enclose_55 : decode prog_11_method_33_code 55 = .ok (.isub, 1) := by decide +kernel
theorem twd_mo_enclose_56 : decode prog_11_method_33_code 56 = .ok (.if_icmp .ne 7, 3) := by decide +kernel
theorem twd_mo_enclose_59 : decode prog_11_method_33_code 59 = .ok (.iconst 1, 1) := by decide +kernel
theorem twd_mo_enclose_60 : decode prog_11_method_33_code 60 = .ok (.goto 4, 3) := by decide +kernel
theorem twd_mo_enclose_63 : decode prog_11_method_33_code 63 = .ok (.iconst 0, 1) := by decide +kernel
theorem twd_mo_enclose_64 : decode prog_11_method_33_code 64 = .ok (.istore 4, 2) := by decide +kernel
theorem twd_mo_enclose_66 : decode prog_11_method_33_code 66 = .ok (.iinc 5 1, 3) := by decide +kernel
theorem twd_mo_enclose_69 : decode prog_11_method_33_code 69 = .ok (.goto (-59), 3) := by decide +kernel
theorem twd_mo_enclose_72 : decode prog_11_method_33_code 72 = .ok (.iload_n 3, 1) := by decide +kernel
theorem twd_mo_enclose_73 : decode prog_11_method_33_code 73 = .ok (.ifCond .ne 9, 3) := by decide +kernel
theorem twd_mo_enclose_76 : decode prog_11_method_33_code 76 = .ok (.iload 4, 2) := by decide +kernel
theorem twd_mo_enclose_78 : decode prog_11_method_33_code 78 = .ok (.ifCond .ne 4, 3) := by decide +kernel
theorem twd_mo_enclose_81 : decode prog_11_method_33_code 81 = .ok (.return_, 1) := by decide +kernel
theorem twd_mo_enclose_82 : decode prog_11_method_33_code 82 = .ok (.aload_n 0, 1) := by decide +kernel
theorem twd_mo_enclose_83 : decode prog_11_method_33_code 83 = .ok (.getfield 160, 3) := by decide +kernel
theorem twd_mo_enclose_86 : decode prog_11_method_33_code 86 = .ok (.istore 5, 2) := by decide +kernel
theorem twd_mo_enclose_88 : decode prog_11_method_33_code 88 = .ok (.iconst 0, 1) := by decide +kernel
theorem twd_mo_enclose_89 : decode prog_11_method_33_code 89 = .ok (.istore 6, 2) := by decide +kernel
theorem twd_mo_enclose_91 : decode prog_11_method_33_code 91 = .ok (.iload 6, 2) := by decide +kernel
theorem twd_mo_enclose_93 : decode prog_11_method_33_code 93 = .ok (.iload_n 1, 1) := by decide +kernel
theorem twd_mo_enclose_94 : decode prog_11_method_33_code 94 = .ok (.if_icmp .ge 31, 3) := by decide +kernel
theorem twd_mo_enclose_97 : decode prog_11_method_33_code 97 = .ok (.aload_n 0, 1) := by decide +kernel
theorem twd_mo_enclose_98 : decode prog_11_method_33_code 98 = .ok (.iload 6, 2) := by decide +kernel
theorem twd_mo_enclose_100 : decode prog_11_method_33_code 100 = .ok (.invokevirtual 182, 3) := by decide +kernel
theorem twd_mo_enclose_103 : decode prog_11_method_33_code 103 = .ok (.ifCond .lt 12, 3) := by decide +kernel
theorem twd_mo_enclose_106 : decode prog_11_method_33_code 106 = .ok (.aload_n 0, 1) := by decide +kernel
theorem twd_mo_enclose_107 : decode prog_11_method_33_code 107 = .ok (.iload 6, 2) := by decide +kernel
theorem twd_mo_enclose_109 : decode prog_11_method_33_code 109 = .ok (.invokevirtual 182, 3) := by decide +kernel
theorem twd_mo_enclose_112 : decode prog_11_method_33_code 112 = .ok (.goto 5, 3) := by decide +kernel
theorem twd_mo_enclose_115 : decode prog_11_method_33_code 115 = .ok (.iload 5, 2) := by decide +kernel
theorem twd_mo_enclose_117 : decode prog_11_method_33_code 117 = .ok (.istore 5, 2) := by decide +kernel
theorem twd_mo_enclose_119 : decode prog_11_method_33_code 119 = .ok (.iinc 6 1, 3) := by decide +kernel
theorem twd_mo_enclose_122 : decode prog_11_method_33_code 122 = .ok (.goto (-31), 3) := by decide +kernel
theorem twd_mo_enclose_125 : decode prog_11_method_33_code 125 = .ok (.iload_n 3, 1) := by decide +kernel
theorem twd_mo_enclose_126 : decode prog_11_method_33_code 126 = .ok (.ifCond .ne 21, 3) := by decide +kernel
theorem twd_mo_enclose_129 : decode prog_11_method_33_code 129 = .ok (.iload 5, 2) := by decide +kernel
theorem twd_mo_enclose_131 : decode prog_11_method_33_code 131 = .ok (.aload_n 0, 1) := by decide +kernel
theorem twd_mo_enclose_132 : decode prog_11_method_33_code 132 = .ok (.getfield 166, 3) := by decide +kernel
theorem twd_mo_enclose_135 : decode prog_11_method_33_code 135 = .ok (.if_icmp .eq 12, 3) := by decide +kernel
theorem twd_mo_enclose_138 : decode prog_11_method_33_code 138 = .ok (.iconst 1, 1) := by decide +kernel
theorem twd_mo_enclose_139 : decode prog_11_method_33_code 139 = .ok (.aload_n 0, 1) := by decide +kernel
theorem twd_mo_enclose_140 : decode prog_11_method_33_code 140 = .ok (.getfield 166, 3) := by decide +kernel
theorem twd_mo_enclose_143 : decode prog_11_method_33_code 143 = .ok (.isub, 1) := by decide +kernel
theorem twd_mo_enclose_144 : decode prog_11_method_33_code 144 = .ok (.goto 7, 3) := by decide +kernel
theorem twd_mo_enclose_147 : decode prog_11_method_33_code 147 = .ok (.aload_n 0, 1) := by decide +kernel
theorem twd_mo_enclose_148 : decode prog_11_method_33_code 148 = .ok (.getfield 166, 3) := by decide +kernel
theorem twd_mo_enclose_151 : decode prog_11_method_33_code 151 = .ok (.istore 6, 2) := by decide +kernel
theorem twd_mo_enclose_153 : decode prog_11_method_33_code 153 = .ok (.aload_n 0, 1) := by decide +kernel
theorem twd_mo_enclose_154 : decode prog_11_method_33_code 154 = .ok (.iload_n 1, 1) := by decide +kernel
theorem twd_mo_enclose_155 : decode prog_11_method_33_code 155 = .ok (.iload 6, 2) := by decide +kernel
theorem twd_mo_enclose_157 : decode prog_11_method_33_code 157 = .ok (.invokevirtual 185, 3) := by decide +kernel
theorem twd_mo_enclose_160 : decode prog_11_method_33_code 160 = .ok (.aload_n 0, 1) := by decide +kernel
theorem twd_mo_enclose_161 : decode prog_11_method_33_code 161 = .ok (.iload_n 2, 1) := by decide +kernel
theorem twd_mo_enclose_162 : decode prog_11_method_33_code 162 = .ok (.iload 6, 2) := by decide +kernel
theorem twd_mo_enclose_164 : decode prog_11_method_33_code 164 = .ok (.invokevirtual 185, 3) := by decide +kernel
theorem twd_mo_enclose_167 : decode prog_11_method_33_code 167 = .ok (.return_, 1) := by decide +kernel
theorem twk_mo_enclose : tw_dc twy_mo_enclose 2 := ⟨by decide +kernel, by decide +kernel, by decide +kernel⟩
theorem twd_mo_brackets_0 : decode prog_11_method_32_code 0 = .ok (.iconst 0, 1) := by decide +kernel
theorem twd_mo_brackets_1 : decode prog_11_method_32_code 1 = .ok (.istore_n 1, 1) := by decide +kernel
theorem twd_mo_brackets_2 : decode prog_11_method_32_code 2 = .ok (.iconst 0, 1) := by decide +kernel
theorem twd_mo_brackets_3 : decode prog_11_method_32_code 3 = .ok (.istore_n 2, 1) := by decide +kernel
theorem twd_mo_brackets_4 : decode prog_11_method_32_code 4 = .ok (.iload_n 2, 1) := by decide +kernel
theorem twd_mo_brackets_5 : decode prog_11_method_32_code 5 = .ok (.aload_n 0, 1) := by decide +kernel
theorem twd_mo_brackets_6 : decode prog_11_method_32_code 6 = .ok (.getfield 139, 3) := by decide +kernel
theorem twd_mo_brackets_9 : decode prog_11_method_32_code 9 = .ok (.if_icmp .ge 149, 3) := by decide +kernel
theorem twd_mo_brackets_12 : decode prog_11_method_32_code 12 = .ok (.aload_n 0, 1) := by decide +kernel
theorem twd_mo_brackets_13 : decode prog_11_method_32_code 13 = .ok (.iload_n 2, 1) := by decide +kernel
theorem twd_mo_brackets_14 : decode prog_11_method_32_code 14 = .ok (.invokevirtual 169, 3) := by decide +kernel
theorem twd_mo_brackets_17 : decode prog_11_method_32_code 17 = .ok (.bipush 11, 2) := by decide +kernel
theorem twd_mo_brackets_19 : decode prog_11_method_32_code 19 = .ok (.if_icmp .ne 17, 3) := by decide +kernel
theorem twd_mo_brackets_22 : decode prog_11_method_32_code 22 = .ok (.aload_n 0, 1) := by decide +kernel
theorem twd_mo_brackets_23 : decode prog_11_method_32_code 23 = .ok (.getfield 26, 3) := by decide +kernel
theorem twd_mo_brackets_26 : decode prog_11_method_32_code 26 = .ok (.aload_n 0, 1) := by decide +kernel
theorem twd_mo_brackets_27 : decode prog_11_method_32_code 27 = .ok (.getfield 51, 3) := by decide +kernel
theorem twd_mo_brackets_30 : decode prog_11_method_32_code 30 = .ok (.iload_n 2, 1) := by decide +kernel
theorem twd_mo_brackets_31 : decode prog_11_method_32_code 31 = .ok (.iaload, 1) := by decide +kernel
theorem twd_mo_brackets_32 : decode prog_11_method_32_code 32 = .ok (.iaload, 1) := by decide +kernel
theorem twd_mo_brackets_33 : decode prog_11_method_32_code 33 = .ok (.goto 4, 3) := by decide +kernel
theorem twd_mo_brackets_36 : decode prog_11_method_32_code 36 = .ok (.iconst 0, 1) := by decide +kernel
theorem twd_mo_brackets_37 : decode prog_11_method_32_code 37 = .ok (.istore_n 3, 1) := by decide +kernel
theorem twd_mo_brackets_38 : decode prog_11_method_32_code 38 = .ok (.iload_n 3, 1) := by decide +kernel
theorem twd_mo_brackets_39 : decode prog_11_method_32_code 39 = .ok (.ifCond .le 13, 3) := by decide +kernel
theorem twd_mo_brackets_42 : decode prog_11_method_32_code 42 = .ok (.aload_n 0, 1) := by decide +kernel
theorem twd_mo_brackets_43 : decode prog_11_method_32_code 43 = .ok (.getfield 57, 3) := by decide +kernel
theorem twd_mo_brackets_46 : decode prog_11_method_32_code 46 = .ok (.iload_n 1, 1) := by decide +kernel
theorem twd_mo_brackets_47 : decode prog_11_method_32_code 47 = .ok (.iload_n 2, 1) := by decide +kernel
theorem twd_mo_brackets_48 : decode prog_11_method_32_code 48 = .ok (.iastore, 1) := by decide +kernel
theorem twd_mo_brackets_49 : decode prog_11_method_32_code 49 = .ok (.iinc 1 1, 3) := by decide +kernel
theorem twd_mo_brackets_52 : decode prog_11_method_32_code 52 = .ok (.iload_n 3, 1) := by decide +kernel
theorem twd_mo_brackets_53 : decode prog_11_method_32_code 53 = .ok (.ifCond .ge 9, 3) := by decide +kernel
theorem twd_mo_brackets_56 : decode prog_11_method_32_code 56 = .ok (.iload_n 1, 1) := by decide +kernel
theorem twd_mo_brackets_57 : decode prog_11_method_32_code 57 = .ok (.iconst 1, 1) := by decide +kernel
theorem twd_mo_brackets_58 : decode prog_11_method_32_code 58 = .ok (.isub, 1) := by decide +kernel
theorem twd_mo_brackets_59 : decode prog_11_method_32_code 59 = .ok (.goto 4, 3) := by decide +kernel
theorem twd_mo_brackets_62 : decode prog_11_method_32_code 62 = .ok (.iconst (-1), 1) := by decide +kernel
theorem twd_mo_brackets_63 : decode prog_11_method_32_code 63 = .ok (.istore 4, 2) := by decide +kernel
theorem twd_mo_brackets_65 : decode prog_11_method_32_code 65 = .ok (.iload 4, 2) := by decide +kernel
theorem twd_mo_brackets_67 : decode prog_11_method_32_code 67 = .ok (.ifCond .lt 31, 3) := by decide +kernel
theorem twd_mo_brackets_70 : decode prog_11_method_32_code 70 = .ok (.aload_n 0, 1) := by decide +kernel
theorem twd_mo_brackets_71 : decode prog_11_method_32_code 71 = .ok (.getfield 26, 3) := by decide +kernel
theorem twd_mo_brackets_74 : decode prog_11_method_32_code 74 = .ok (.aload_n 0, 1) := by decide +kernel
theorem twd_mo_brackets_75 : decode prog_11_method_32_code 75 = .ok (.getfield 51, 3) := by decide +kernel
theorem twd_mo_brackets_78 : decode prog_11_method_32_code 78 = .ok (.aload_n 0, 1) := by decide +kernel
theorem twd_mo_brackets_79 : decode prog_11_method_32_code 79 = .ok (.getfield 57, 3) := by decide +kernel
theorem twd_mo_brackets_82 : decode prog_11_method_32_code 82 = .ok (.iload 4, 2) := by decide +kernel
theorem twd_mo_brackets_84 : decode prog_11_method_32_code 84 = .ok (.iaload, 1) := by decide +kernel
theorem twd_mo_brackets_85 : decode prog_11_method_32_code 85 = .ok (.iaload, 1) := by decide +kernel
theorem twd_mo_brackets_86 : decode prog_11_method_32_code 86 = .ok (.iaload, 1) := by decide +kernel
theorem twd_mo_brackets_87 : decode prog_11_method_32_code 87 = .ok (.iload_n 3, 1) := by decide +kernel
theorem twd_mo_brackets_88 : decode prog_11_method_32_code 88 = .ok (.ineg, 1) := by decide +kernel
theorem twd_mo_brackets_89 : decode prog_11_method_32_code 89 = .ok (.if_icmp .eq 9, 3) := by decide +kernel
theorem twd_mo_brackets_92 : decode prog_11_method_32_code 92 = .ok (.iinc 4 (-1), 3) := by decide +kernel
theorem twd_mo_brackets_95 : decode prog_11_method_32_code 95 = .ok (.goto (-30), 3) := by decide +kernel
theorem twd_mo_brackets_98 : decode prog_11_method_32_code 98 = .ok (.iload 4, 2) := by decide +kernel
theorem twd_mo_brackets_100 : decode prog_11_method_32_code 100 = .ok (.ifCond .lt 52, 3) := by decide +kernel
theorem twd_mo_brackets_103 : decode prog_11_method_32_code 103 = .ok (.aload_n 0, 1) := by decide +kernel
theorem twd_mo_brackets_104 : decode prog_11_method_32_code 104 = .ok (.getfield 38, 3) := by decide +kernel
theorem twd_mo_brackets_107 : decode prog_11_method_32_code 107 = .ok (.aload_n 0, 1) := by decide +kernel
theorem twd_mo_brackets_108 : decode prog_11_method_32_code 108 = .ok (.getfield 51, 3) := by decide +kernel
theorem twd_mo_brackets_111 : decode prog_11_method_32_code 111 = .ok (.iload_n 2, 1) := by decide +kernel
theorem twd_mo_brackets_112 : decode prog_11_method_32_code 112 = .ok (.iaload, 1) := by decide +kernel
theorem twd_mo_brackets_113 : decode prog_11_method_32_code 113 = .ok (.aload_n 0, 1) := by decide +kernel
theorem twd_mo_brackets_114 : decode prog_11_method_32_code 114 = .ok (.getfield 51, 3) := by decide +kernel
theorem twd_mo_brackets_117 : decode prog_11_method_32_code 117 = .ok (.aload_n 0, 1) := by decide +kernel
theorem twd_mo_brackets_118 : decode prog_11_method_32_code 118 = .ok (.getfield 57, 3) := by decide +kernel
theorem twd_mo_brackets_121 : decode prog_11_method_32_code 121 = .ok (.iload 4, 2) := by decide +kernel
theorem twd_mo_brackets_123 : decode prog_11_method_32_code 123 = .ok (.iaload, 1) := by decide +kernel
theorem twd_mo_brackets_124 : decode prog_11_method_32_code 124 = .ok (.iaload, 1) := by decide +kernel
theorem twd_mo_brackets_125 : decode prog_11_method_32_code 125 = .ok (.iastore, 1) := by decide +kernel
theorem twd_mo_brackets_126 : decode prog_11_method_32_code 126 = .ok (.aload_n 0, 1) := by decide +kernel
theorem twd_mo_brackets_127 : decode prog_11_method_32_code 127 = .ok (.getfield 38, 3) := by decide +kernel
theorem twd_mo_brackets_130 : decode prog_11_method_32_code 130 = .ok (.aload_n 0, 1) := by decide +kernel
theorem twd_mo_brackets_131 : decode prog_11_method_32_code 131 = .ok (.getfield 51, 3) := by decide +kernel
theorem twd_mo_brackets_134 : decode prog_11_method_32_code 134 = .ok (.aload_n 0, 1) := by decide +kernel
theorem twd_mo_brackets_135 : decode prog_11_method_32_code 135 = .ok (.getfield 57, 3) := by decide +kernel
theorem twd_mo_brackets_138 : decode prog_11_method_32_code 138 = .ok (.iload 4, 2) := by decide +kernel
theorem twd_mo_brackets_140 : decode prog_11_method_32_code 140 = .ok (.iaload, 1) := by decide +kernel
theorem twd_mo_brackets_141 : decode prog_11_method_32_code 141 = .ok (.iaload, 1) := by decide +kernel
theorem twd_mo_brackets_142 : decode prog_11_method_32_code 142 = .ok (.aload_n 0, 1) := by decide +kernel
theorem twd_mo_brackets_143 : decode prog_11_method_32_code 143 = .ok (.getfield 51, 3) := by decide +kernel
theorem twd_mo_brackets_146 : decode prog_11_method_32_code 146 = .ok (.iload_n 2, 1) := by decide +kernel
theorem twd_mo_brackets_147 : decode prog_11_method_32_code 147 = .ok (.iaload, 1) := by decide +kernel
theorem twd_mo_brackets_148 : decode prog_11_method_32_code 148 = .ok (.iastore, 1) := by decide +kernel
theorem twd_mo_brackets_149 : decode prog_11_method_32_code 149 = .ok (.iload 4, 2) := by decide +kernel
theorem twd_mo_brackets_151 : decode prog_11_method_32_code 151 = .ok (.istore_n 1, 1) := by decide +kernel
theorem twd_mo_brackets_152 : decode prog_11_method_32_code 152 = .ok (.iinc 2 1, 3) := by decide +kernel
theorem twd_mo_brackets_155 : decode prog_11_method_32_code 155 = .ok (.goto (-151), 3) := by decide +kernel
theorem twd_mo_brackets_158 : decode prog_11_method_32_code 158 = .ok (.iconst 0, 1) := by decide +kernel
theorem twd_mo_brackets_159 : decode prog_11_method_32_code 159 = .ok (.istore_n 2, 1) := by decide +kernel
theorem twd_mo_brackets_160 : decode prog_11_method_32_code 160 = .ok (.iload_n 2, 1) := by decide +kernel
theorem twd_mo_brackets_161 : decode prog_11_method_32_code 161 = .ok (.aload_n 0, 1) := by decide +kernel
theorem twd_mo_brackets_162 : decode prog_11_method_32_code 162 = .ok (.getfield 139, 3) := by decide +kernel
theorem twd_mo_brackets_165 : decode prog_11_method_32_code 165 = .ok (.if_icmp .ge 58, 3) := by decide +kernel
theorem twd_mo_brackets_168 : decode prog_11_method_32_code 168 = .ok (.aload_n 0, 1) := by decide +kernel
theorem twd_mo_brackets_169 : decode prog_11_method_32_code 169 = .ok (.getfield 38, 3) := by decide +kernel
theorem twd_mo_brackets_172 : decode prog_11_method_32_code 172 = .ok (.aload_n 0, 1) := by decide +kernel
theorem twd_mo_brackets_173 : decode prog_11_method_32_code 173 = .ok (.getfield 51, 3) := by decide +kernel
theorem twd_mo_brackets_176 : decode prog_11_method_32_code 176 = .ok (.iload_n 2, 1) := by decide +kernel
theorem twd_mo_brackets_177 : decode prog_11_method_32_code 177 = .ok (.iaload, 1) := by decide +kernel
theorem twd_mo_brackets_178 : decode prog_11_method_32_code 178 = .ok (.iaload, 1) := by decide +kernel
theorem twd_mo_brackets_179 : decode prog_11_method_32_code 179 = .ok (.istore_n 3, 1) := by decide +kernel
theorem twd_mo_brackets_180 : decode prog_11_method_32_code 180 = .ok (.iload_n 3, 1) := by decide +kernel
theorem twd_mo_brackets_181 : decode prog_11_method_32_code 181 = .ok (.aload_n 0, 1) := by decide +kernel
theorem twd_mo_brackets_182 : decode prog_11_method_32_code 182 = .ok (.getfield 51, 3) := by decide +kernel
theorem twd_mo_brackets_185 : decode prog_11_method_32_code 185 = .ok (.iload_n 2, 1) := by decide +kernel
theorem twd_mo_brackets_186 : decode prog_11_method_32_code 186 = .ok (.iaload, 1) := by decide +kernel
theorem twd_mo_brackets_187 : decode prog_11_method_32_code 187 = .ok (.if_icmp .le 30, 3) := by decide +kernel
theorem twd_mo_brackets_190 : decode prog_11_method_32_code 190 = .ok (.iload_n 2, 1) := by decide +kernel
theorem twd_mo_brackets_191 : decode prog_11_method_32_code 191 = .ok (.istore 4, 2) := by decide +kernel
theorem twd_mo_brackets_193 : decode prog_11_method_32_code 193 = .ok (.aload_n 0, 1) := by decide +kernel
theorem twd_mo_brackets_194 : decode prog_11_method_32_code 194 = .ok (.getfield 51, 3) := by decide +kernel
theorem twd_mo_brackets_197 : decode prog_11_method_32_code 197 = .ok (.iload 4, 2) := by decide +kernel
theorem twd_mo_brackets_199 : decode prog_11_method_32_code 199 = .ok (.iaload, 1) := by decide +kernel
theorem twd_mo_brackets_200 : decode prog_11_method_32_code 200 = .ok (.iload_n 3, 1) := by decide +kernel
theorem twd_mo_brackets_201 : decode prog_11_method_32_code 201 = .ok (.if_icmp .eq 9, 3) := by decide +kernel
theorem twd_mo_brackets_204 : decode prog_11_method_32_code 204 = .ok (.iinc 4 1, 3) := by decide +kernel
theorem twd_mo_brackets_207 : decode prog_11_method_32_code 207 = .ok (.goto (-14), 3) := by decide +kernel
theorem twd_mo_brackets_210 : decode prog_11_method_32_code 210 = .ok (.aload_n 0, 1) := by decide +kernel
theorem twd_mo_brackets_211 : decode prog_11_method_32_code 211 = .ok (.iload_n 2, 1) := by decide +kernel
theorem twd_mo_brackets_212 : decode prog_11_method_32_code 212 = .ok (.iload 4, 2) := by decide +kernel
theorem twd_mo_brackets_214 : decode prog_11_method_32_code 214 = .ok (.invokevirtual 179, 3) := by decide +kernel
theorem twd_mo_brackets_217 : decode prog_11_method_32_code 217 = .ok (.iinc 2 1, 3) := by decide +kernel
theorem twd_mo_brackets_220 : decode prog_11_method_32_code 220 = .ok (.goto (-60), 3) := by decide +kernel
theorem twd_mo_brackets_223 : decode prog_11_method_32_code 223 = .ok (.return_, 1) := by decide +kernel
theorem twk_mo_brackets : tw_dc twy_mo_brackets 0 := ⟨by decide +kernel, by decide +kernel, by decide +kernel⟩
theorem twd_mo_neutral_0 : decode prog_11_method_35_code 0 = .ok (.iconst 0, 1) := by decide +kernel
theorem twd_mo_neutral_1 : decode prog_11_method_35_code 1 = .ok (.istore_n 1, 1) := by decide +kernel
theorem twd_mo_neutral_2 : decode prog_11_method_35_code 2 = .ok (.iload_n 1, 1) := by decide +kernel
theorem twd_mo_neutral_3 : decode prog_11_method_35_code 3 = .ok (.aload_n 0, 1) := by decide +kernel
theorem twd_mo_neutral_4 : decode prog_11_method_35_code 4 = .ok (.getfield 139, 3) := by decide +kernel
theorem twd_mo_neutral_7 : decode prog_11_method_35_code 7 = .ok (.if_icmp .ge 126, 3) := by decide +kernel
theorem twd_mo_neutral_10 : decode prog_11_method_35_code 10 = .ok (.iload_n 1, 1) := by decide +kernel
theorem twd_mo_neutral_11 : decode prog_11_method_35_code 11 = .ok (.istore_n 2, 1) := by decide +kernel
theorem twd_mo_neutral_12 : decode prog_11_method_35_code 12 = .ok (.iload_n 2, 1) := by decide +kernel
theorem twd_mo_neutral_13 : decode prog_11_method_35_code 13 = .ok (.aload_n 0, 1) := by decide +kernel
theorem twd_mo_neutral_14 : decode prog_11_method_35_code 14 = .ok (.getfield 139, 3) := by decide +kernel
theorem twd_mo_neutral_17 : decode prog_11_method_35_code 17 = .ok (.if_icmp .ge 19, 3) := by decide +kernel
theorem twd_mo_neutral_20 : decode prog_11_method_35_code 20 = .ok (.aload_n 0, 1) := by decide +kernel
theorem twd_mo_neutral_21 : decode prog_11_method_35_code 21 = .ok (.iload_n 2, 1) := by decide +kernel
theorem twd_mo_neutral_22 : decode prog_11_method_35_code 22 = .ok (.invokevirtual 169, 3) := by decide +kernel
theorem twd_mo_neutral_25 : decode prog_11_method_35_code 25 = .ok (.bipush 9, 2) := by decide +kernel
theorem twd_mo_neutral_27 : decode prog_11_method_35_code 27 = .ok (.if_icmp .lt 9, 3) := by decide +kernel
theorem twd_mo_neutral_30 : decode prog_11_method_35_code 30 = .ok (.iinc 2 1, 3) := by decide +kernel
theorem twd_mo_neutral_33 : decode prog_11_method_35_code 33 = .ok (.goto (-21), 3) := by decide +kernel
theorem twd_mo_neutral_36 : decode prog_11_method_35_code 36 = .ok (.iload_n 2, 1) := by decide +kernel
theorem twd_mo_neutral_37 : decode prog_11_method_35_code 37 = .ok (.iload_n 1, 1) := by decide +kernel
theorem twd_mo_neutral_38 : decode prog_11_method_35_code 38 = .ok (.if_icmp .le 79, 3) := by decide +kernel
theorem twd_mo_neutral_41 : decode prog_11_method_35_code 41 = .ok (.iload_n 1, 1) := by decide +kernel
theorem twd_mo_neutral_42 : decode prog_11_method_35_code 42 = .ok (.ifCond .ne 10, 3) := by decide +kernel
theorem twd_mo_neutral_45 : decode prog_11_method_35_code 45 = .ok (.aload_n 0, 1) := by decide +kernel
theorem twd_mo_neutral_46 : decode prog_11_method_35_code 46 = .ok (.getfield 160, 3) := by decide +kernel
theorem twd_mo_neutral_49 : decode prog_11_method_35_code 49 = .ok (.goto 10, 3) := by decide +kernel
theorem twd_mo_neutral_52 : decode prog_11_method_35_code 52 = .ok (.aload_n 0, 1) := by decide +kernel
theorem twd_mo_neutral_53 : decode prog_11_method_35_code 53 = .ok (.iload_n 1, 1) := by decide +kernel
theorem twd_mo_neutral_54 : decode prog_11_method_35_code 54 = .ok (.iconst 1, 1) := by decide +kernel
theorem twd_mo_neutral_55 : decode prog_11_method_35_code 55 = .ok (.isub, 1) := by decide +kernel
theorem twd_mo_neutral_56 : decode prog_11_method_35_code 56 = .ok (.invokevirtual 182, 3) := by decide +kernel
theorem twd_mo_neutral_59 : decode prog_11_method_35_code 59 = .ok (.istore_n 3, 1) := by decide +kernel
theorem twd_mo_neutral_60 : decode prog_11_method_35_code 60 = .ok (.iload_n 2, 1) := by decide +kernel
theorem twd_mo_neutral_61 : decode prog_11_method_35_code 61 = .ok (.aload_n 0, 1) := by decide +kernel
theorem twd_mo_neutral_62 : decode prog_11_method_35_code 62 = .ok (.getfield 139, 3) := by decide +kernel
theorem twd_mo_neutral_65 : decode prog_11_method_35_code 65 = .ok (.if_icmp .ne 10, 3) := by decide +kernel
theorem twd_mo_neutral_68 : decode prog_11_method_35_code 68 = .ok (.aload_n 0, 1) := by decide +kernel
theorem twd_mo_neutral_69 : decode prog_11_method_35_code 69 = .ok (.getfield 163, 3) := by decide +kernel
theorem twd_mo_neutral_72 : decode prog_11_method_35_code 72 = .ok (.goto 8, 3) := by decide +kernel
theorem twd_mo_neutral_75 : decode prog_11_method_35_code 75 = .ok (.aload_n 0, 1) := by decide +kernel
theorem twd_mo_neutral_76 : decode prog_11_method_35_code 76 = .ok (.iload_n 2, 1) := by decide +kernel
theorem twd_mo_neutral_77 : decode prog_11_method_35_code 77 = .ok (.invokevirtual 182, 3) := by decide +kernel
theorem twd_mo_neutral_80 : decode prog_11_method_35_code 80 = .ok (.istore 4, 2) := by decide +kernel
theorem twd_mo_neutral_82 : decode prog_11_method_35_code 82 = .ok (.iload_n 1, 1) := by decide +kernel
theorem twd_mo_neutral_83 : decode prog_11_method_35_code 83 = .ok (.istore 5, 2) := by decide +kernel
theorem twd_mo_neutral_85 : decode prog_11_method_35_code 85 = .ok (.iload 5, 2) := by decide +kernel
theorem twd_mo_neutral_87 : decode prog_11_method_35_code 87 = .ok (.iload_n 2, 1) := by decide +kernel
theorem twd_mo_neutral_88 : decode prog_11_method_35_code 88 = .ok (.if_icmp .ge 29, 3) := by decide +kernel
theorem twd_mo_neutral_91 : decode prog_11_method_35_code 91 = .ok (.aload_n 0, 1) := by decide +kernel
theorem twd_mo_neutral_92 : decode prog_11_method_35_code 92 = .ok (.iload 5, 2) := by decide +kernel
theorem twd_mo_neutral_94 : decode prog_11_method_35_code 94 = .ok (.iload_n 3, 1) := by decide +kernel
theorem twd_mo_neutral_95 : decode prog_11_method_35_code 95 = .ok (.iload 4, 2) := by decide +kernel
theorem twd_mo_neutral_97 : decode prog_11_method_35_code 97 = .ok (.if_icmp .ne 7, 3) := by decide +kernel
theorem twd_mo_neutral_100 : decode prog_11_method_35_code 100 = .ok (.iload_n 3, 1) := by decide +kernel
theorem twd_mo_neutral_101 : decode prog_11_method_35_code 101 = .ok (.goto 7, 3) := by decide +kernel
theorem twd_mo_neutral_104 : decode prog_11_method_35_code 104 = .ok (.aload_n 0, 1) := by decide +kernel
theorem twd_mo_neutral_105 : decode prog_11_method_35_code 105 = .ok (.getfield 166, 3) := by decide +kernel
theorem twd_mo_neutral_108 : decode prog_11_method_35_code 108 = .ok (.invokevirtual 172, 3) := by decide +kernel
theorem twd_mo_neutral_111 : decode prog_11_method_35_code 111 = .ok (.iinc 5 1, 3) := by decide +kernel
theorem twd_mo_neutral_114 : decode prog_11_method_35_code 114 = .ok (.goto (-29), 3) := by decide +kernel
theorem twd_mo_neutral_117 : decode prog_11_method_35_code 117 = .ok (.iload_n 2, 1) := by decide +kernel
theorem twd_mo_neutral_118 : decode prog_11_method_35_code 118 = .ok (.iload_n 1, 1) := by decide +kernel
theorem twd_mo_neutral_119 : decode prog_11_method_35_code 119 = .ok (.if_icmp .le 7, 3) := by decide +kernel
theorem twd_mo_neutral_122 : decode prog_11_method_35_code 122 = .ok (.iload_n 2, 1) := by decide +kernel
theorem twd_mo_neutral_123 : decode prog_11_method_35_code 123 = .ok (.goto 6, 3) := by decide +kernel
theorem twd_mo_neutral_126 : decode prog_11_method_35_code 126 = .ok (.iload_n 1, 1) := by decide +kernel
theorem twd_mo_neutral_127 : decode prog_11_method_35_code 127 = .ok (.iconst 1, 1) := by decide +kernel
theorem twd_mo_neutral_128 : decode prog_11_method_35_code 128 = .ok (.iadd, 1) := by decide +kernel
theorem twd_mo_neutral_129 : decode prog_11_method_35_code 129 = .ok (.istore_n 1, 1) := by decide +kernel
theorem twd_mo_neutral_130 : decode prog_11_method_35_code 130 = .ok (.goto (-128), 3) := by decide +kernel
theorem twd_mo_neutral_133 : decode prog_11_method_35_code 133 = .ok (.return_, 1) := by decide +kernel
theorem twk_mo_neutral : tw_dc twy_mo_neutral 0 := ⟨by decide +kernel, by decide +kernel, by decide +kernel⟩
theorem twd_mo_sequences_0 : decode prog_11_method_25_code 0 = .ok (.iconst 0, 1) := by decide +kernel
theorem twd_mo_sequences_1 : decode prog_11_method_25_code 1 = .ok (.istore_n 1, 1) := by decide +kernel
theorem twd_mo_sequences_2 : decode prog_11_method_25_code 2 = .ok (.iload_n 1, 1) := by decide +kernel
theorem twd_mo_sequences_3 : decode prog_11_method_25_code 3 = .ok (.aload_n 0, 1) := by decide +kernel
theorem twd_mo_sequences_4 : decode prog_11_method_25_code 4 = .ok (.getfield 69, 3) := by decide +kernel
theorem twd_mo_sequences_7 : decode prog_11_method_25_code 7 = .ok (.if_icmp .ge 128, 3) := by decide +kernel
theorem twd_mo_sequences_10 : decode prog_11_method_25_code 10 = .ok (.aload_n 0, 1) := by decide +kernel
theorem twd_mo_sequences_11 : decode prog_11_method_25_code 11 = .ok (.iload_n 1, 1) := by decide +kernel
theorem twd_mo_sequences_12 : decode prog_11_method_25_code 12 = .ok (.invokevirtual 130, 3) := by decide +kernel
theorem twd_mo_sequences_15 : decode prog_11_method_25_code 15 = .ok (.ifCond .ne 114, 3) := by decide +kernel
theorem twd_mo_sequences_18 : decode prog_11_method_25_code 18 = .ok (.aload_n 0, 1) := by decide +kernel
theorem twd_mo_sequences_19 : decode prog_11_method_25_code 19 = .ok (.iload_n 1, 1) := by decide +kernel
theorem twd_mo_sequences_20 : decode prog_11_method_25_code 20 = .ok (.invokevirtual 136, 3) := by decide +kernel
theorem twd_mo_sequences_23 : decode prog_11_method_25_code 23 = .ok (.ifCond .eq 106, 3) := by decide +kernel
theorem twd_mo_sequences_26 : decode prog_11_method_25_code 26 = .ok (.aload_n 0, 1) := by decide +kernel
theorem twd_mo_sequences_27 : decode prog_11_method_25_code 27 = .ok (.getfield 16, 3) := by decide +kernel
theorem twd_mo_sequences_30 : decode prog_11_method_25_code 30 = .ok (.iload_n 1, 1) := by decide +kernel
theorem twd_mo_sequences_31 : decode prog_11_method_25_code 31 = .ok (.iaload, 1) := by decide +kernel
theorem twd_mo_sequences_32 : decode prog_11_method_25_code 32 = .ok (.bipush 20, 2) := by decide +kernel
theorem twd_mo_sequences_34 : decode prog_11_method_25_code 34 = .ok (.if_icmp .ne 11, 3) := by decide +kernel
theorem twd_mo_sequences_37 : decode prog_11_method_25_code 37 = .ok (.aload_n 0, 1) := by decide +kernel
theorem twd_mo_sequences_38 : decode prog_11_method_25_code 38 = .ok (.iload_n 1, 1) := by decide +kernel
theorem twd_mo_sequences_39 : decode prog_11_method_25_code 39 = .ok (.invokevirtual 142, 3) := by decide +kernel
theorem twd_mo_sequences_42 : decode prog_11_method_25_code 42 = .ok (.ifCond .ge 87, 3) := by decide +kernel
theorem twd_mo_sequences_45 : decode prog_11_method_25_code 45 = .ok (.aload_n 0, 1) := by decide +kernel
theorem twd_mo_sequences_46 : decode prog_11_method_25_code 46 = .ok (.iconst 0, 1) := by decide +kernel
theorem twd_mo_sequences_47 : decode prog_11_method_25_code 47 = .ok (.putfield 139, 3) := by decide +kernel
theorem twd_mo_sequences_50 : decode prog_11_method_25_code 50 = .ok (.iload_n 1, 1) := by decide +kernel
theorem twd_mo_sequences_51 : decode prog_11_method_25_code 51 = .ok (.istore_n 2, 1) := by decide +kernel
theorem twd_mo_sequences_52 : decode prog_11_method_25_code 52 = .ok (.iconst 0, 1) := by decide +kernel
theorem twd_mo_sequences_53 : decode prog_11_method_25_code 53 = .ok (.istore_n 3, 1) := by decide +kernel
theorem twd_mo_sequences_54 : decode prog_11_method_25_code 54 = .ok (.iload_n 3, 1) := by decide +kernel
theorem twd_mo_sequences_55 : decode prog_11_method_25_code 55 = .ok (.bipush 64, 2) := by decide +kernel
theorem twd_mo_sequences_57 : decode prog_11_method_25_code 57 = .ok (.if_icmp .ge 56, 3) := by decide +kernel
theorem twd_mo_sequences_60 : decode prog_11_method_25_code 60 = .ok (.iload_n 2, 1) := by decide +kernel
theorem twd_mo_sequences_61 : decode prog_11_method_25_code 61 = .ok (.ifCond .lt 52, 3) := by decide +kernel
theorem twd_mo_sequences_64 : decode prog_11_method_25_code 64 = .ok (.aload_n 0, 1) := by decide +kernel
theorem twd_mo_sequences_65 : decode prog_11_method_25_code 65 = .ok (.iload_n 2, 1) := by decide +kernel
theorem twd_mo_sequences_66 : decode prog_11_method_25_code 66 = .ok (.invokevirtual 145, 3) := by decide +kernel
theorem twd_mo_sequences_69 : decode prog_11_method_25_code 69 = .ok (.aload_n 0, 1) := by decide +kernel
theorem twd_mo_sequences_70 : decode prog_11_method_25_code 70 = .ok (.aload_n 0, 1) := by decide +kernel
theorem twd_mo_sequences_71 : decode prog_11_method_25_code 71 = .ok (.getfield 51, 3) := by decide +kernel
theorem twd_mo_sequences_74 : decode prog_11_method_25_code 74 = .ok (.aload_n 0, 1) := by decide +kernel
theorem twd_mo_sequences_75 : decode prog_11_method_25_code 75 = .ok (.getfield 139, 3) := by decide +kernel
theorem twd_mo_sequences_78 : decode prog_11_method_25_code 78 = .ok (.iconst 1, 1) := by decide +kernel
theorem twd_mo_sequences_79 : decode prog_11_method_25_code 79 = .ok (.isub, 1) := by decide +kernel
theorem twd_mo_sequences_80 : decode prog_11_method_25_code 80 = .ok (.iaload, 1) := by decide +kernel
theorem twd_mo_sequences_81 : decode prog_11_method_25_code 81 = .ok (.invokevirtual 76, 3) := by decide +kernel
theorem twd_mo_sequences_84 : decode prog_11_method_25_code 84 = .ok (.ifCond .eq 21, 3) := by decide +kernel
theorem twd_mo_sequences_87 : decode prog_11_method_25_code 87 = .ok (.aload_n 0, 1) := by decide +kernel
theorem twd_mo_sequences_88 : decode prog_11_method_25_code 88 = .ok (.aload_n 0, 1) := by decide +kernel
theorem twd_mo_sequences_89 : decode prog_11_method_25_code 89 = .ok (.getfield 51, 3) := by decide +kernel
theorem twd_mo_sequences_92 : decode prog_11_method_25_code 92 = .ok (.aload_n 0, 1) := by decide +kernel
theorem twd_mo_sequences_93 : decode prog_11_method_25_code 93 = .ok (.getfield 139, 3) := by decide +kernel
theorem twd_mo_sequences_96 : decode prog_11_method_25_code 96 = .ok (.iconst 1, 1) := by decide +kernel
theorem twd_mo_sequences_97 : decode prog_11_method_25_code 97 = .ok (.isub, 1) := by decide +kernel
theorem twd_mo_sequences_98 : decode prog_11_method_25_code 98 = .ok (.iaload, 1) := by decide +kernel
theorem twd_mo_sequences_99 : decode prog_11_method_25_code 99 = .ok (.invokevirtual 80, 3) := by decide +kernel
theorem twd_mo_sequences_102 : decode prog_11_method_25_code 102 = .ok (.goto 4, 3) := by decide +kernel
theorem twd_mo_sequences_105 : decode prog_11_method_25_code 105 = .ok (.iconst (-1), 1) := by decide +kernel
theorem twd_mo_sequences_106 : decode prog_11_method_25_code 106 = .ok (.istore_n 2, 1) := by decide +kernel
theorem twd_mo_sequences_107 : decode prog_11_method_25_code 107 = .ok (.iinc 3 1, 3) := by decide +kernel
theorem twd_mo_sequences_110 : decode prog_11_method_25_code 110 = .ok (.goto (-56), 3) := by decide +kernel
theorem twd_mo_sequences_113 : decode prog_11_method_25_code 113 = .ok (.aload_n 0, 1) := by decide +kernel
theorem twd_mo_sequences_114 : decode prog_11_method_25_code 114 = .ok (.invokevirtual 148, 3) := by decide +kernel
theorem twd_mo_sequences_117 : decode prog_11_method_25_code 117 = .ok (.aload_n 0, 1) := by decide +kernel
theorem twd_mo_sequences_118 : decode prog_11_method_25_code 118 = .ok (.invokevirtual 151, 3) := by decide +kernel
theorem twd_mo_sequences_121 : decode prog_11_method_25_code 121 = .ok (.aload_n 0, 1) := by decide +kernel
theorem twd_mo_sequences_122 : decode prog_11_method_25_code 122 = .ok (.invokevirtual 154, 3) := by decide +kernel
theorem twd_mo_sequences_125 : decode prog_11_method_25_code 125 = .ok (.aload_n 0, 1) := by decide +kernel
theorem twd_mo_sequences_126 : decode prog_11_method_25_code 126 = .ok (.invokevirtual 157, 3) := by decide +kernel
theorem twd_mo_sequences_129 : decode prog_11_method_25_code 129 = .ok (.iinc 1 1, 3) := by decide +kernel
theorem twd_mo_sequences_132 : decode prog_11_method_25_code 132 = .ok (.goto (-130), 3) := by decide +kernel
theorem twd_mo_sequences_135 : decode prog_11_method_25_code 135 = .ok (.return_, 1) := by decide +kernel
theorem twk_mo_sequences : tw_dc twy_mo_sequences 0 := ⟨by decide +kernel, by decide +kernel, by decide +kernel⟩
theorem twd_mo_resolve_0 : decode prog_11_method_36_code 0 = .ok (.iconst 0, 1) := by decide +kernel
theorem twd_mo_resolve_1 : decode prog_11_method_36_code 1 = .ok (.istore_n 1, 1) := by decide +kernel
theorem twd_mo_resolve_2 : decode prog_11_method_36_code 2 = .ok (.iload_n 1, 1) := by decide +kernel
theorem twd_mo_resolve_3 : decode prog_11_method_36_code 3 = .ok (.aload_n 0, 1) := by decide +kernel
theorem twd_mo_resolve_4 : decode prog_11_method_36_code 4 = .ok (.getfield 69, 3) := by decide +kernel
theorem twd_mo_resolve_7 : decode prog_11_method_36_code 7 = .ok (.if_icmp .ge 109, 3) := by decide +kernel
theorem twd_mo_resolve_10 : decode prog_11_method_36_code 10 = .ok (.aload_n 0, 1) := by decide +kernel
theorem twd_mo_resolve_11 : decode prog_11_method_36_code 11 = .ok (.getfield 32, 3) := by decide +kernel
theorem twd_mo_resolve_14 : decode prog_11_method_36_code 14 = .ok (.iload_n 1, 1) := by decide +kernel
theorem twd_mo_resolve_15 : decode prog_11_method_36_code 15 = .ok (.iaload, 1) := by decide +kernel
theorem twd_mo_resolve_16 : decode prog_11_method_36_code 16 = .ok (.istore_n 2, 1) := by decide +kernel
theorem twd_mo_resolve_17 : decode prog_11_method_36_code 17 = .ok (.aload_n 0, 1) := by decide +kernel
theorem twd_mo_resolve_18 : decode prog_11_method_36_code 18 = .ok (.getfield 29, 3) := by decide +kernel
theorem twd_mo_resolve_21 : decode prog_11_method_36_code 21 = .ok (.iload_n 1, 1) := by decide +kernel
theorem twd_mo_resolve_22 : decode prog_11_method_36_code 22 = .ok (.iaload, 1) := by decide +kernel
theorem twd_mo_resolve_23 : decode prog_11_method_36_code 23 = .ok (.istore_n 3, 1) := by decide +kernel
theorem twd_mo_resolve_24 : decode prog_11_method_36_code 24 = .ok (.iload_n 3, 1) := by decide +kernel
theorem twd_mo_resolve_25 : decode prog_11_method_36_code 25 = .ok (.iconst 2, 1) := by decide +kernel
theorem twd_mo_resolve_26 : decode prog_11_method_36_code 26 = .ok (.irem, 1) := by decide +kernel
theorem twd_mo_resolve_27 : decode prog_11_method_36_code 27 = .ok (.ifCond .ne 31, 3) := by decide +kernel
theorem twd_mo_resolve_30 : decode prog_11_method_36_code 30 = .ok (.iload_n 2, 1) := by decide +kernel
theorem twd_mo_resolve_31 : decode prog_11_method_36_code 31 = .ok (.iconst 1, 1) := by decide +kernel
theorem twd_mo_resolve_32 : decode prog_11_method_36_code 32 = .ok (.if_icmp .ne 7, 3) := by decide +kernel
theorem twd_mo_resolve_35 : decode prog_11_method_36_code 35 = .ok (.iconst 1, 1) := by decide +kernel
theorem twd_mo_resolve_36 : decode prog_11_method_36_code 36 = .ok (.goto 32, 3) := by decide +kernel
theorem twd_mo_resolve_39 : decode prog_11_method_36_code 39 = .ok (.iload_n 2, 1) := by decide +kernel
theorem twd_mo_resolve_40 : decode prog_11_method_36_code 40 = .ok (.iconst 3, 1) := by decide +kernel
theorem twd_mo_resolve_41 : decode prog_11_method_36_code 41 = .ok (.if_icmp .eq 9, 3) := by decide +kernel
theorem twd_mo_resolve_44 : decode prog_11_method_36_code 44 = .ok (.iload_n 2, 1) := by decide +kernel
theorem twd_mo_resolve_45 : decode prog_11_method_36_code 45 = .ok (.bipush 6, 2) := by decide +kernel
theorem twd_mo_resolve_47 : decode prog_11_method_36_code 47 = .ok (.if_icmp .ne 7, 3) := by decide +kernel
theorem twd_mo_resolve_50 : decode prog_11_method_36_code 50 = .ok (.iconst 2, 1) := by decide +kernel
theorem twd_mo_resolve_51 : decode prog_11_method_36_code 51 = .ok (.goto 17, 3) := by decide +kernel
theorem twd_mo_resolve_54 : decode prog_11_method_36_code 54 = .ok (.iconst 0, 1) := by decide +kernel
theorem twd_mo_resolve_55 : decode prog_11_method_36_code 55 = .ok (.goto 13, 3) := by decide +kernel
theorem twd_mo_resolve_58 : decode prog_11_method_36_code 58 = .ok (.iload_n 2, 1) := by decide +kernel
theorem twd_mo_resolve_59 : decode prog_11_method_36_code 59 = .ok (.iconst 1, 1) := by decide +kernel
theorem twd_mo_resolve_60 : decode prog_11_method_36_code 60 = .ok (.if_icmp .ne 7, 3) := by decide +kernel
theorem twd_mo_resolve_63 : decode prog_11_method_36_code 63 = .ok (.iconst 0, 1) := by decide +kernel
theorem twd_mo_resolve_64 : decode prog_11_method_36_code 64 = .ok (.goto 4, 3) := by decide +kernel
theorem twd_mo_resolve_67 : decode prog_11_method_36_code 67 = .ok (.iconst 1, 1) := by decide +kernel
theorem twd_mo_resolve_68 : decode prog_11_method_36_code 68 = .ok (.istore 4, 2) := by decide +kernel
theorem twd_mo_resolve_70 : decode prog_11_method_36_code 70 = .ok (.aload_n 0, 1) := by decide +kernel
theorem twd_mo_resolve_71 : decode prog_11_method_36_code 71 = .ok (.getfield 35, 3) := by decide +kernel
theorem twd_mo_resolve_74 : decode prog_11_method_36_code 74 = .ok (.iload_n 1, 1) := by decide +kernel
theorem twd_mo_resolve_75 : decode prog_11_method_36_code 75 = .ok (.aload_n 0, 1) := by decide +kernel
theorem twd_mo_resolve_76 : decode prog_11_method_36_code 76 = .ok (.iload_n 1, 1) := by decide +kernel
theorem twd_mo_resolve_77 : decode prog_11_method_36_code 77 = .ok (.invokevirtual 130, 3) := by decide +kernel
theorem twd_mo_resolve_80 : decode prog_11_method_36_code 80 = .ok (.ifCond .eq 25, 3) := by decide +kernel
theorem twd_mo_resolve_83 : decode prog_11_method_36_code 83 = .ok (.iload_n 1, 1) := by decide +kernel
theorem twd_mo_resolve_84 : decode prog_11_method_36_code 84 = .ok (.ifCond .ne 10, 3) := by decide +kernel
theorem twd_mo_resolve_87 : decode prog_11_method_36_code 87 = .ok (.aload_n 0, 1) := by decide +kernel
theorem twd_mo_resolve_88 : decode prog_11_method_36_code 88 = .ok (.getfield 115, 3) := by decide +kernel
theorem twd_mo_resolve_91 : decode prog_11_method_36_code 91 = .ok (.goto 18, 3) := by decide +kernel
theorem twd_mo_resolve_94 : decode prog_11_method_36_code 94 = .ok (.aload_n 0, 1) := by decide +kernel
theorem twd_mo_resolve_95 : decode prog_11_method_36_code 95 = .ok (.getfield 35, 3) := by decide +kernel
theorem twd_mo_resolve_98 : decode prog_11_method_36_code 98 = .ok (.iload_n 1, 1) := by decide +kernel
theorem twd_mo_resolve_99 : decode prog_11_method_36_code 99 = .ok (.iconst 1, 1) := by decide +kernel
theorem twd_mo_resolve_100 : decode prog_11_method_36_code 100 = .ok (.isub, 1) := by decide +kernel
theorem twd_mo_resolve_101 : decode prog_11_method_36_code 101 = .ok (.iaload, 1) := by decide +kernel
theorem twd_mo_resolve_102 : decode prog_11_method_36_code 102 = .ok (.goto 7, 3) := by decide +kernel
theorem twd_mo_resolve_105 : decode prog_11_method_36_code 105 = .ok (.iload_n 3, 1) := by decide +kernel
theorem twd_mo_resolve_106 : decode prog_11_method_36_code 106 = .ok (.iload 4, 2) := by decide +kernel
theorem twd_mo_resolve_108 : decode prog_11_method_36_code 108 = .ok (.iadd, 1) := by decide +kernel
theorem twd_mo_resolve_109 : decode prog_11_method_36_code 109 = .ok (.iastore, 1) := by decide +kernel
theorem twd_mo_resolve_110 : decode prog_11_method_36_code 110 = .ok (.iinc 1 1, 3) := by decide +kernel
theorem twd_mo_resolve_113 : decode prog_11_method_36_code 113 = .ok (.goto (-111), 3) := by decide +kernel
theorem twd_mo_resolve_116 : decode prog_11_method_36_code 116 = .ok (.return_, 1) := by decide +kernel
theorem twk_mo_resolve : tw_dc twy_mo_resolve 0 := ⟨by decide +kernel, by decide +kernel, by decide +kernel⟩
theorem twd_mo_groupOf_0 : decode prog_11_method_37_code 0 = .ok (.iload_n 1, 1) := by decide +kernel
theorem twd_mo_groupOf_1 : decode prog_11_method_37_code 1 = .ok (.istore_n 2, 1) := by decide +kernel
theorem twd_mo_groupOf_2 : decode prog_11_method_37_code 2 = .ok (.iload_n 2, 1) := by decide +kernel
theorem twd_mo_groupOf_3 : decode prog_11_method_37_code 3 = .ok (.ifCond .lt 20, 3) := by decide +kernel
theorem twd_mo_groupOf_6 : decode prog_11_method_37_code 6 = .ok (.aload_n 0, 1) := by decide +kernel
theorem twd_mo_groupOf_7 : decode prog_11_method_37_code 7 = .ok (.getfield 16, 3) := by decide +kernel
theorem twd_mo_groupOf_10 : decode prog_11_method_37_code 10 = .ok (.iload_n 2, 1) := by decide +kernel
theorem twd_mo_groupOf_11 : decode prog_11_method_37_code 11 = .ok (.iaload, 1) := by decide +kernel
theorem twd_mo_groupOf_12 : decode prog_11_method_37_code 12 = .ok (.bipush 8, 2) := by decide +kernel
theorem twd_mo_groupOf_14 : decode prog_11_method_37_code 14 = .ok (.if_icmp .ne 9, 3) := by decide +kernel
theorem twd_mo_groupOf_17 : decode prog_11_method_37_code 17 = .ok (.iinc 2 (-1), 3) := by decide +kernel
theorem twd_mo_groupOf_20 : decode prog_11_method_37_code 20 = .ok (.goto (-18), 3) := by decide +kernel
theorem twd_mo_groupOf_23 : decode prog_11_method_37_code 23 = .ok (.iload_n 2, 1) := by decide +kernel
theorem twd_mo_groupOf_24 : decode prog_11_method_37_code 24 = .ok (.ifCond .ge 7, 3) := by decide +kernel
theorem twd_mo_groupOf_27 : decode prog_11_method_37_code 27 = .ok (.iconst 0, 1) := by decide +kernel
theorem twd_mo_groupOf_28 : decode prog_11_method_37_code 28 = .ok (.goto 9, 3) := by decide +kernel
theorem twd_mo_groupOf_31 : decode prog_11_method_37_code 31 = .ok (.aload_n 0, 1) := by decide +kernel
theorem twd_mo_groupOf_32 : decode prog_11_method_37_code 32 = .ok (.getfield 20, 3) := by decide +kernel
theorem twd_mo_groupOf_35 : decode prog_11_method_37_code 35 = .ok (.iload_n 2, 1) := by decide +kernel
theorem twd_mo_groupOf_36 : decode prog_11_method_37_code 36 = .ok (.iaload, 1) := by decide +kernel
theorem twd_mo_groupOf_37 : decode prog_11_method_37_code 37 = .ok (.ireturn, 1) := by decide +kernel
theorem twk_mo_groupOf : tw_dc twy_mo_groupOf 1 := ⟨by decide +kernel, by decide +kernel, by decide +kernel⟩
theorem twd_mo_mayBreak_0 : decode prog_11_method_38_code 0 = .ok (.iload_n 1, 1) := by decide +kernel
theorem twd_mo_mayBreak_1 : decode prog_11_method_38_code 1 = .ok (.iconst 1, 1) := by decide +kernel
theorem twd_mo_mayBreak_2 : decode prog_11_method_38_code 2 = .ok (.if_icmp .lt 22, 3) := by decide +kernel
theorem twd_mo_mayBreak_5 : decode prog_11_method_38_code 5 = .ok (.iload_n 1, 1) := by decide +kernel
theorem twd_mo_mayBreak_6 : decode prog_11_method_38_code 6 = .ok (.aload_n 0, 1) := by decide +kernel
theorem twd_mo_mayBreak_7 : decode prog_11_method_38_code 7 = .ok (.getfield 69, 3) := by decide +kernel
theorem twd_mo_mayBreak_10 : decode prog_11_method_38_code 10 = .ok (.if_icmp .ge 14, 3) := by decide +kernel
theorem twd_mo_mayBreak_13 : decode prog_11_method_38_code 13 = .ok (.aload_n 0, 1) := by decide +kernel
theorem twd_mo_mayBreak_14 : decode prog_11_method_38_code 14 = .ok (.getfield 16, 3) := by decide +kernel
theorem twd_mo_mayBreak_17 : decode prog_11_method_38_code 17 = .ok (.iload_n 1, 1) := by decide +kernel
theorem twd_mo_mayBreak_18 : decode prog_11_method_38_code 18 = .ok (.iaload, 1) := by decide +kernel
theorem twd_mo_mayBreak_19 : decode prog_11_method_38_code 19 = .ok (.bipush 8, 2) := by decide +kernel
theorem twd_mo_mayBreak_21 : decode prog_11_method_38_code 21 = .ok (.if_icmp .ne 5, 3) := by decide +kernel
theorem twd_mo_mayBreak_24 : decode prog_11_method_38_code 24 = .ok (.iconst 0, 1) := by decide +kernel
theorem twd_mo_mayBreak_25 : decode prog_11_method_38_code 25 = .ok (.ireturn, 1) := by decide +kernel
theorem twd_mo_mayBreak_26 : decode prog_11_method_38_code 26 = .ok (.aload_n 0, 1) := by decide +kernel
theorem twd_mo_mayBreak_27 : decode prog_11_method_38_code 27 = .ok (.iload_n 1, 1) := by decide +kernel
theorem twd_mo_mayBreak_28 : decode prog_11_method_38_code 28 = .ok (.invokevirtual 188, 3) := by decide +kernel
theorem twd_mo_mayBreak_31 : decode prog_11_method_38_code 31 = .ok (.istore_n 2, 1) := by decide +kernel
theorem twd_mo_mayBreak_32 : decode prog_11_method_38_code 32 = .ok (.aload_n 0, 1) := by decide +kernel
theorem twd_mo_mayBreak_33 : decode prog_11_method_38_code 33 = .ok (.iload_n 1, 1) := by decide +kernel
theorem twd_mo_mayBreak_34 : decode prog_11_method_38_code 34 = .ok (.iconst 1, 1) := by decide +kernel
theorem twd_mo_mayBreak_35 : decode prog_11_method_38_code 35 = .ok (.isub, 1) := by decide +kernel
theorem twd_mo_mayBreak_36 : decode prog_11_method_38_code 36 = .ok (.invokevirtual 188, 3) := by decide +kernel
theorem twd_mo_mayBreak_39 : decode prog_11_method_38_code 39 = .ok (.istore_n 3, 1) := by decide +kernel
theorem twd_mo_mayBreak_40 : decode prog_11_method_38_code 40 = .ok (.iload_n 1, 1) := by decide +kernel
theorem twd_mo_mayBreak_41 : decode prog_11_method_38_code 41 = .ok (.iconst 1, 1) := by decide +kernel
theorem twd_mo_mayBreak_42 : decode prog_11_method_38_code 42 = .ok (.isub, 1) := by decide +kernel
theorem twd_mo_mayBreak_43 : decode prog_11_method_38_code 43 = .ok (.istore 4, 2) := by decide +kernel
theorem twd_mo_mayBreak_45 : decode prog_11_method_38_code 45 = .ok (.iload 4, 2) := by decide +kernel
theorem twd_mo_mayBreak_47 : decode prog_11_method_38_code 47 = .ok (.ifCond .lt 19, 3) := by decide +kernel
theorem twd_mo_mayBreak_50 : decode prog_11_method_38_code 50 = .ok (.aload_n 0, 1) := by decide +kernel
theorem twd_mo_mayBreak_51 : decode prog_11_method_38_code 51 = .ok (.iload 4, 2) := by decide +kernel
theorem twd_mo_mayBreak_53 : decode prog_11_method_38_code 53 = .ok (.invokevirtual 188, 3) := by decide +kernel
theorem twd_mo_mayBreak_56 : decode prog_11_method_38_code 56 = .ok (.iconst 1, 1) := by decide +kernel
theorem twd_mo_mayBreak_57 : decode prog_11_method_38_code 57 = .ok (.if_icmp .ne 9, 3) := by decide +kernel
theorem twd_mo_mayBreak_60 : decode prog_11_method_38_code 60 = .ok (.iinc 4 (-1), 3) := by decide +kernel
theorem twd_mo_mayBreak_63 : decode prog_11_method_38_code 63 = .ok (.goto (-18), 3) := by decide +kernel
theorem twd_mo_mayBreak_66 : decode prog_11_method_38_code 66 = .ok (.iload_n 2, 1) := by decide +kernel
theorem twd_mo_mayBreak_67 : decode prog_11_method_38_code 67 = .ok (.iconst 1, 1) := by decide +kernel
theorem twd_mo_mayBreak_68 : decode prog_11_method_38_code 68 = .ok (.if_icmp .eq 23, 3) := by decide +kernel
theorem twd_mo_mayBreak_71 : decode prog_11_method_38_code 71 = .ok (.iload_n 2, 1) := by decide +kernel
theorem twd_mo_mayBreak_72 : decode prog_11_method_38_code 72 = .ok (.iconst 3, 1) := by decide +kernel
theorem twd_mo_mayBreak_73 : decode prog_11_method_38_code 73 = .ok (.if_icmp .eq 18, 3) := by decide +kernel
theorem twd_mo_mayBreak_76 : decode prog_11_method_38_code 76 = .ok (.iload 4, 2) := by decide +kernel
theorem twd_mo_mayBreak_78 : decode prog_11_method_38_code 78 = .ok (.ifCond .lt 15, 3) := by decide +kernel
theorem twd_mo_mayBreak_81 : decode prog_11_method_38_code 81 = .ok (.aload_n 0, 1) := by decide +kernel
theorem twd_mo_mayBreak_82 : decode prog_11_method_38_code 82 = .ok (.iload 4, 2) := by decide +kernel
theorem twd_mo_mayBreak_84 : decode prog_11_method_38_code 84 = .ok (.invokevirtual 188, 3) := by decide +kernel
theorem twd_mo_mayBreak_87 : decode prog_11_method_38_code 87 = .ok (.iconst 2, 1) := by decide +kernel
theorem twd_mo_mayBreak_88 : decode prog_11_method_38_code 88 = .ok (.if_icmp .ne 5, 3) := by decide +kernel
theorem twd_mo_mayBreak_91 : decode prog_11_method_38_code 91 = .ok (.iconst 0, 1) := by decide +kernel
theorem twd_mo_mayBreak_92 : decode prog_11_method_38_code 92 = .ok (.ireturn, 1) := by decide +kernel
theorem twd_mo_mayBreak_93 : decode prog_11_method_38_code 93 = .ok (.iload_n 3, 1) := by decide +kernel
theorem twd_mo_mayBreak_94 : decode prog_11_method_38_code 94 = .ok (.iconst 1, 1) := by decide +kernel
theorem twd_mo_mayBreak_95 : decode prog_11_method_38_code 95 = .ok (.if_icmp .ne 5, 3) := by decide +kernel
theorem twd_mo_mayBreak_98 : decode prog_11_method_38_code 98 = .ok (.iconst 1, 1) := by decide +kernel
theorem twd_mo_mayBreak_99 : decode prog_11_method_38_code 99 = .ok (.ireturn, 1) := by decide +kernel
theorem twd_mo_mayBreak_100 : decode prog_11_method_38_code 100 = .ok (.iload_n 3, 1) := by decide +kernel
theorem twd_mo_mayBreak_101 : decode prog_11_method_38_code 101 = .ok (.iconst 4, 1) := by decide +kernel
theorem twd_mo_mayBreak_102 : decode prog_11_method_38_code 102 = .ok (.if_icmp .eq 34, 3) := by decide +kernel
theorem twd_mo_mayBreak_105 : decode prog_11_method_38_code 105 = .ok (.iload_n 2, 1) := by decide +kernel
theorem twd_mo_mayBreak_106 : decode prog_11_method_38_code 106 = .ok (.iconst 4, 1) := by decide +kernel
theorem twd_mo_mayBreak_107 : decode prog_11_method_38_code 107 = .ok (.if_icmp .eq 29, 3) := by decide +kernel
theorem twd_mo_mayBreak_110 : decode prog_11_method_38_code 110 = .ok (.iload_n 2, 1) := by decide +kernel
theorem twd_mo_mayBreak_111 : decode prog_11_method_38_code 111 = .ok (.bipush 6, 2) := by decide +kernel
theorem twd_mo_mayBreak_113 : decode prog_11_method_38_code 113 = .ok (.if_icmp .eq 23, 3) := by decide +kernel
theorem twd_mo_mayBreak_116 : decode prog_11_method_38_code 116 = .ok (.iload_n 3, 1) := by decide +kernel
theorem twd_mo_mayBreak_117 : decode prog_11_method_38_code 117 = .ok (.bipush 6, 2) := by decide +kernel
theorem twd_mo_mayBreak_119 : decode prog_11_method_38_code 119 = .ok (.if_icmp .eq 13, 3) := by decide +kernel
theorem twd_mo_mayBreak_122 : decode prog_11_method_38_code 122 = .ok (.iload_n 3, 1) := by decide +kernel
theorem twd_mo_mayBreak_123 : decode prog_11_method_38_code 123 = .ok (.iconst 5, 1) := by decide +kernel
theorem twd_mo_mayBreak_124 : decode prog_11_method_38_code 124 = .ok (.if_icmp .eq 8, 3) := by decide +kernel
theorem twd_mo_mayBreak_127 : decode prog_11_method_38_code 127 = .ok (.iload_n 2, 1) := by decide +kernel
theorem twd_mo_mayBreak_128 : decode prog_11_method_38_code 128 = .ok (.iconst 5, 1) := by decide +kernel
theorem twd_mo_mayBreak_129 : decode prog_11_method_38_code 129 = .ok (.if_icmp .ne 7, 3) := by decide +kernel
theorem twd_mo_mayBreak_132 : decode prog_11_method_38_code 132 = .ok (.iconst 1, 1) := by decide +kernel
theorem twd_mo_mayBreak_133 : decode prog_11_method_38_code 133 = .ok (.goto 4, 3) := by decide +kernel
theorem twd_mo_mayBreak_136 : decode prog_11_method_38_code 136 = .ok (.iconst 0, 1) := by decide +kernel
theorem twd_mo_mayBreak_137 : decode prog_11_method_38_code 137 = .ok (.ireturn, 1) := by decide +kernel
theorem twk_mo_mayBreak : tw_dc twy_mo_mayBreak 1 := ⟨by decide +kernel, by decide +kernel, by decide +kernel⟩
theorem twd_mo_extentOf_0 : decode prog_11_method_39_code 0 = .ok (.iload_n 2, 1) := by decide +kernel
theorem twd_mo_extentOf_1 : decode prog_11_method_39_code 1 = .ok (.istore_n 3, 1) := by decide +kernel
theorem twd_mo_extentOf_2 : decode prog_11_method_39_code 2 = .ok (.iload_n 3, 1) := by decide +kernel
theorem twd_mo_extentOf_3 : decode prog_11_method_39_code 3 = .ok (.iload_n 1, 1) := by decide +kernel
theorem twd_mo_extentOf_4 : decode prog_11_method_39_code 4 = .ok (.if_icmp .le 20, 3) := by decide +kernel
theorem twd_mo_extentOf_7 : decode prog_11_method_39_code 7 = .ok (.aload_n 0, 1) := by decide +kernel
theorem twd_mo_extentOf_8 : decode prog_11_method_39_code 8 = .ok (.iload_n 3, 1) := by decide +kernel
theorem twd_mo_extentOf_9 : decode prog_11_method_39_code 9 = .ok (.iconst 1, 1) := by decide +kernel
theorem twd_mo_extentOf_10 : decode prog_11_method_39_code 10 = .ok (.isub, 1) := by decide +kernel
theorem twd_mo_extentOf_11 : decode prog_11_method_39_code 11 = .ok (.invokevirtual 188, 3) := by decide +kernel
theorem twd_mo_extentOf_14 : decode prog_11_method_39_code 14 = .ok (.iconst 1, 1) := by decide +kernel
theorem twd_mo_extentOf_15 : decode prog_11_method_39_code 15 = .ok (.if_icmp .ne 9, 3) := by decide +kernel
theorem twd_mo_extentOf_18 : decode prog_11_method_39_code 18 = .ok (.iinc 3 (-1), 3) := by decide +kernel
theorem twd_mo_extentOf_21 : decode prog_11_method_39_code 21 = .ok (.goto (-19), 3) := by decide +kernel
theorem twd_mo_extentOf_24 : decode prog_11_method_39_code 24 = .ok (.iconst 0, 1) := by decide +kernel
theorem twd_mo_extentOf_25 : decode prog_11_method_39_code 25 = .ok (.istore 4, 2) := by decide +kernel
theorem twd_mo_extentOf_27 : decode prog_11_method_39_code 27 = .ok (.iload_n 1, 1) := by decide +kernel
theorem twd_mo_extentOf_28 : decode prog_11_method_39_code 28 = .ok (.istore 5, 2) := by decide +kernel
theorem twd_mo_extentOf_30 : decode prog_11_method_39_code 30 = .ok (.iload 5, 2) := by decide +kernel
theorem twd_mo_extentOf_32 : decode prog_11_method_39_code 32 = .ok (.iload_n 3, 1) := by decide +kernel
theorem twd_mo_extentOf_33 : decode prog_11_method_39_code 33 = .ok (.if_icmp .ge 21, 3) := by decide +kernel
theorem twd_mo_extentOf_36 : decode prog_11_method_39_code 36 = .ok (.iload 4, 2) := by decide +kernel
theorem twd_mo_extentOf_38 : decode prog_11_method_39_code 38 = .ok (.aload_n 0, 1) := by decide +kernel
theorem twd_mo_extentOf_39 : decode prog_11_method_39_code 39 = .ok (.getfield 23, 3) := by decide +kernel
theorem twd_mo_extentOf_42 : decode prog_11_method_39_code 42 = .ok (.iload 5, 2) := by decide +kernel
theorem twd_mo_extentOf_44 : decode prog_11_method_39_code 44 = .ok (.iaload, 1) := by decide +kernel
theorem twd_mo_extentOf_45 : decode prog_11_method_39_code 45 = .ok (.iadd, 1) := by decide +kernel
theorem twd_mo_extentOf_46 : decode prog_11_method_39_code 46 = .ok (.istore 4, 2) := by decide +kernel
theorem twd_mo_extentOf_48 : decode prog_11_method_39_code 48 = .ok (.iinc 5 1, 3) := by decide +kernel
theorem twd_mo_extentOf_51 : decode prog_11_method_39_code 51 = .ok (.goto (-21), 3) := by decide +kernel
theorem twd_mo_extentOf_54 : decode prog_11_method_39_code 54 = .ok (.iload 4, 2) := by decide +kernel
theorem twd_mo_extentOf_56 : decode prog_11_method_39_code 56 = .ok (.ireturn, 1) := by decide +kernel
theorem twk_mo_extentOf : tw_dc twy_mo_extentOf 2 := ⟨by decide +kernel, by decide +kernel, by decide +kernel⟩
theorem twd_mo_endOf_0 : decode prog_11_method_40_code 0 = .ok (.aload_n 0, 1) := by decide +kernel
theorem twd_mo_endOf_1 : decode prog_11_method_40_code 1 = .ok (.getfield 69, 3) := by decide +kernel
theorem twd_mo_endOf_4 : decode prog_11_method_40_code 4 = .ok (.istore_n 2, 1) := by decide +kernel
theorem twd_mo_endOf_5 : decode prog_11_method_40_code 5 = .ok (.iload_n 2, 1) := by decide +kernel
theorem twd_mo_endOf_6 : decode prog_11_method_40_code 6 = .ok (.iload_n 1, 1) := by decide +kernel
theorem twd_mo_endOf_7 : decode prog_11_method_40_code 7 = .ok (.if_icmp .le 40, 3) := by decide +kernel
theorem twd_mo_endOf_10 : decode prog_11_method_40_code 10 = .ok (.iload_n 2, 1) := by decide +kernel
theorem twd_mo_endOf_11 : decode prog_11_method_40_code 11 = .ok (.aload_n 0, 1) := by decide +kernel
theorem twd_mo_endOf_12 : decode prog_11_method_40_code 12 = .ok (.getfield 69, 3) := by decide +kernel
theorem twd_mo_endOf_15 : decode prog_11_method_40_code 15 = .ok (.if_icmp .eq 11, 3) := by decide +kernel
theorem twd_mo_endOf_18 : decode prog_11_method_40_code 18 = .ok (.aload_n 0, 1) := by decide +kernel
theorem twd_mo_endOf_19 : decode prog_11_method_40_code 19 = .ok (.iload_n 2, 1) := by decide +kernel
theorem twd_mo_endOf_20 : decode prog_11_method_40_code 20 = .ok (.invokevirtual 191, 3) := by decide +kernel
theorem twd_mo_endOf_23 : decode prog_11_method_40_code 23 = .ok (.ifCond .eq 18, 3) := by decide +kernel
theorem twd_mo_endOf_26 : decode prog_11_method_40_code 26 = .ok (.aload_n 0, 1) := by decide +kernel
theorem twd_mo_endOf_27 : decode prog_11_method_40_code 27 = .ok (.iload_n 1, 1) := by decide +kernel
theorem twd_mo_endOf_28 : decode prog_11_method_40_code 28 = .ok (.iload_n 2, 1) := by decide +kernel
theorem twd_mo_endOf_29 : decode prog_11_method_40_code 29 = .ok (.invokevirtual 194, 3) := by decide +kernel
theorem twd_mo_endOf_32 : decode prog_11_method_40_code 32 = .ok (.aload_n 0, 1) := by decide +kernel
theorem twd_mo_endOf_33 : decode prog_11_method_40_code 33 = .ok (.getfield 13, 3) := by decide +kernel
theorem twd_mo_endOf_36 : decode prog_11_method_40_code 36 = .ok (.if_icmp .gt 5, 3) := by decide +kernel
theorem twd_mo_endOf_39 : decode prog_11_method_40_code 39 = .ok (.iload_n 2, 1) := by decide +kernel
theorem twd_mo_endOf_40 : decode prog_11_method_40_code 40 = .ok (.ireturn, 1) := by decide +kernel
theorem twd_mo_endOf_41 : decode prog_11_method_40_code 41 = .ok (.iinc 2 (-1), 3) := by decide +kernel
theorem twd_mo_endOf_44 : decode prog_11_method_40_code 44 = .ok (.goto (-39), 3) := by decide +kernel
theorem twd_mo_endOf_47 : decode prog_11_method_40_code 47 = .ok (.aload_n 0, 1) := by decide +kernel
theorem twd_mo_endOf_48 : decode prog_11_method_40_code 48 = .ok (.getfield 69, 3) := by decide +kernel
theorem twd_mo_endOf_51 : decode prog_11_method_40_code 51 = .ok (.istore_n 2, 1) := by decide +kernel
theorem twd_mo_endOf_52 : decode prog_11_method_40_code 52 = .ok (.aload_n 0, 1) := by decide +kernel
theorem twd_mo_endOf_53 : decode prog_11_method_40_code 53 = .ok (.getfield 69, 3) := by decide +kernel
theorem twd_mo_endOf_56 : decode prog_11_method_40_code 56 = .ok (.istore_n 3, 1) := by decide +kernel
theorem twd_mo_endOf_57 : decode prog_11_method_40_code 57 = .ok (.iload_n 3, 1) := by decide +kernel
theorem twd_mo_endOf_58 : decode prog_11_method_40_code 58 = .ok (.iload_n 1, 1) := by decide +kernel
theorem twd_mo_endOf_59 : decode prog_11_method_40_code 59 = .ok (.if_icmp .le 45, 3) := by decide +kernel
theorem twd_mo_endOf_62 : decode prog_11_method_40_code 62 = .ok (.iload_n 3, 1) := by decide +kernel
theorem twd_mo_endOf_63 : decode prog_11_method_40_code 63 = .ok (.aload_n 0, 1) := by decide +kernel
theorem twd_mo_endOf_64 : decode prog_11_method_40_code 64 = .ok (.getfield 69, 3) := by decide +kernel
theorem twd_mo_endOf_67 : decode prog_11_method_40_code 67 = .ok (.if_icmp .eq 14, 3) := by decide +kernel
theorem twd_mo_endOf_70 : decode prog_11_method_40_code 70 = .ok (.aload_n 0, 1) := by decide +kernel
theorem twd_mo_endOf_71 : decode prog_11_method_40_code 71 = .ok (.getfield 16, 3) := by decide +kernel
theorem twd_mo_endOf_74 : decode prog_11_method_40_code 74 = .ok (.iload_n 3, 1) := by decide +kernel
theorem twd_mo_endOf_75 : decode prog_11_method_40_code 75 = .ok (.iaload, 1) := by decide +kernel
theorem twd_mo_endOf_76 : decode prog_11_method_40_code 76 = .ok (.bipush 8, 2) := by decide +kernel
theorem twd_mo_endOf_78 : decode prog_11_method_40_code 78 = .ok (.if_icmp .eq 20, 3) := by decide +kernel
theorem twd_mo_endOf_81 : decode prog_11_method_40_code 81 = .ok (.aload_n 0, 1) := by decide +kernel
theorem twd_mo_endOf_82 : decode prog_11_method_40_code 82 = .ok (.iload_n 1, 1) := by decide +kernel
theorem twd_mo_endOf_83 : decode prog_11_method_40_code 83 = .ok (.iload_n 3, 1) := by decide +kernel
theorem twd_mo_endOf_84 : decode prog_11_method_40_code 84 = .ok (.invokevirtual 194, 3) := by decide +kernel
theorem twd_mo_endOf_87 : decode prog_11_method_40_code 87 = .ok (.aload_n 0, 1) := by decide +kernel
theorem twd_mo_endOf_88 : decode prog_11_method_40_code 88 = .ok (.getfield 13, 3) := by decide +kernel
theorem twd_mo_endOf_91 : decode prog_11_method_40_code 91 = .ok (.if_icmp .gt 5, 3) := by decide +kernel
theorem twd_mo_endOf_94 : decode prog_11_method_40_code 94 = .ok (.iload_n 3, 1) := by decide +kernel
theorem twd_mo_endOf_95 : decode prog_11_method_40_code 95 = .ok (.ireturn, 1) := by decide +kernel
theorem twd_mo_endOf_96 : decode prog_11_method_40_code 96 = .ok (.iload_n 3, 1) := by decide +kernel
theorem twd_mo_endOf_97 : decode prog_11_method_40_code 97 = .ok (.istore_n 2, 1) := by decide +kernel
theorem twd_mo_endOf_98 : decode prog_11_method_40_code 98 = .ok (.iinc 3 (-1), 3) := by decide +kernel
theorem twd_mo_endOf_101 : decode prog_11_method_40_code 101 = .ok (.goto (-44), 3) := by decide +kernel
theorem twd_mo_endOf_104 : decode prog_11_method_40_code 104 = .ok (.iload_n 2, 1) := by decide +kernel
theorem twd_mo_endOf_105 : decode prog_11_method_40_code 105 = .ok (.ireturn, 1) := by decide +kernel
theorem twk_mo_endOf : tw_dc twy_mo_endOf 1 := ⟨by decide +kernel, by decide +kernel, by decide +kernel⟩
theorem twd_mo_turn_0 : decode prog_11_method_42_code 0 = .ok (.iload_n 1, 1) := by decide +kernel
theorem twd_mo_turn_1 : decode prog_11_method_42_code 1 = .ok (.istore_n 3, 1) := by decide +kernel
theorem twd_mo_turn_2 : decode prog_11_method_42_code 2 = .ok (.iload_n 2, 1) := by decide +kernel
theorem twd_mo_turn_3 : decode prog_11_method_42_code 3 = .ok (.istore 4, 2) := by decide +kernel
theorem twd_mo_turn_5 : decode prog_11_method_42_code 5 = .ok (.iload_n 3, 1) := by decide +kernel
theorem twd_mo_turn_6 : decode prog_11_method_42_code 6 = .ok (.iload 4, 2) := by decide +kernel
theorem twd_mo_turn_8 : decode prog_11_method_42_code 8 = .ok (.if_icmp .ge 42, 3) := by decide +kernel
theorem twd_mo_turn_11 : decode prog_11_method_42_code 11 = .ok (.aload_n 0, 1) := by decide +kernel
theorem twd_mo_turn_12 : decode prog_11_method_42_code 12 = .ok (.getfield 66, 3) := by decide +kernel
theorem twd_mo_turn_15 : decode prog_11_method_42_code 15 = .ok (.iload_n 3, 1) := by decide +kernel
theorem twd_mo_turn_16 : decode prog_11_method_42_code 16 = .ok (.iaload, 1) := by decide +kernel
theorem twd_mo_turn_17 : decode prog_11_method_42_code 17 = .ok (.istore 5, 2) := by decide +kernel
theorem twd_mo_turn_19 : decode prog_11_method_42_code 19 = .ok (.aload_n 0, 1) := by decide +kernel
theorem twd_mo_turn_20 : decode prog_11_method_42_code 20 = .ok (.getfield 66, 3) := by decide +kernel
theorem twd_mo_turn_23 : decode prog_11_method_42_code 23 = .ok (.iload_n 3, 1) := by decide +kernel
theorem twd_mo_turn_24 : decode prog_11_method_42_code 24 = .ok (.aload_n 0, 1) := by decide +kernel
theorem twd_mo_turn_25 : decode prog_11_method_42_code 25 = .ok (.getfield 66, 3) := by decide +kernel
theorem twd_mo_turn_28 : decode prog_11_method_42_code 28 = .ok (.iload 4, 2) := by decide +kernel
theorem twd_mo_turn_30 : decode prog_11_method_42_code 30 = .ok (.iaload, 1) := by decide +kernel
theorem twd_mo_turn_31 : decode prog_11_method_42_code 31 = .ok (.iastore, 1) := by decide +kernel
theorem twd_mo_turn_32 : decode prog_11_method_42_code 32 = .ok (.aload_n 0, 1) := by decide +kernel
theorem twd_mo_turn_33 : decode prog_11_method_42_code 33 = .ok (.getfield 66, 3) := by decide +kernel
theorem twd_mo_turn_36 : decode prog_11_method_42_code 36 = .ok (.iload 4, 2) := by decide +kernel
theorem twd_mo_turn_38 : decode prog_11_method_42_code 38 = .ok (.iload 5, 2) := by decide +kernel
theorem twd_mo_turn_40 : decode prog_11_method_42_code 40 = .ok (.iastore, 1) := by decide +kernel
theorem twd_mo_turn_41 : decode prog_11_method_42_code 41 = .ok (.iinc 3 1, 3) := by decide +kernel
theorem twd_mo_turn_44 : decode prog_11_method_42_code 44 = .ok (.iinc 4 (-1), 3) := by decide +kernel
theorem twd_mo_turn_47 : decode prog_11_method_42_code 47 = .ok (.goto (-42), 3) := by decide +kernel
theorem twd_mo_turn_50 : decode prog_11_method_42_code 50 = .ok (.return_, 1) := by decide +kernel
theorem twk_mo_turn : tw_dc twy_mo_turn 2 := ⟨by decide +kernel, by decide +kernel, by decide +kernel⟩
theorem twd_mo_showLine_0 : decode prog_11_method_43_code 0 = .ok (.iconst 1, 1) := by decide +kernel
theorem twd_mo_showLine_1 : decode prog_11_method_43_code 1 = .ok (.istore_n 3, 1) := by decide +kernel
theorem twd_mo_showLine_2 : decode prog_11_method_43_code 2 = .ok (.iload_n 2, 1) := by decide +kernel
theorem twd_mo_showLine_3 : decode prog_11_method_43_code 3 = .ok (.iconst 1, 1) := by decide +kernel
theorem twd_mo_showLine_4 : decode prog_11_method_43_code 4 = .ok (.isub, 1) := by decide +kernel
theorem twd_mo_showLine_5 : decode prog_11_method_43_code 5 = .ok (.istore 4, 2) := by decide +kernel
theorem twd_mo_showLine_7 : decode prog_11_method_43_code 7 = .ok (.iload 4, 2) := by decide +kernel
theorem twd_mo_showLine_9 : decode prog_11_method_43_code 9 = .ok (.iload_n 1, 1) := by decide +kernel
theorem twd_mo_showLine_10 : decode prog_11_method_43_code 10 = .ok (.if_icmp .lt 101, 3) := by decide +kernel
theorem twd_mo_showLine_13 : decode prog_11_method_43_code 13 = .ok (.aload_n 0, 1) := by decide +kernel
theorem twd_mo_showLine_14 : decode prog_11_method_43_code 14 = .ok (.getfield 16, 3) := by decide +kernel
theorem twd_mo_showLine_17 : decode prog_11_method_43_code 17 = .ok (.iload 4, 2) := by decide +kernel
theorem twd_mo_showLine_19 : decode prog_11_method_43_code 19 = .ok (.iaload, 1) := by decide +kernel
theorem twd_mo_showLine_20 : decode prog_11_method_43_code 20 = .ok (.bipush 9, 2) := by decide +kernel
theorem twd_mo_showLine_22 : decode prog_11_method_43_code 22 = .ok (.if_icmp .eq 15, 3) := by decide +kernel
theorem twd_mo_showLine_25 : decode prog_11_method_43_code 25 = .ok (.aload_n 0, 1) := by decide +kernel
theorem twd_mo_showLine_26 : decode prog_11_method_43_code 26 = .ok (.getfield 16, 3) := by decide +kernel
theorem twd_mo_showLine_29 : decode prog_11_method_43_code 29 = .ok (.iload 4, 2) := by decide +kernel
theorem twd_mo_showLine_31 : decode prog_11_method_43_code 31 = .ok (.iaload, 1) := by decide +kernel
theorem twd_mo_showLine_32 : decode prog_11_method_43_code 32 = .ok (.bipush 12, 2) := by decide +kernel
theorem twd_mo_showLine_34 : decode prog_11_method_43_code 34 = .ok (.if_icmp .lt 7, 3) := by decide +kernel
theorem twd_mo_showLine_37 : decode prog_11_method_43_code 37 = .ok (.iconst 1, 1) := by decide +kernel
theorem twd_mo_showLine_38 : decode prog_11_method_43_code 38 = .ok (.goto 4, 3) := by decide +kernel
theorem twd_mo_showLine_41 : decode prog_11_method_43_code 41 = .ok (.iconst 0, 1) := by decide +kernel
theorem twd_mo_showLine_42 : decode prog_11_method_43_code 42 = .ok (.istore 5, 2) := by decide +kernel
theorem twd_mo_showLine_44 : decode prog_11_method_43_code 44 = .ok (.aload_n 0, 1) := by decide +kernel
theorem twd_mo_showLine_45 : decode prog_11_method_43_code 45 = .ok (.getfield 16, 3) := by decide +kernel
theorem twd_mo_showLine_48 : decode prog_11_method_43_code 48 = .ok (.iload 4, 2) := by decide +kernel
theorem twd_mo_showLine_50 : decode prog_11_method_43_code 50 = .ok (.iaload, 1) := by decide +kernel
theorem twd_mo_showLine_51 : decode prog_11_method_43_code 51 = .ok (.bipush 10, 2) := by decide +kernel
theorem twd_mo_showLine_53 : decode prog_11_method_43_code 53 = .ok (.if_icmp .eq 12, 3) := by decide +kernel
theorem twd_mo_showLine_56 : decode prog_11_method_43_code 56 = .ok (.iload_n 3, 1) := by decide +kernel
theorem twd_mo_showLine_57 : decode prog_11_method_43_code 57 = .ok (.ifCond .eq 12, 3) := by decide +kernel
theorem twd_mo_showLine_60 : decode prog_11_method_43_code 60 = .ok (.iload 5, 2) := by decide +kernel
theorem twd_mo_showLine_62 : decode prog_11_method_43_code 62 = .ok (.ifCond .eq 7, 3) := by decide +kernel
theorem twd_mo_showLine_65 : decode prog_11_method_43_code 65 = .ok (.iconst 1, 1) := by decide +kernel
theorem twd_mo_showLine_66 : decode prog_11_method_43_code 66 = .ok (.goto 4, 3) := by decide +kernel
theorem twd_mo_showLine_69 : decode prog_11_method_43_code 69 = .ok (.iconst 0, 1) := by decide +kernel
theorem twd_mo_showLine_70 : decode prog_11_method_43_code 70 = .ok (.istore_n 3, 1) := by decide +kernel
theorem twd_mo_showLine_71 : decode prog_11_method_43_code 71 = .ok (.aload_n 0, 1) := by decide +kernel
theorem twd_mo_showLine_72 : decode prog_11_method_43_code 72 = .ok (.getfield 63, 3) := by decide +kernel
theorem twd_mo_showLine_75 : decode prog_11_method_43_code 75 = .ok (.iload 4, 2) := by decide +kernel
theorem twd_mo_showLine_77 : decode prog_11_method_43_code 77 = .ok (.iload_n 3, 1) := by decide +kernel
theorem twd_mo_showLine_78 : decode prog_11_method_43_code 78 = .ok (.ifCond .eq 10, 3) := by decide +kernel
theorem twd_mo_showLine_81 : decode prog_11_method_43_code 81 = .ok (.aload_n 0, 1) := by decide +kernel
theorem twd_mo_showLine_82 : decode prog_11_method_43_code 82 = .ok (.getfield 115, 3) := by decide +kernel
theorem twd_mo_showLine_85 : decode prog_11_method_43_code 85 = .ok (.goto 10, 3) := by decide +kernel
theorem twd_mo_showLine_88 : decode prog_11_method_43_code 88 = .ok (.aload_n 0, 1) := by decide +kernel
theorem twd_mo_showLine_89 : decode prog_11_method_43_code 89 = .ok (.getfield 35, 3) := by decide +kernel
theorem twd_mo_showLine_92 : decode prog_11_method_43_code 92 = .ok (.iload 4, 2) := by decide +kernel
theorem twd_mo_showLine_94 : decode prog_11_method_43_code 94 = .ok (.iaload, 1) := by decide +kernel
theorem twd_mo_showLine_95 : decode prog_11_method_43_code 95 = .ok (.iastore, 1) := by decide +kernel
theorem twd_mo_showLine_96 : decode prog_11_method_43_code 96 = .ok (.aload_n 0, 1) := by decide +kernel
theorem twd_mo_showLine_97 : decode prog_11_method_43_code 97 = .ok (.getfield 66, 3) := by decide +kernel
theorem twd_mo_showLine_100 : decode prog_11_method_43_code 100 = .ok (.iload 4, 2) := by decide +kernel
theorem twd_mo_showLine_102 : decode prog_11_method_43_code 102 = .ok (.iload 4, 2) := by decide +kernel
theorem twd_mo_showLine_104 : decode prog_11_method_43_code 104 = .ok (.iastore, 1) := by decide +kernel
theorem twd_mo_showLine_105 : decode prog_11_method_43_code 105 = .ok (.iinc 4 (-1), 3) := by decide +kernel
theorem twd_mo_showLine_108 : decode prog_11_method_43_code 108 = .ok (.goto (-101), 3) := by decide +kernel
theorem twd_mo_showLine_111 : decode prog_11_method_43_code 111 = .ok (.bipush 8, 2) := by decide +kernel
theorem twd_mo_showLine_113 : decode prog_11_method_43_code 113 = .ok (.istore 4, 2) := by decide +kernel
theorem twd_mo_showLine_115 : decode prog_11_method_43_code 115 = .ok (.iload 4, 2) := by decide +kernel
theorem twd_mo_showLine_117 : decode prog_11_method_43_code 117 = .ok (.iconst 1, 1) := by decide +kernel
theorem twd_mo_showLine_118 : decode prog_11_method_43_code 118 = .ok (.if_icmp .lt 82, 3) := by decide +kernel
theorem twd_mo_showLine_121 : decode prog_11_method_43_code 121 = .ok (.iload_n 1, 1) := by decide +kernel
theorem twd_mo_showLine_122 : decode prog_11_method_43_code 122 = .ok (.istore 5, 2) := by decide +kernel
theorem twd_mo_showLine_124 : decode prog_11_method_43_code 124 = .ok (.iload 5, 2) := by decide +kernel
theorem twd_mo_showLine_126 : decode prog_11_method_43_code 126 = .ok (.iload_n 2, 1) := by decide +kernel
theorem twd_mo_showLine_127 : decode prog_11_method_43_code 127 = .ok (.if_icmp .ge 67, 3) := by decide +kernel
theorem twd_mo_showLine_130 : decode prog_11_method_43_code 130 = .ok (.iload 5, 2) := by decide +kernel
theorem twd_mo_showLine_132 : decode prog_11_method_43_code 132 = .ok (.istore 6, 2) := by decide +kernel
theorem twd_mo_showLine_134 : decode prog_11_method_43_code 134 = .ok (.iload 6, 2) := by decide +kernel
theorem twd_mo_showLine_136 : decode prog_11_method_43_code 136 = .ok (.iload_n 2, 1) := by decide +kernel
theorem twd_mo_showLine_137 : decode prog_11_method_43_code 137 = .ok (.if_icmp .ge 26, 3) := by decide +kernel
theorem twd_mo_showLine_140 : decode prog_11_method_43_code 140 = .ok (.aload_n 0, 1) := by decide +kernel
theorem twd_mo_showLine_141 : decode prog_11_method_43_code 141 = .ok (.getfield 63, 3) := by decide +kernel
theorem twd_mo_showLine_144 : decode prog_11_method_43_code 144 = .ok (.aload_n 0, 1) := by decide +kernel
theorem twd_mo_showLine_145 : decode prog_11_method_43_code 145 = .ok (.getfield 66, 3) := by decide +kernel
theorem twd_mo_showLine_148 : decode prog_11_method_43_code 148 = .ok (.iload 6, 2) := by decide +kernel
theorem twd_mo_showLine_150 : decode prog_11_method_43_code 150 = .ok (.iaload, 1) := by decide +kernel
theorem twd_mo_showLine_151 : decode prog_11_method_43_code 151 = .ok (.iaload, 1) := by decide +kernel
theorem twd_mo_showLine_152 : decode prog_11_method_43_code 152 = .ok (.iload 4, 2) := by decide +kernel
theorem twd_mo_showLine_154 : decode prog_11_method_43_code 154 = .ok (.if_icmp .lt 9, 3) := by decide +kernel
theorem twd_mo_showLine_157 : decode prog_11_method_43_code 157 = .ok (.iinc 6 1, 3) := by decide +kernel
theorem twd_mo_showLine_160 : decode prog_11_method_43_code 160 = .ok (.goto (-26), 3) := by decide +kernel
theorem twd_mo_showLine_163 : decode prog_11_method_43_code 163 = .ok (.aload_n 0, 1) := by decide +kernel
theorem twd_mo_showLine_164 : decode prog_11_method_43_code 164 = .ok (.iload 5, 2) := by decide +kernel
theorem twd_mo_showLine_166 : decode prog_11_method_43_code 166 = .ok (.iload 6, 2) := by decide +kernel
theorem twd_mo_showLine_168 : decode prog_11_method_43_code 168 = .ok (.iconst 1, 1) := by decide +kernel
theorem twd_mo_showLine_169 : decode prog_11_method_43_code 169 = .ok (.isub, 1) := by decide +kernel
theorem twd_mo_showLine_170 : decode prog_11_method_43_code 170 = .ok (.invokevirtual 206, 3) := by decide +kernel
theorem twd_mo_showLine_173 : decode prog_11_method_43_code 173 = .ok (.iload 6, 2) := by decide +kernel
theorem twd_mo_showLine_175 : decode prog_11_method_43_code 175 = .ok (.iload 5, 2) := by decide +kernel
theorem twd_mo_showLine_177 : decode prog_11_method_43_code 177 = .ok (.if_icmp .le 8, 3) := by decide +kernel
theorem twd_mo_showLine_180 : decode prog_11_method_43_code 180 = .ok (.iload 6, 2) := by decide +kernel
theorem twd_mo_showLine_182 : decode prog_11_method_43_code 182 = .ok (.goto 7, 3) := by decide +kernel
theorem twd_mo_showLine_185 : decode prog_11_method_43_code 185 = .ok (.iload 5, 2) := by decide +kernel
theorem twd_mo_showLine_187 : decode prog_11_method_43_code 187 = .ok (.iconst 1, 1) := by decide +kernel
theorem twd_mo_showLine_188 : decode prog_11_method_43_code 188 = .ok (.iadd, 1) := by decide +kernel
theorem twd_mo_showLine_189 : decode prog_11_method_43_code 189 = .ok (.istore 5, 2) := by decide +kernel
theorem twd_mo_showLine_191 : decode prog_11_method_43_code 191 = .ok (.goto (-67), 3) := by decide +kernel
theorem twd_mo_showLine_194 : decode prog_11_method_43_code 194 = .ok (.iinc 4 (-1), 3) := by decide +kernel
theorem twd_mo_showLine_197 : decode prog_11_method_43_code 197 = .ok (.goto (-82), 3) := by decide +kernel
theorem twd_mo_showLine_200 : decode prog_11_method_43_code 200 = .ok (.return_, 1) := by decide +kernel
theorem twk_mo_showLine : tw_dc twy_mo_showLine 2 := ⟨by decide +kernel, by decide +kernel, by decide +kernel⟩
theorem twd_mo_fill_0 : decode prog_11_method_41_code 0 = .ok (.aload_n 0, 1) := by decide +kernel
theorem twd_mo_fill_1 : decode prog_11_method_41_code 1 = .ok (.iconst 0, 1) := by decide +kernel
theorem twd_mo_fill_2 : decode prog_11_method_41_code 2 = .ok (.putfield 197, 3) := by decide +kernel
theorem twd_mo_fill_5 : decode prog_11_method_41_code 5 = .ok (.iconst 0, 1) := by decide +kernel
theorem twd_mo_fill_6 : decode prog_11_method_41_code 6 = .ok (.istore_n 1, 1) := by decide +kernel
theorem twd_mo_fill_7 : decode prog_11_method_41_code 7 = .ok (.aload_n 0, 1) := by decide +kernel
theorem twd_mo_fill_8 : decode prog_11_method_41_code 8 = .ok (.getfield 60, 3) := by decide +kernel
theorem twd_mo_fill_11 : decode prog_11_method_41_code 11 = .ok (.iconst 0, 1) := by decide +kernel
theorem twd_mo_fill_12 : decode prog_11_method_41_code 12 = .ok (.iconst 0, 1) := by decide +kernel
theorem twd_mo_fill_13 : decode prog_11_method_41_code 13 = .ok (.iastore, 1) := by decide +kernel
theorem twd_mo_fill_14 : decode prog_11_method_41_code 14 = .ok (.iload_n 1, 1) := by decide +kernel
theorem twd_mo_fill_15 : decode prog_11_method_41_code 15 = .ok (.aload_n 0, 1) := by decide +kernel
theorem twd_mo_fill_16 : decode prog_11_method_41_code 16 = .ok (.getfield 69, 3) := by decide +kernel
theorem twd_mo_fill_19 : decode prog_11_method_41_code 19 = .ok (.if_icmp .ge 32, 3) := by decide +kernel
theorem twd_mo_fill_22 : decode prog_11_method_41_code 22 = .ok (.aload_n 0, 1) := by decide +kernel
theorem twd_mo_fill_23 : decode prog_11_method_41_code 23 = .ok (.iload_n 1, 1) := by decide +kernel
theorem twd_mo_fill_24 : decode prog_11_method_41_code 24 = .ok (.invokevirtual 200, 3) := by decide +kernel
theorem twd_mo_fill_27 : decode prog_11_method_41_code 27 = .ok (.istore_n 1, 1) := by decide +kernel
theorem twd_mo_fill_28 : decode prog_11_method_41_code 28 = .ok (.aload_n 0, 1) := by decide +kernel
theorem twd_mo_fill_29 : decode prog_11_method_41_code 29 = .ok (.dup, 1) := by decide +kernel
theorem twd_mo_fill_30 : decode prog_11_method_41_code 30 = .ok (.getfield 197, 3) := by decide +kernel
theorem twd_mo_fill_33 : decode prog_11_method_41_code 33 = .ok (.iconst 1, 1) := by decide +kernel
theorem twd_mo_fill_34 : decode prog_11_method_41_code 34 = .ok (.iadd, 1) := by decide +kernel
theorem twd_mo_fill_35 : decode prog_11_method_41_code 35 = .ok (.putfield 197, 3) := by decide +kernel
theorem twd_mo_fill_38 : decode prog_11_method_41_code 38 = .ok (.aload_n 0, 1) := by decide +kernel
theorem twd_mo_fill_39 : decode prog_11_method_41_code 39 = .ok (.getfield 60, 3) := by decide +kernel
theorem twd_mo_fill_42 : decode prog_11_method_41_code 42 = .ok (.aload_n 0, 1) := by decide +kernel
theorem twd_mo_fill_43 : decode prog_11_method_41_code 43 = .ok (.getfield 197, 3) := by decide +kernel
theorem twd_mo_fill_46 : decode prog_11_method_41_code 46 = .ok (.iload_n 1, 1) := by decide +kernel
theorem twd_mo_fill_47 : decode prog_11_method_41_code 47 = .ok (.iastore, 1) := by decide +kernel
theorem twd_mo_fill_48 : decode prog_11_method_41_code 48 = .ok (.goto (-34), 3) := by decide +kernel
theorem twd_mo_fill_51 : decode prog_11_method_41_code 51 = .ok (.iconst 0, 1) := by decide +kernel
theorem twd_mo_fill_52 : decode prog_11_method_41_code 52 = .ok (.istore_n 2, 1) := by decide +kernel
theorem twd_mo_fill_53 : decode prog_11_method_41_code 53 = .ok (.iload_n 2, 1) := by decide +kernel
theorem twd_mo_fill_54 : decode prog_11_method_41_code 54 = .ok (.aload_n 0, 1) := by decide +kernel
theorem twd_mo_fill_55 : decode prog_11_method_41_code 55 = .ok (.getfield 197, 3) := by decide +kernel
theorem twd_mo_fill_58 : decode prog_11_method_41_code 58 = .ok (.if_icmp .ge 27, 3) := by decide +kernel
theorem twd_mo_fill_61 : decode prog_11_method_41_code 61 = .ok (.aload_n 0, 1) := by decide +kernel
theorem twd_mo_fill_62 : decode prog_11_method_41_code 62 = .ok (.aload_n 0, 1) := by decide +kernel
theorem twd_mo_fill_63 : decode prog_11_method_41_code 63 = .ok (.getfield 60, 3) := by decide +kernel
theorem twd_mo_fill_66 : decode prog_11_method_41_code 66 = .ok (.iload_n 2, 1) := by decide +kernel
theorem twd_mo_fill_67 : decode prog_11_method_41_code 67 = .ok (.iaload, 1) := by decide +kernel
theorem twd_mo_fill_68 : decode prog_11_method_41_code 68 = .ok (.aload_n 0, 1) := by decide +kernel
theorem twd_mo_fill_69 : decode prog_11_method_41_code 69 = .ok (.getfield 60, 3) := by decide +kernel
theorem twd_mo_fill_72 : decode prog_11_method_41_code 72 = .ok (.iload_n 2, 1) := by decide +kernel
theorem twd_mo_fill_73 : decode prog_11_method_41_code 73 = .ok (.iconst 1, 1) := by decide +kernel
theorem twd_mo_fill_74 : decode prog_11_method_41_code 74 = .ok (.iadd, 1) := by decide +kernel
theorem twd_mo_fill_75 : decode prog_11_method_41_code 75 = .ok (.iaload, 1) := by decide +kernel
theorem twd_mo_fill_76 : decode prog_11_method_41_code 76 = .ok (.invokevirtual 203, 3) := by decide +kernel
theorem twd_mo_fill_79 : decode prog_11_method_41_code 79 = .ok (.iinc 2 1, 3) := by decide +kernel
theorem twd_mo_fill_82 : decode prog_11_method_41_code 82 = .ok (.goto (-29), 3) := by decide +kernel
theorem twd_mo_fill_85 : decode prog_11_method_41_code 85 = .ok (.return_, 1) := by decide +kernel
theorem twk_mo_fill : tw_dc twy_mo_fill 0 := ⟨by decide +kernel, by decide +kernel, by decide +kernel⟩
theorem twd_mo_work_0 : decode prog_11_method_44_code 0 = .ok (.aload_n 0, 1) := by decide +kernel
theorem twd_mo_work_1 : decode prog_11_method_44_code 1 = .ok (.getfield 72, 3) := by decide +kernel
theorem twd_mo_work_4 : decode prog_11_method_44_code 4 = .ok (.ifCond .ne 24, 3) := by decide +kernel
theorem twd_mo_work_7 : decode prog_11_method_44_code 7 = .ok (.aload_n 0, 1) := by decide +kernel
theorem twd_mo_work_8 : decode prog_11_method_44_code 8 = .ok (.iconst 1, 1) := by decide +kernel
theorem twd_mo_work_9 : decode prog_11_method_44_code 9 = .ok (.putfield 72, 3) := by decide +kernel
theorem twd_mo_work_12 : decode prog_11_method_44_code 12 = .ok (.aload_n 0, 1) := by decide +kernel
theorem twd_mo_work_13 : decode prog_11_method_44_code 13 = .ok (.invokevirtual 209, 3) := by decide +kernel
theorem twd_mo_work_16 : decode prog_11_method_44_code 16 = .ok (.aload_n 0, 1) := by decide +kernel
theorem twd_mo_work_17 : decode prog_11_method_44_code 17 = .ok (.invokevirtual 212, 3) := by decide +kernel
theorem twd_mo_work_20 : decode prog_11_method_44_code 20 = .ok (.aload_n 0, 1) := by decide +kernel
theorem twd_mo_work_21 : decode prog_11_method_44_code 21 = .ok (.invokevirtual 215, 3) := by decide +kernel
theorem twd_mo_work_24 : decode prog_11_method_44_code 24 = .ok (.aload_n 0, 1) := by decide +kernel
theorem twd_mo_work_25 : decode prog_11_method_44_code 25 = .ok (.invokevirtual 218, 3) := by decide +kernel
theorem twd_mo_work_28 : decode prog_11_method_44_code 28 = .ok (.return_, 1) := by decide +kernel
theorem twk_mo_work : tw_dc twy_mo_work 0 := ⟨by decide +kernel, by decide +kernel, by decide +kernel⟩
theorem twd_mo_is_0 : decode prog_11_method_45_code 0 = .ok (.aload_n 0, 1) := by decide +kernel
theorem twd_mo_is_1 : decode prog_11_method_45_code 1 = .ok (.invokevirtual 221, 3) := by decide +kernel
theorem twd_mo_is_4 : decode prog_11_method_45_code 4 = .ok (.iload_n 1, 1) := by decide +kernel
theorem twd_mo_is_5 : decode prog_11_method_45_code 5 = .ok (.ifCond .lt 15, 3) := by decide +kernel
theorem twd_mo_is_8 : decode prog_11_method_45_code 8 = .ok (.iload_n 1, 1) := by decide +kernel
theorem twd_mo_is_9 : decode prog_11_method_45_code 9 = .ok (.aload_n 0, 1) := by decide +kernel
theorem twd_mo_is_10 : decode prog_11_method_45_code 10 = .ok (.getfield 69, 3) := by decide +kernel
theorem twd_mo_is_13 : decode prog_11_method_45_code 13 = .ok (.if_icmp .ge 7, 3) := by decide +kernel
theorem twd_mo_is_16 : decode prog_11_method_45_code 16 = .ok (.iconst 1, 1) := by decide +kernel
theorem twd_mo_is_17 : decode prog_11_method_45_code 17 = .ok (.goto 4, 3) := by decide +kernel
theorem twd_mo_is_20 : decode prog_11_method_45_code 20 = .ok (.iconst 0, 1) := by decide +kernel
theorem twd_mo_is_21 : decode prog_11_method_45_code 21 = .ok (.ireturn, 1) := by decide +kernel
theorem twk_mo_is : tw_dc twy_mo_is 1 := ⟨by decide +kernel, by decide +kernel, by decide +kernel⟩
theorem twd_mo_paragraphLevel_0 : decode prog_11_method_46_code 0 = .ok (.aload_n 0, 1) := by decide +kernel
theorem twd_mo_paragraphLevel_1 : decode prog_11_method_46_code 1 = .ok (.invokevirtual 221, 3) := by decide +kernel
theorem twd_mo_paragraphLevel_4 : decode prog_11_method_46_code 4 = .ok (.aload_n 0, 1) := by decide +kernel
theorem twd_mo_paragraphLevel_5 : decode prog_11_method_46_code 5 = .ok (.getfield 115, 3) := by decide +kernel
theorem twd_mo_paragraphLevel_8 : decode prog_11_method_46_code 8 = .ok (.ireturn, 1) := by decide +kernel
theorem twk_mo_paragraphLevel : tw_dc twy_mo_paragraphLevel 0 := ⟨by decide +kernel, by decide +kernel, by decide +kernel⟩
theorem twd_mo_partner_0 : decode prog_11_method_47_code 0 = .ok (.aload_n 0, 1) := by decide +kernel
theorem twd_mo_partner_1 : decode prog_11_method_47_code 1 = .ok (.iload_n 1, 1) := by decide +kernel
theorem twd_mo_partner_2 : decode prog_11_method_47_code 2 = .ok (.invokevirtual 224, 3) := by decide +kernel
theorem twd_mo_partner_5 : decode prog_11_method_47_code 5 = .ok (.ifCond .eq 12, 3) := by decide +kernel
theorem twd_mo_partner_8 : decode prog_11_method_47_code 8 = .ok (.aload_n 0, 1) := by decide +kernel
theorem twd_mo_partner_9 : decode prog_11_method_47_code 9 = .ok (.getfield 38, 3) := by decide +kernel
theorem twd_mo_partner_12 : decode prog_11_method_47_code 12 = .ok (.iload_n 1, 1) := by decide +kernel
theorem twd_mo_partner_13 : decode prog_11_method_47_code 13 = .ok (.iaload, 1) := by decide +kernel
theorem twd_mo_partner_14 : decode prog_11_method_47_code 14 = .ok (.goto 4, 3) := by decide +kernel
theorem twd_mo_partner_17 : decode prog_11_method_47_code 17 = .ok (.iconst (-1), 1) := by decide +kernel
theorem twd_mo_partner_18 : decode prog_11_method_47_code 18 = .ok (.ireturn, 1) := by decide +kernel
theorem twk_mo_partner : tw_dc twy_mo_partner 1 := ⟨by decide +kernel, by decide +kernel, by decide +kernel⟩
theorem twd_mo_type_0 : decode prog_11_method_48_code 0 = .ok (.aload_n 0, 1) := by decide +kernel
theorem twd_mo_type_1 : decode prog_11_method_48_code 1 = .ok (.iload_n 1, 1) := by decide +kernel
theorem twd_mo_type_2 : decode prog_11_method_48_code 2 = .ok (.invokevirtual 224, 3) := by decide +kernel
theorem twd_mo_type_5 : decode prog_11_method_48_code 5 = .ok (.ifCond .eq 12, 3) := by decide +kernel
theorem twd_mo_type_8 : decode prog_11_method_48_code 8 = .ok (.aload_n 0, 1) := by decide +kernel
theorem twd_mo_type_9 : decode prog_11_method_48_code 9 = .ok (.getfield 32, 3) := by decide +kernel
theorem twd_mo_type_12 : decode prog_11_method_48_code 12 = .ok (.iload_n 1, 1) := by decide +kernel
theorem twd_mo_type_13 : decode prog_11_method_48_code 13 = .ok (.iaload, 1) := by decide +kernel
theorem twd_mo_type_14 : decode prog_11_method_48_code 14 = .ok (.goto 4, 3) := by decide +kernel
theorem twd_mo_type_17 : decode prog_11_method_48_code 17 = .ok (.iconst (-1), 1) := by decide +kernel
theorem twd_mo_type_18 : decode prog_11_method_48_code 18 = .ok (.ireturn, 1) := by decide +kernel
theorem twk_mo_type : tw_dc twy_mo_type 1 := ⟨by decide +kernel, by decide +kernel, by decide +kernel⟩
theorem twd_mo_level_0 : decode prog_11_method_49_code 0 = .ok (.aload_n 0, 1) := by decide +kernel
theorem twd_mo_level_1 : decode prog_11_method_49_code 1 = .ok (.iload_n 1, 1) := by decide +kernel
theorem twd_mo_level_2 : decode prog_11_method_49_code 2 = .ok (.invokevirtual 224, 3) := by decide +kernel
theorem twd_mo_level_5 : decode prog_11_method_49_code 5 = .ok (.ifCond .eq 12, 3) := by decide +kernel
theorem twd_mo_level_8 : decode prog_11_method_49_code 8 = .ok (.aload_n 0, 1) := by decide +kernel
theorem twd_mo_level_9 : decode prog_11_method_49_code 9 = .ok (.getfield 35, 3) := by decide +kernel
theorem twd_mo_level_12 : decode prog_11_method_49_code 12 = .ok (.iload_n 1, 1) := by decide +kernel
theorem twd_mo_level_13 : decode prog_11_method_49_code 13 = .ok (.iaload, 1) := by decide +kernel
theorem twd_mo_level_14 : decode prog_11_method_49_code 14 = .ok (.goto 4, 3) := by decide +kernel
theorem twd_mo_level_17 : decode prog_11_method_49_code 17 = .ok (.iconst (-1), 1) := by decide +kernel
theorem twd_mo_level_18 : decode prog_11_method_49_code 18 = .ok (.ireturn, 1) := by decide +kernel
theorem twk_mo_level : tw_dc twy_mo_level 1 := ⟨by decide +kernel, by decide +kernel, by decide +kernel⟩
theorem twd_mo_lines_0 : decode prog_11_method_50_code 0 = .ok (.aload_n 0, 1) := by decide +kernel
theorem twd_mo_lines_1 : decode prog_11_method_50_code 1 = .ok (.invokevirtual 221, 3) := by decide +kernel
theorem twd_mo_lines_4 : decode prog_11_method_50_code 4 = .ok (.aload_n 0, 1) := by decide +kernel
theorem twd_mo_lines_5 : decode prog_11_method_50_code 5 = .ok (.getfield 197, 3) := by decide +kernel
theorem twd_mo_lines_8 : decode prog_11_method_50_code 8 = .ok (.ireturn, 1) := by decide +kernel
theorem twk_mo_lines : tw_dc twy_mo_lines 0 := ⟨by decide +kernel, by decide +kernel, by decide +kernel⟩
theorem twd_mo_start_0 : decode prog_11_method_51_code 0 = .ok (.aload_n 0, 1) := by decide +kernel
theorem twd_mo_start_1 : decode prog_11_method_51_code 1 = .ok (.invokevirtual 221, 3) := by decide +kernel
theorem twd_mo_start_4 : decode prog_11_method_51_code 4 = .ok (.iload_n 1, 1) := by decide +kernel
theorem twd_mo_start_5 : decode prog_11_method_51_code 5 = .ok (.ifCond .lt 11, 3) := by decide +kernel
theorem twd_mo_start_8 : decode prog_11_method_51_code 8 = .ok (.iload_n 1, 1) := by decide +kernel
theorem twd_mo_start_9 : decode prog_11_method_51_code 9 = .ok (.aload_n 0, 1) := by decide +kernel
theorem twd_mo_start_10 : decode prog_11_method_51_code 10 = .ok (.getfield 197, 3) := by decide +kernel
theorem twd_mo_start_13 : decode prog_11_method_51_code 13 = .ok (.if_icmp .le 7, 3) := by decide +kernel
theorem twd_mo_start_16 : decode prog_11_method_51_code 16 = .ok (.iconst (-1), 1) := by decide +kernel
theorem twd_mo_start_17 : decode prog_11_method_51_code 17 = .ok (.goto 9, 3) := by decide +kernel
theorem twd_mo_start_20 : decode prog_11_method_51_code 20 = .ok (.aload_n 0, 1) := by decide +kernel
theorem twd_mo_start_21 : decode prog_11_method_51_code 21 = .ok (.getfield 60, 3) := by decide +kernel
theorem twd_mo_start_24 : decode prog_11_method_51_code 24 = .ok (.iload_n 1, 1) := by decide +kernel
theorem twd_mo_start_25 : decode prog_11_method_51_code 25 = .ok (.iaload, 1) := by decide +kernel
theorem twd_mo_start_26 : decode prog_11_method_51_code 26 = .ok (.ireturn, 1) := by decide +kernel
theorem twk_mo_start : tw_dc twy_mo_start 1 := ⟨by decide +kernel, by decide +kernel, by decide +kernel⟩
theorem twd_mo_extent_0 : decode prog_11_method_52_code 0 = .ok (.aload_n 0, 1) := by decide +kernel
theorem twd_mo_extent_1 : decode prog_11_method_52_code 1 = .ok (.invokevirtual 221, 3) := by decide +kernel
theorem twd_mo_extent_4 : decode prog_11_method_52_code 4 = .ok (.iload_n 1, 1) := by decide +kernel
theorem twd_mo_extent_5 : decode prog_11_method_52_code 5 = .ok (.ifCond .lt 11, 3) := by decide +kernel
theorem twd_mo_extent_8 : decode prog_11_method_52_code 8 = .ok (.iload_n 1, 1) := by decide +kernel
theorem twd_mo_extent_9 : decode prog_11_method_52_code 9 = .ok (.aload_n 0, 1) := by decide +kernel
theorem twd_mo_extent_10 : decode prog_11_method_52_code 10 = .ok (.getfield 197, 3) := by decide +kernel
theorem twd_mo_extent_13 : decode prog_11_method_52_code 13 = .ok (.if_icmp .lt 7, 3) := by decide +kernel
theorem twd_mo_extent_16 : decode prog_11_method_52_code 16 = .ok (.iconst (-1), 1) := by decide +kernel
theorem twd_mo_extent_17 : decode prog_11_method_52_code 17 = .ok (.goto 21, 3) := by decide +kernel
theorem twd_mo_extent_20 : decode prog_11_method_52_code 20 = .ok (.aload_n 0, 1) := by decide +kernel
theorem twd_mo_extent_21 : decode prog_11_method_52_code 21 = .ok (.aload_n 0, 1) := by decide +kernel
theorem twd_mo_extent_22 : decode prog_11_method_52_code 22 = .ok (.getfield 60, 3) := by decide +kernel
theorem twd_mo_extent_25 : decode prog_11_method_52_code 25 = .ok (.iload_n 1, 1) := by decide +kernel
theorem twd_mo_extent_26 : decode prog_11_method_52_code 26 = .ok (.iaload, 1) := by decide +kernel
theorem twd_mo_extent_27 : decode prog_11_method_52_code 27 = .ok (.aload_n 0, 1) := by decide +kernel
theorem twd_mo_extent_28 : decode prog_11_method_52_code 28 = .ok (.getfield 60, 3) := by decide +kernel
theorem twd_mo_extent_31 : decode prog_11_method_52_code 31 = .ok (.iload_n 1, 1) := by decide +kernel
theorem twd_mo_extent_32 : decode prog_11_method_52_code 32 = .ok (.iconst 1, 1) := by decide +kernel
theorem twd_mo_extent_33 : decode prog_11_method_52_code 33 = .ok (.iadd, 1) := by decide +kernel
theorem twd_mo_extent_34 : decode prog_11_method_52_code 34 = .ok (.iaload, 1) := by decide +kernel
theorem twd_mo_extent_35 : decode prog_11_method_52_code 35 = .ok (.invokevirtual 194, 3) := by decide +kernel
theorem twd_mo_extent_38 : decode prog_11_method_52_code 38 = .ok (.ireturn, 1) := by decide +kernel
theorem twk_mo_extent : tw_dc twy_mo_extent 1 := ⟨by decide +kernel, by decide +kernel, by decide +kernel⟩
theorem twd_mo_shownLevel_0 : decode prog_11_method_53_code 0 = .ok (.aload_n 0, 1) := by decide +kernel
theorem twd_mo_shownLevel_1 : decode prog_11_method_53_code 1 = .ok (.iload_n 1, 1) := by decide +kernel
theorem twd_mo_shownLevel_2 : decode prog_11_method_53_code 2 = .ok (.invokevirtual 224, 3) := by decide +kernel
theorem twd_mo_shownLevel_5 : decode prog_11_method_53_code 5 = .ok (.ifCond .eq 12, 3) := by decide +kernel
theorem twd_mo_shownLevel_8 : decode prog_11_method_53_code 8 = .ok (.aload_n 0, 1) := by decide +kernel
theorem twd_mo_shownLevel_9 : decode prog_11_method_53_code 9 = .ok (.getfield 63, 3) := by decide +kernel
theorem twd_mo_shownLevel_12 : decode prog_11_method_53_code 12 = .ok (.iload_n 1, 1) := by decide +kernel
theorem twd_mo_shownLevel_13 : decode prog_11_method_53_code 13 = .ok (.iaload, 1) := by decide +kernel
theorem twd_mo_shownLevel_14 : decode prog_11_method_53_code 14 = .ok (.goto 4, 3) := by decide +kernel
theorem twd_mo_shownLevel_17 : decode prog_11_method_53_code 17 = .ok (.iconst (-1), 1) := by decide +kernel
theorem twd_mo_shownLevel_18 : decode prog_11_method_53_code 18 = .ok (.ireturn, 1) := by decide +kernel
theorem twk_mo_shownLevel : tw_dc twy_mo_shownLevel 1 := ⟨by decide +kernel, by decide +kernel, by decide +kernel⟩
theorem twd_mo_shown_0 : decode prog_11_method_54_code 0 = .ok (.aload_n 0, 1) := by decide +kernel
theorem twd_mo_shown_1 : decode prog_11_method_54_code 1 = .ok (.invokevirtual 221, 3) := by decide +kernel
theorem twd_mo_shown_4 : decode prog_11_method_54_code 4 = .ok (.iload_n 1, 1) := by decide +kernel
theorem twd_mo_shown_5 : decode prog_11_method_54_code 5 = .ok (.ifCond .lt 34, 3) := by decide +kernel
theorem twd_mo_shown_8 : decode prog_11_method_54_code 8 = .ok (.iload_n 1, 1) := by decide +kernel
theorem twd_mo_shown_9 : decode prog_11_method_54_code 9 = .ok (.aload_n 0, 1) := by decide +kernel
theorem twd_mo_shown_10 : decode prog_11_method_54_code 10 = .ok (.getfield 197, 3) := by decide +kernel
theorem twd_mo_shown_13 : decode prog_11_method_54_code 13 = .ok (.if_icmp .ge 26, 3) := by decide +kernel
theorem twd_mo_shown_16 : decode prog_11_method_54_code 16 = .ok (.iload_n 2, 1) := by decide +kernel
theorem twd_mo_shown_17 : decode prog_11_method_54_code 17 = .ok (.ifCond .lt 22, 3) := by decide +kernel
theorem twd_mo_shown_20 : decode prog_11_method_54_code 20 = .ok (.iload_n 2, 1) := by decide +kernel
theorem twd_mo_shown_21 : decode prog_11_method_54_code 21 = .ok (.aload_n 0, 1) := by decide +kernel
theorem twd_mo_shown_22 : decode prog_11_method_54_code 22 = .ok (.getfield 60, 3) := by decide +kernel
theorem twd_mo_shown_25 : decode prog_11_method_54_code 25 = .ok (.iload_n 1, 1) := by decide +kernel
theorem twd_mo_shown_26 : decode prog_11_method_54_code 26 = .ok (.iconst 1, 1) := by decide +kernel
theorem twd_mo_shown_27 : decode prog_11_method_54_code 27 = .ok (.iadd, 1) := by decide +kernel
theorem twd_mo_shown_28 : decode prog_11_method_54_code 28 = .ok (.iaload, 1) := by decide +kernel
theorem twd_mo_shown_29 : decode prog_11_method_54_code 29 = .ok (.aload_n 0, 1) := by decide +kernel
theorem twd_mo_shown_30 : decode prog_11_method_54_code 30 = .ok (.getfield 60, 3) := by decide +kernel
theorem twd_mo_shown_33 : decode prog_11_method_54_code 33 = .ok (.iload_n 1, 1) := by decide +kernel
theorem twd_mo_shown_34 : decode prog_11_method_54_code 34 = .ok (.iaload, 1) := by decide +kernel
theorem twd_mo_shown_35 : decode prog_11_method_54_code 35 = .ok (.isub, 1) := by decide +kernel
theorem twd_mo_shown_36 : decode prog_11_method_54_code 36 = .ok (.if_icmp .lt 5, 3) := by decide +kernel
theorem twd_mo_shown_39 : decode prog_11_method_54_code 39 = .ok (.iconst (-1), 1) := by decide +kernel
theorem twd_mo_shown_40 : decode prog_11_method_54_code 40 = .ok (.ireturn, 1) := by decide +kernel
theorem twd_mo_shown_41 : decode prog_11_method_54_code 41 = .ok (.aload_n 0, 1) := by decide +kernel
theorem twd_mo_shown_42 : decode prog_11_method_54_code 42 = .ok (.getfield 66, 3) := by decide +kernel
theorem twd_mo_shown_45 : decode prog_11_method_54_code 45 = .ok (.aload_n 0, 1) := by decide +kernel
theorem twd_mo_shown_46 : decode prog_11_method_54_code 46 = .ok (.getfield 60, 3) := by decide +kernel
theorem twd_mo_shown_49 : decode prog_11_method_54_code 49 = .ok (.iload_n 1, 1) := by decide +kernel
theorem twd_mo_shown_50 : decode prog_11_method_54_code 50 = .ok (.iaload, 1) := by decide +kernel
theorem twd_mo_shown_51 : decode prog_11_method_54_code 51 = .ok (.iload_n 2, 1) := by decide +kernel
theorem twd_mo_shown_52 : decode prog_11_method_54_code 52 = .ok (.iadd, 1) := by decide +kernel
theorem twd_mo_shown_53 : decode prog_11_method_54_code 53 = .ok (.iaload, 1) := by decide +kernel
theorem twd_mo_shown_54 : decode prog_11_method_54_code 54 = .ok (.ireturn, 1) := by decide +kernel
theorem twk_mo_shown : tw_dc twy_mo_shown 2 := ⟨by decide +kernel, by decide +kernel, by decide +kernel⟩
theorem twd_mo_mirrored_0 : decode prog_11_method_55_code 0 = .ok (.aload_n 0, 1) := by decide +kernel
theorem twd_mo_mirrored_1 : decode prog_11_method_55_code 1 = .ok (.iload_n 1, 1) := by decide +kernel
theorem twd_mo_mirrored_2 : decode prog_11_method_55_code 2 = .ok (.invokevirtual 224, 3) := by decide +kernel
theorem twd_mo_mirrored_5 : decode prog_11_method_55_code 5 = .ok (.ifCond .eq 28, 3) := by decide +kernel
theorem twd_mo_mirrored_8 : decode prog_11_method_55_code 8 = .ok (.aload_n 0, 1) := by decide +kernel
theorem twd_mo_mirrored_9 : decode prog_11_method_55_code 9 = .ok (.getfield 26, 3) := by decide +kernel
theorem twd_mo_mirrored_12 : decode prog_11_method_55_code 12 = .ok (.iload_n 1, 1) := by decide +kernel
theorem twd_mo_mirrored_13 : decode prog_11_method_55_code 13 = .ok (.iaload, 1) := by decide +kernel
theorem twd_mo_mirrored_14 : decode prog_11_method_55_code 14 = .ok (.ifCond .eq 19, 3) := by decide +kernel
theorem twd_mo_mirrored_17 : decode prog_11_method_55_code 17 = .ok (.aload_n 0, 1) := by decide +kernel
theorem twd_mo_mirrored_18 : decode prog_11_method_55_code 18 = .ok (.getfield 63, 3) := by decide +kernel
theorem twd_mo_mirrored_21 : decode prog_11_method_55_code 21 = .ok (.iload_n 1, 1) := by decide +kernel
theorem twd_mo_mirrored_22 : decode prog_11_method_55_code 22 = .ok (.iaload, 1) := by decide +kernel
theorem twd_mo_mirrored_23 : decode prog_11_method_55_code 23 = .ok (.iconst 2, 1) := by decide +kernel
theorem twd_mo_mirrored_24 : decode prog_11_method_55_code 24 = .ok (.irem, 1) := by decide +kernel
theorem twd_mo_mirrored_25 : decode prog_11_method_55_code 25 = .ok (.iconst 1, 1) := by decide +kernel
theorem twd_mo_mirrored_26 : decode prog_11_method_55_code 26 = .ok (.if_icmp .ne 7, 3) := by decide +kernel
theorem twd_mo_mirrored_29 : decode prog_11_method_55_code 29 = .ok (.iconst 1, 1) := by decide +kernel
theorem twd_mo_mirrored_30 : decode prog_11_method_55_code 30 = .ok (.goto 4, 3) := by decide +kernel
theorem twd_mo_mirrored_33 : decode prog_11_method_55_code 33 = .ok (.iconst 0, 1) := by decide +kernel
theorem twd_mo_mirrored_34 : decode prog_11_method_55_code 34 = .ok (.ireturn, 1) := by decide +kernel
theorem twk_mo_mirrored : tw_dc twy_mo_mirrored 1 := ⟨by decide +kernel, by decide +kernel, by decide +kernel⟩
end
