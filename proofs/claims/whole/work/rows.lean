section
-- ===== PART A: goes FIRST, ahead of the names: the tables' words, and 'selects' of the private methods out of them =====
/-- a private method of a class that the tables say can be made, by its rows of tables_1 -/
def lw_okq (q : MethodName × Nat) : Prop := (q.1.cls ≠ "java/lang/invoke/MethodHandle" ∧ q.1.cls ≠ "java/lang/invoke/VarHandle") ∧ Cond.instantiable q.1.cls q.2 ∈ tables_1 ∧ Cond.privateMethod q.1 ∈ tables_1 ∧ Cond.instanceMethod q.1 ∈ tables_1
theorem lw_p0 : lw_okq (⟨"CommaCopies$Tape", "append", "(JI)I"⟩, 2) := ⟨⟨by decide +kernel, by decide +kernel⟩, List.mem_of_getElem? (i := 25) (by decide +kernel), List.mem_of_getElem? (i := 346) (by decide +kernel), List.mem_of_getElem? (i := 347) (by decide +kernel)⟩
theorem lw_p1 : lw_okq (⟨"CommaCopies$State", "begin", "(LCommaCopies$Tape;)V"⟩, 13) := ⟨⟨by decide +kernel, by decide +kernel⟩, List.mem_of_getElem? (i := 43) (by decide +kernel), List.mem_of_getElem? (i := 360) (by decide +kernel), List.mem_of_getElem? (i := 361) (by decide +kernel)⟩
theorem lw_p2 : lw_okq (⟨"CommaCopies$Letter", "read", "([BI)V"⟩, 7) := ⟨⟨by decide +kernel, by decide +kernel⟩, List.mem_of_getElem? (i := 49) (by decide +kernel), List.mem_of_getElem? (i := 364) (by decide +kernel), List.mem_of_getElem? (i := 365) (by decide +kernel)⟩
theorem lw_p3 : lw_okq (⟨"CommaCopies$Letter", "isPlace", "(I)Z"⟩, 7) := ⟨⟨by decide +kernel, by decide +kernel⟩, List.mem_of_getElem? (i := 49) (by decide +kernel), List.mem_of_getElem? (i := 378) (by decide +kernel), List.mem_of_getElem? (i := 379) (by decide +kernel)⟩
theorem lw_p4 : lw_okq (⟨"CommaCopies$Letter", "isChoice", "(II)Z"⟩, 7) := ⟨⟨by decide +kernel, by decide +kernel⟩, List.mem_of_getElem? (i := 49) (by decide +kernel), List.mem_of_getElem? (i := 386) (by decide +kernel), List.mem_of_getElem? (i := 387) (by decide +kernel)⟩
theorem lw_p5 : lw_okq (⟨"CommaCopies$Sheets", "refusal", "(IIII)I"⟩, 3) := ⟨⟨by decide +kernel, by decide +kernel⟩, List.mem_of_getElem? (i := 152) (by decide +kernel), List.mem_of_getElem? (i := 399) (by decide +kernel), List.mem_of_getElem? (i := 400) (by decide +kernel)⟩
theorem lw_p6 : lw_okq (⟨"CommaCopies$Sheets", "has", "(III)Z"⟩, 3) := ⟨⟨by decide +kernel, by decide +kernel⟩, List.mem_of_getElem? (i := 152) (by decide +kernel), List.mem_of_getElem? (i := 409) (by decide +kernel), List.mem_of_getElem? (i := 410) (by decide +kernel)⟩
theorem lw_p7 : lw_okq (⟨"CommaCopies$State", "addCopy", "([II)I"⟩, 13) := ⟨⟨by decide +kernel, by decide +kernel⟩, List.mem_of_getElem? (i := 43) (by decide +kernel), List.mem_of_getElem? (i := 413) (by decide +kernel), List.mem_of_getElem? (i := 414) (by decide +kernel)⟩
theorem lw_p8 : lw_okq (⟨"CommaCopies$State", "isCopy", "(I)Z"⟩, 13) := ⟨⟨by decide +kernel, by decide +kernel⟩, List.mem_of_getElem? (i := 43) (by decide +kernel), List.mem_of_getElem? (i := 423) (by decide +kernel), List.mem_of_getElem? (i := 424) (by decide +kernel)⟩
theorem lw_p9 : lw_okq (⟨"CommaCopies$Letter", "byteAt", "([III)I"⟩, 7) := ⟨⟨by decide +kernel, by decide +kernel⟩, List.mem_of_getElem? (i := 49) (by decide +kernel), List.mem_of_getElem? (i := 436) (by decide +kernel), List.mem_of_getElem? (i := 437) (by decide +kernel)⟩
theorem lw_p10 : lw_okq (⟨"CommaCopies$Letter", "plainStart", "(I)I"⟩, 7) := ⟨⟨by decide +kernel, by decide +kernel⟩, List.mem_of_getElem? (i := 49) (by decide +kernel), List.mem_of_getElem? (i := 440) (by decide +kernel), List.mem_of_getElem? (i := 441) (by decide +kernel)⟩
theorem lw_p11 : lw_okq (⟨"CommaCopies$Letter", "plainEnd", "(I)I"⟩, 7) := ⟨⟨by decide +kernel, by decide +kernel⟩, List.mem_of_getElem? (i := 49) (by decide +kernel), List.mem_of_getElem? (i := 444) (by decide +kernel), List.mem_of_getElem? (i := 445) (by decide +kernel)⟩
theorem lw_p12 : lw_okq (⟨"CommaCopies$State", "sumCosts", "(I)I"⟩, 13) := ⟨⟨by decide +kernel, by decide +kernel⟩, List.mem_of_getElem? (i := 43) (by decide +kernel), List.mem_of_getElem? (i := 452) (by decide +kernel), List.mem_of_getElem? (i := 453) (by decide +kernel)⟩
theorem lw_p13 : lw_okq (⟨"CommaCopies", "tryPrint", "()LCommaCopies$Joins;"⟩, 11) := ⟨⟨by decide +kernel, by decide +kernel⟩, List.mem_of_getElem? (i := 17) (by decide +kernel), List.mem_of_getElem? (i := 464) (by decide +kernel), List.mem_of_getElem? (i := 465) (by decide +kernel)⟩
theorem lw_p14 : lw_okq (⟨"CommaCopies", "lookNow", "()LCommaCopies$Joins;"⟩, 11) := ⟨⟨by decide +kernel, by decide +kernel⟩, List.mem_of_getElem? (i := 17) (by decide +kernel), List.mem_of_getElem? (i := 468) (by decide +kernel), List.mem_of_getElem? (i := 469) (by decide +kernel)⟩
theorem lw_p15 : lw_okq (⟨"CommaCopies$Joins", "look", "(LCommaCopies$State;II)V"⟩, 14) := ⟨⟨by decide +kernel, by decide +kernel⟩, List.mem_of_getElem? (i := 175) (by decide +kernel), List.mem_of_getElem? (i := 472) (by decide +kernel), List.mem_of_getElem? (i := 473) (by decide +kernel)⟩
def lw_privs_1 : List (MethodName × Nat) := [(⟨"CommaCopies$Tape", "append", "(JI)I"⟩, 2), (⟨"CommaCopies$State", "begin", "(LCommaCopies$Tape;)V"⟩, 13), (⟨"CommaCopies$Letter", "read", "([BI)V"⟩, 7), (⟨"CommaCopies$Letter", "isPlace", "(I)Z"⟩, 7), (⟨"CommaCopies$Letter", "isChoice", "(II)Z"⟩, 7), (⟨"CommaCopies$Sheets", "refusal", "(IIII)I"⟩, 3), (⟨"CommaCopies$Sheets", "has", "(III)Z"⟩, 3), (⟨"CommaCopies$State", "addCopy", "([II)I"⟩, 13), (⟨"CommaCopies$State", "isCopy", "(I)Z"⟩, 13), (⟨"CommaCopies$Letter", "byteAt", "([III)I"⟩, 7), (⟨"CommaCopies$Letter", "plainStart", "(I)I"⟩, 7), (⟨"CommaCopies$Letter", "plainEnd", "(I)I"⟩, 7), (⟨"CommaCopies$State", "sumCosts", "(I)I"⟩, 13), (⟨"CommaCopies", "tryPrint", "()LCommaCopies$Joins;"⟩, 11), (⟨"CommaCopies", "lookNow", "()LCommaCopies$Joins;"⟩, 11), (⟨"CommaCopies$Joins", "look", "(LCommaCopies$State;II)V"⟩, 14)]
theorem lw_r1 : ∀ q ∈ lw_privs_1, lw_okq q := List.forall_mem_cons.mpr ⟨lw_p0, List.forall_mem_cons.mpr ⟨lw_p1, List.forall_mem_cons.mpr ⟨lw_p2, List.forall_mem_cons.mpr ⟨lw_p3, List.forall_mem_cons.mpr ⟨lw_p4, List.forall_mem_cons.mpr ⟨lw_p5, List.forall_mem_cons.mpr ⟨lw_p6, List.forall_mem_cons.mpr ⟨lw_p7, List.forall_mem_cons.mpr ⟨lw_p8, List.forall_mem_cons.mpr ⟨lw_p9, List.forall_mem_cons.mpr ⟨lw_p10, List.forall_mem_cons.mpr ⟨lw_p11, List.forall_mem_cons.mpr ⟨lw_p12, List.forall_mem_cons.mpr ⟨lw_p13, List.forall_mem_cons.mpr ⟨lw_p14, List.forall_mem_cons.mpr ⟨lw_p15, fun _ h => absurd h List.not_mem_nil⟩⟩⟩⟩⟩⟩⟩⟩⟩⟩⟩⟩⟩⟩⟩⟩
theorem lw_p16 : lw_okq (⟨"CommaCopies$State", "bitsOf", "([II)I"⟩, 13) := ⟨⟨by decide +kernel, by decide +kernel⟩, List.mem_of_getElem? (i := 43) (by decide +kernel), List.mem_of_getElem? (i := 476) (by decide +kernel), List.mem_of_getElem? (i := 477) (by decide +kernel)⟩
theorem lw_p17 : lw_okq (⟨"CommaCopies$Joins", "list", "()V"⟩, 14) := ⟨⟨by decide +kernel, by decide +kernel⟩, List.mem_of_getElem? (i := 175) (by decide +kernel), List.mem_of_getElem? (i := 480) (by decide +kernel), List.mem_of_getElem? (i := 481) (by decide +kernel)⟩
theorem lw_p18 : lw_okq (⟨"CommaCopies$Joins", "unionOf", "(I)I"⟩, 14) := ⟨⟨by decide +kernel, by decide +kernel⟩, List.mem_of_getElem? (i := 175) (by decide +kernel), List.mem_of_getElem? (i := 490) (by decide +kernel), List.mem_of_getElem? (i := 491) (by decide +kernel)⟩
theorem lw_p19 : lw_okq (⟨"CommaCopies$Joins", "widened", "(I)I"⟩, 14) := ⟨⟨by decide +kernel, by decide +kernel⟩, List.mem_of_getElem? (i := 175) (by decide +kernel), List.mem_of_getElem? (i := 494) (by decide +kernel), List.mem_of_getElem? (i := 495) (by decide +kernel)⟩
theorem lw_p20 : lw_okq (⟨"CommaCopies$Joins", "suspect", "(I)V"⟩, 14) := ⟨⟨by decide +kernel, by decide +kernel⟩, List.mem_of_getElem? (i := 175) (by decide +kernel), List.mem_of_getElem? (i := 500) (by decide +kernel), List.mem_of_getElem? (i := 501) (by decide +kernel)⟩
theorem lw_p21 : lw_okq (⟨"CommaCopies$State", "countLost", "()I"⟩, 13) := ⟨⟨by decide +kernel, by decide +kernel⟩, List.mem_of_getElem? (i := 43) (by decide +kernel), List.mem_of_getElem? (i := 504) (by decide +kernel), List.mem_of_getElem? (i := 505) (by decide +kernel)⟩
theorem lw_p22 : lw_okq (⟨"CommaCopies$Matcher", "match", "(LCommaCopies$Letter;[BI[I)Z"⟩, 1) := ⟨⟨by decide +kernel, by decide +kernel⟩, List.mem_of_getElem? (i := 267) (by decide +kernel), List.mem_of_getElem? (i := 516) (by decide +kernel), List.mem_of_getElem? (i := 517) (by decide +kernel)⟩
theorem lw_p23 : lw_okq (⟨"CommaCopies$Matcher", "pick", "(LCommaCopies$Letter;I[BII)I"⟩, 1) := ⟨⟨by decide +kernel, by decide +kernel⟩, List.mem_of_getElem? (i := 267) (by decide +kernel), List.mem_of_getElem? (i := 520) (by decide +kernel), List.mem_of_getElem? (i := 521) (by decide +kernel)⟩
theorem lw_p24 : lw_okq (⟨"CommaCopies$State", "isSet", "(I)Z"⟩, 13) := ⟨⟨by decide +kernel, by decide +kernel⟩, List.mem_of_getElem? (i := 43) (by decide +kernel), List.mem_of_getElem? (i := 536) (by decide +kernel), List.mem_of_getElem? (i := 537) (by decide +kernel)⟩
theorem lw_p25 : lw_okq (⟨"CommaCopies$Joins", "canOf", "(I)I"⟩, 14) := ⟨⟨by decide +kernel, by decide +kernel⟩, List.mem_of_getElem? (i := 175) (by decide +kernel), List.mem_of_getElem? (i := 540) (by decide +kernel), List.mem_of_getElem? (i := 541) (by decide +kernel)⟩
theorem lw_p26 : lw_okq (⟨"CommaCopies$Joins", "madeBy", "(II)I"⟩, 14) := ⟨⟨by decide +kernel, by decide +kernel⟩, List.mem_of_getElem? (i := 175) (by decide +kernel), List.mem_of_getElem? (i := 548) (by decide +kernel), List.mem_of_getElem? (i := 549) (by decide +kernel)⟩
theorem lw_p27 : lw_okq (⟨"CommaCopies", "breaks", "(I)Z"⟩, 11) := ⟨⟨by decide +kernel, by decide +kernel⟩, List.mem_of_getElem? (i := 17) (by decide +kernel), List.mem_of_getElem? (i := 568) (by decide +kernel), List.mem_of_getElem? (i := 569) (by decide +kernel)⟩
theorem lw_p28 : lw_okq (⟨"CommaCopies$Laws", "mark", "()V"⟩, 8) := ⟨⟨by decide +kernel, by decide +kernel⟩, List.mem_of_getElem? (i := 169) (by decide +kernel), List.mem_of_getElem? (i := 572) (by decide +kernel), List.mem_of_getElem? (i := 573) (by decide +kernel)⟩
theorem lw_p29 : lw_okq (⟨"CommaCopies$Letter", "allPlaces", "()I"⟩, 7) := ⟨⟨by decide +kernel, by decide +kernel⟩, List.mem_of_getElem? (i := 49) (by decide +kernel), List.mem_of_getElem? (i := 582) (by decide +kernel), List.mem_of_getElem? (i := 583) (by decide +kernel)⟩
theorem lw_p30 : lw_okq (⟨"CommaCopies$Laws", "broken", "(II)Z"⟩, 8) := ⟨⟨by decide +kernel, by decide +kernel⟩, List.mem_of_getElem? (i := 169) (by decide +kernel), List.mem_of_getElem? (i := 586) (by decide +kernel), List.mem_of_getElem? (i := 587) (by decide +kernel)⟩
theorem lw_p31 : lw_okq (⟨"CommaCopies$Laws", "someFramed", "(I)Z"⟩, 8) := ⟨⟨by decide +kernel, by decide +kernel⟩, List.mem_of_getElem? (i := 169) (by decide +kernel), List.mem_of_getElem? (i := 593) (by decide +kernel), List.mem_of_getElem? (i := 594) (by decide +kernel)⟩
def lw_privs_2 : List (MethodName × Nat) := [(⟨"CommaCopies$State", "bitsOf", "([II)I"⟩, 13), (⟨"CommaCopies$Joins", "list", "()V"⟩, 14), (⟨"CommaCopies$Joins", "unionOf", "(I)I"⟩, 14), (⟨"CommaCopies$Joins", "widened", "(I)I"⟩, 14), (⟨"CommaCopies$Joins", "suspect", "(I)V"⟩, 14), (⟨"CommaCopies$State", "countLost", "()I"⟩, 13), (⟨"CommaCopies$Matcher", "match", "(LCommaCopies$Letter;[BI[I)Z"⟩, 1), (⟨"CommaCopies$Matcher", "pick", "(LCommaCopies$Letter;I[BII)I"⟩, 1), (⟨"CommaCopies$State", "isSet", "(I)Z"⟩, 13), (⟨"CommaCopies$Joins", "canOf", "(I)I"⟩, 14), (⟨"CommaCopies$Joins", "madeBy", "(II)I"⟩, 14), (⟨"CommaCopies", "breaks", "(I)Z"⟩, 11), (⟨"CommaCopies$Laws", "mark", "()V"⟩, 8), (⟨"CommaCopies$Letter", "allPlaces", "()I"⟩, 7), (⟨"CommaCopies$Laws", "broken", "(II)Z"⟩, 8), (⟨"CommaCopies$Laws", "someFramed", "(I)Z"⟩, 8)]
theorem lw_r2 : ∀ q ∈ lw_privs_2, lw_okq q := List.forall_mem_cons.mpr ⟨lw_p16, List.forall_mem_cons.mpr ⟨lw_p17, List.forall_mem_cons.mpr ⟨lw_p18, List.forall_mem_cons.mpr ⟨lw_p19, List.forall_mem_cons.mpr ⟨lw_p20, List.forall_mem_cons.mpr ⟨lw_p21, List.forall_mem_cons.mpr ⟨lw_p22, List.forall_mem_cons.mpr ⟨lw_p23, List.forall_mem_cons.mpr ⟨lw_p24, List.forall_mem_cons.mpr ⟨lw_p25, List.forall_mem_cons.mpr ⟨lw_p26, List.forall_mem_cons.mpr ⟨lw_p27, List.forall_mem_cons.mpr ⟨lw_p28, List.forall_mem_cons.mpr ⟨lw_p29, List.forall_mem_cons.mpr ⟨lw_p30, List.forall_mem_cons.mpr ⟨lw_p31, fun _ h => absurd h List.not_mem_nil⟩⟩⟩⟩⟩⟩⟩⟩⟩⟩⟩⟩⟩⟩⟩⟩
theorem lw_p32 : lw_okq (⟨"CommaCopies$Laws", "victimOf", "(III)I"⟩, 8) := ⟨⟨by decide +kernel, by decide +kernel⟩, List.mem_of_getElem? (i := 169) (by decide +kernel), List.mem_of_getElem? (i := 597) (by decide +kernel), List.mem_of_getElem? (i := 598) (by decide +kernel)⟩
theorem lw_p33 : lw_okq (⟨"CommaCopies$Laws", "someTouch", "(I)Z"⟩, 8) := ⟨⟨by decide +kernel, by decide +kernel⟩, List.mem_of_getElem? (i := 169) (by decide +kernel), List.mem_of_getElem? (i := 601) (by decide +kernel), List.mem_of_getElem? (i := 602) (by decide +kernel)⟩
theorem lw_p34 : lw_okq (⟨"CommaCopies$Laws", "touching", "(IIII)I"⟩, 8) := ⟨⟨by decide +kernel, by decide +kernel⟩, List.mem_of_getElem? (i := 169) (by decide +kernel), List.mem_of_getElem? (i := 605) (by decide +kernel), List.mem_of_getElem? (i := 606) (by decide +kernel)⟩
theorem lw_p35 : lw_okq (⟨"CommaCopies$Laws", "someUnnamed", "(IIJJ)Z"⟩, 8) := ⟨⟨by decide +kernel, by decide +kernel⟩, List.mem_of_getElem? (i := 169) (by decide +kernel), List.mem_of_getElem? (i := 618) (by decide +kernel), List.mem_of_getElem? (i := 619) (by decide +kernel)⟩
theorem lw_p36 : lw_okq (⟨"CommaCopies$Laws", "haveOneInCommon", "(JJ)Z"⟩, 8) := ⟨⟨by decide +kernel, by decide +kernel⟩, List.mem_of_getElem? (i := 169) (by decide +kernel), List.mem_of_getElem? (i := 622) (by decide +kernel), List.mem_of_getElem? (i := 623) (by decide +kernel)⟩
theorem lw_p37 : lw_okq (⟨"CommaCopies$Letter", "countRows", "()I"⟩, 7) := ⟨⟨by decide +kernel, by decide +kernel⟩, List.mem_of_getElem? (i := 49) (by decide +kernel), List.mem_of_getElem? (i := 639) (by decide +kernel), List.mem_of_getElem? (i := 640) (by decide +kernel)⟩
theorem lw_p38 : lw_okq (⟨"CommaCopies$Letter", "rowAt", "(I[I)V"⟩, 7) := ⟨⟨by decide +kernel, by decide +kernel⟩, List.mem_of_getElem? (i := 49) (by decide +kernel), List.mem_of_getElem? (i := 643) (by decide +kernel), List.mem_of_getElem? (i := 644) (by decide +kernel)⟩
theorem lw_p39 : lw_okq (⟨"CommaCopies$Laws", "admits", "(II)Z"⟩, 8) := ⟨⟨by decide +kernel, by decide +kernel⟩, List.mem_of_getElem? (i := 169) (by decide +kernel), List.mem_of_getElem? (i := 650) (by decide +kernel), List.mem_of_getElem? (i := 651) (by decide +kernel)⟩
theorem lw_p40 : lw_okq (⟨"CommaCopies$Laws", "isFramed", "(I)Z"⟩, 8) := ⟨⟨by decide +kernel, by decide +kernel⟩, List.mem_of_getElem? (i := 169) (by decide +kernel), List.mem_of_getElem? (i := 654) (by decide +kernel), List.mem_of_getElem? (i := 655) (by decide +kernel)⟩
theorem lw_p41 : lw_okq (⟨"CommaCopies$Laws", "harms", "(III)Z"⟩, 8) := ⟨⟨by decide +kernel, by decide +kernel⟩, List.mem_of_getElem? (i := 169) (by decide +kernel), List.mem_of_getElem? (i := 659) (by decide +kernel), List.mem_of_getElem? (i := 660) (by decide +kernel)⟩
theorem lw_p42 : lw_okq (⟨"CommaCopies$State", "matches", "(I)I"⟩, 13) := ⟨⟨by decide +kernel, by decide +kernel⟩, List.mem_of_getElem? (i := 43) (by decide +kernel), List.mem_of_getElem? (i := 668) (by decide +kernel), List.mem_of_getElem? (i := 669) (by decide +kernel)⟩
theorem lw_p43 : lw_okq (⟨"CommaCopies$Chance", "spread", "(LCommaCopies$State;)V"⟩, 1) := ⟨⟨by decide +kernel, by decide +kernel⟩, List.mem_of_getElem? (i := 277) (by decide +kernel), List.mem_of_getElem? (i := 676) (by decide +kernel), List.mem_of_getElem? (i := 677) (by decide +kernel)⟩
theorem lw_p44 : lw_okq (⟨"CommaCopies$Chance", "reduced", "(II)I"⟩, 1) := ⟨⟨by decide +kernel, by decide +kernel⟩, List.mem_of_getElem? (i := 277) (by decide +kernel), List.mem_of_getElem? (i := 681) (by decide +kernel), List.mem_of_getElem? (i := 682) (by decide +kernel)⟩
theorem lw_p45 : lw_okq (⟨"CommaCopies$Chance", "atLeast", "(I)I"⟩, 1) := ⟨⟨by decide +kernel, by decide +kernel⟩, List.mem_of_getElem? (i := 277) (by decide +kernel), List.mem_of_getElem? (i := 685) (by decide +kernel), List.mem_of_getElem? (i := 686) (by decide +kernel)⟩
theorem lw_p46 : lw_okq (⟨"CommaCopies$Chance", "leastBar", "(I)I"⟩, 1) := ⟨⟨by decide +kernel, by decide +kernel⟩, List.mem_of_getElem? (i := 277) (by decide +kernel), List.mem_of_getElem? (i := 696) (by decide +kernel), List.mem_of_getElem? (i := 697) (by decide +kernel)⟩
theorem lw_p47 : lw_okq (⟨"CommaCopies$State", "bestOrder", "(I)I"⟩, 13) := ⟨⟨by decide +kernel, by decide +kernel⟩, List.mem_of_getElem? (i := 43) (by decide +kernel), List.mem_of_getElem? (i := 704) (by decide +kernel), List.mem_of_getElem? (i := 705) (by decide +kernel)⟩
def lw_privs_3 : List (MethodName × Nat) := [(⟨"CommaCopies$Laws", "victimOf", "(III)I"⟩, 8), (⟨"CommaCopies$Laws", "someTouch", "(I)Z"⟩, 8), (⟨"CommaCopies$Laws", "touching", "(IIII)I"⟩, 8), (⟨"CommaCopies$Laws", "someUnnamed", "(IIJJ)Z"⟩, 8), (⟨"CommaCopies$Laws", "haveOneInCommon", "(JJ)Z"⟩, 8), (⟨"CommaCopies$Letter", "countRows", "()I"⟩, 7), (⟨"CommaCopies$Letter", "rowAt", "(I[I)V"⟩, 7), (⟨"CommaCopies$Laws", "admits", "(II)Z"⟩, 8), (⟨"CommaCopies$Laws", "isFramed", "(I)Z"⟩, 8), (⟨"CommaCopies$Laws", "harms", "(III)Z"⟩, 8), (⟨"CommaCopies$State", "matches", "(I)I"⟩, 13), (⟨"CommaCopies$Chance", "spread", "(LCommaCopies$State;)V"⟩, 1), (⟨"CommaCopies$Chance", "reduced", "(II)I"⟩, 1), (⟨"CommaCopies$Chance", "atLeast", "(I)I"⟩, 1), (⟨"CommaCopies$Chance", "leastBar", "(I)I"⟩, 1), (⟨"CommaCopies$State", "bestOrder", "(I)I"⟩, 13)]
theorem lw_r3 : ∀ q ∈ lw_privs_3, lw_okq q := List.forall_mem_cons.mpr ⟨lw_p32, List.forall_mem_cons.mpr ⟨lw_p33, List.forall_mem_cons.mpr ⟨lw_p34, List.forall_mem_cons.mpr ⟨lw_p35, List.forall_mem_cons.mpr ⟨lw_p36, List.forall_mem_cons.mpr ⟨lw_p37, List.forall_mem_cons.mpr ⟨lw_p38, List.forall_mem_cons.mpr ⟨lw_p39, List.forall_mem_cons.mpr ⟨lw_p40, List.forall_mem_cons.mpr ⟨lw_p41, List.forall_mem_cons.mpr ⟨lw_p42, List.forall_mem_cons.mpr ⟨lw_p43, List.forall_mem_cons.mpr ⟨lw_p44, List.forall_mem_cons.mpr ⟨lw_p45, List.forall_mem_cons.mpr ⟨lw_p46, List.forall_mem_cons.mpr ⟨lw_p47, fun _ h => absurd h List.not_mem_nil⟩⟩⟩⟩⟩⟩⟩⟩⟩⟩⟩⟩⟩⟩⟩⟩
theorem lw_p48 : lw_okq (⟨"CommaCopies$State", "costBy", "(II)I"⟩, 13) := ⟨⟨by decide +kernel, by decide +kernel⟩, List.mem_of_getElem? (i := 43) (by decide +kernel), List.mem_of_getElem? (i := 715) (by decide +kernel), List.mem_of_getElem? (i := 716) (by decide +kernel)⟩
theorem lw_p49 : lw_okq (⟨"CommaCopies$State", "reorder", "(II)V"⟩, 13) := ⟨⟨by decide +kernel, by decide +kernel⟩, List.mem_of_getElem? (i := 43) (by decide +kernel), List.mem_of_getElem? (i := 724) (by decide +kernel), List.mem_of_getElem? (i := 725) (by decide +kernel)⟩
theorem lw_p50 : lw_okq (⟨"CommaCopies$Hiding", "seek", "(LCommaCopies$Joins;II)V"⟩, 4) := ⟨⟨by decide +kernel, by decide +kernel⟩, List.mem_of_getElem? (i := 287) (by decide +kernel), List.mem_of_getElem? (i := 732) (by decide +kernel), List.mem_of_getElem? (i := 733) (by decide +kernel)⟩
theorem lw_p51 : lw_okq (⟨"CommaCopies$Hiding", "addGains", "(II)V"⟩, 4) := ⟨⟨by decide +kernel, by decide +kernel⟩, List.mem_of_getElem? (i := 287) (by decide +kernel), List.mem_of_getElem? (i := 737) (by decide +kernel), List.mem_of_getElem? (i := 738) (by decide +kernel)⟩
theorem lw_p52 : lw_okq (⟨"CommaCopies$Hiding", "walk", "(IIII)V"⟩, 4) := ⟨⟨by decide +kernel, by decide +kernel⟩, List.mem_of_getElem? (i := 287) (by decide +kernel), List.mem_of_getElem? (i := 742) (by decide +kernel), List.mem_of_getElem? (i := 743) (by decide +kernel)⟩
theorem lw_p53 : lw_okq (⟨"CommaCopies$State", "addPast", "()I"⟩, 13) := ⟨⟨by decide +kernel, by decide +kernel⟩, List.mem_of_getElem? (i := 43) (by decide +kernel), List.mem_of_getElem? (i := 755) (by decide +kernel), List.mem_of_getElem? (i := 756) (by decide +kernel)⟩
theorem lw_p54 : lw_okq (⟨"CommaCopies$State", "takeFrom", "(LCommaCopies$State;)V"⟩, 13) := ⟨⟨by decide +kernel, by decide +kernel⟩, List.mem_of_getElem? (i := 43) (by decide +kernel), List.mem_of_getElem? (i := 767) (by decide +kernel), List.mem_of_getElem? (i := 768) (by decide +kernel)⟩
theorem lw_p55 : lw_okq (⟨"CommaCopies$Letter", "takeFrom", "(LCommaCopies$Letter;)V"⟩, 7) := ⟨⟨by decide +kernel, by decide +kernel⟩, List.mem_of_getElem? (i := 49) (by decide +kernel), List.mem_of_getElem? (i := 771) (by decide +kernel), List.mem_of_getElem? (i := 772) (by decide +kernel)⟩
theorem lw_p56 : lw_okq (⟨"CommaCopies$Sheets", "lay", "(III)I"⟩, 3) := ⟨⟨by decide +kernel, by decide +kernel⟩, List.mem_of_getElem? (i := 152) (by decide +kernel), List.mem_of_getElem? (i := 783) (by decide +kernel), List.mem_of_getElem? (i := 784) (by decide +kernel)⟩
theorem lw_p57 : lw_okq (⟨"CommaCopies$Sheets", "remove", "(I)I"⟩, 3) := ⟨⟨by decide +kernel, by decide +kernel⟩, List.mem_of_getElem? (i := 152) (by decide +kernel), List.mem_of_getElem? (i := 791) (by decide +kernel), List.mem_of_getElem? (i := 792) (by decide +kernel)⟩
theorem lw_p58 : lw_okq (⟨"CommaCopies$Sheets", "move", "(IIIII)I"⟩, 3) := ⟨⟨by decide +kernel, by decide +kernel⟩, List.mem_of_getElem? (i := 152) (by decide +kernel), List.mem_of_getElem? (i := 806) (by decide +kernel), List.mem_of_getElem? (i := 807) (by decide +kernel)⟩
theorem lw_p59 : lw_okq (⟨"CommaCopiesModel", "fault", "()I"⟩, 36) := ⟨⟨by decide +kernel, by decide +kernel⟩, List.mem_of_getElem? (i := 811) (by decide +kernel), List.mem_of_getElem? (i := 941) (by decide +kernel), List.mem_of_getElem? (i := 942) (by decide +kernel)⟩
theorem lw_p60 : lw_okq (⟨"CommaCopiesModel", "lays", "()V"⟩, 36) := ⟨⟨by decide +kernel, by decide +kernel⟩, List.mem_of_getElem? (i := 811) (by decide +kernel), List.mem_of_getElem? (i := 945) (by decide +kernel), List.mem_of_getElem? (i := 946) (by decide +kernel)⟩
theorem lw_p61 : lw_okq (⟨"CommaCopiesModel", "isPlace", "(I)Z"⟩, 36) := ⟨⟨by decide +kernel, by decide +kernel⟩, List.mem_of_getElem? (i := 811) (by decide +kernel), List.mem_of_getElem? (i := 953) (by decide +kernel), List.mem_of_getElem? (i := 954) (by decide +kernel)⟩
theorem lw_p62 : lw_okq (⟨"CommaCopiesModel", "isChoice", "(II)Z"⟩, 36) := ⟨⟨by decide +kernel, by decide +kernel⟩, List.mem_of_getElem? (i := 811) (by decide +kernel), List.mem_of_getElem? (i := 961) (by decide +kernel), List.mem_of_getElem? (i := 962) (by decide +kernel)⟩
theorem lw_p63 : lw_okq (⟨"CommaCopiesModel", "finds", "(IIII)I"⟩, 36) := ⟨⟨by decide +kernel, by decide +kernel⟩, List.mem_of_getElem? (i := 811) (by decide +kernel), List.mem_of_getElem? (i := 982) (by decide +kernel), List.mem_of_getElem? (i := 983) (by decide +kernel)⟩
def lw_privs_4 : List (MethodName × Nat) := [(⟨"CommaCopies$State", "costBy", "(II)I"⟩, 13), (⟨"CommaCopies$State", "reorder", "(II)V"⟩, 13), (⟨"CommaCopies$Hiding", "seek", "(LCommaCopies$Joins;II)V"⟩, 4), (⟨"CommaCopies$Hiding", "addGains", "(II)V"⟩, 4), (⟨"CommaCopies$Hiding", "walk", "(IIII)V"⟩, 4), (⟨"CommaCopies$State", "addPast", "()I"⟩, 13), (⟨"CommaCopies$State", "takeFrom", "(LCommaCopies$State;)V"⟩, 13), (⟨"CommaCopies$Letter", "takeFrom", "(LCommaCopies$Letter;)V"⟩, 7), (⟨"CommaCopies$Sheets", "lay", "(III)I"⟩, 3), (⟨"CommaCopies$Sheets", "remove", "(I)I"⟩, 3), (⟨"CommaCopies$Sheets", "move", "(IIIII)I"⟩, 3), (⟨"CommaCopiesModel", "fault", "()I"⟩, 36), (⟨"CommaCopiesModel", "lays", "()V"⟩, 36), (⟨"CommaCopiesModel", "isPlace", "(I)Z"⟩, 36), (⟨"CommaCopiesModel", "isChoice", "(II)Z"⟩, 36), (⟨"CommaCopiesModel", "finds", "(IIII)I"⟩, 36)]
theorem lw_r4 : ∀ q ∈ lw_privs_4, lw_okq q := List.forall_mem_cons.mpr ⟨lw_p48, List.forall_mem_cons.mpr ⟨lw_p49, List.forall_mem_cons.mpr ⟨lw_p50, List.forall_mem_cons.mpr ⟨lw_p51, List.forall_mem_cons.mpr ⟨lw_p52, List.forall_mem_cons.mpr ⟨lw_p53, List.forall_mem_cons.mpr ⟨lw_p54, List.forall_mem_cons.mpr ⟨lw_p55, List.forall_mem_cons.mpr ⟨lw_p56, List.forall_mem_cons.mpr ⟨lw_p57, List.forall_mem_cons.mpr ⟨lw_p58, List.forall_mem_cons.mpr ⟨lw_p59, List.forall_mem_cons.mpr ⟨lw_p60, List.forall_mem_cons.mpr ⟨lw_p61, List.forall_mem_cons.mpr ⟨lw_p62, List.forall_mem_cons.mpr ⟨lw_p63, fun _ h => absurd h List.not_mem_nil⟩⟩⟩⟩⟩⟩⟩⟩⟩⟩⟩⟩⟩⟩⟩⟩
theorem lw_p64 : lw_okq (⟨"CommaCopiesModel", "isCopy", "(I)Z"⟩, 36) := ⟨⟨by decide +kernel, by decide +kernel⟩, List.mem_of_getElem? (i := 811) (by decide +kernel), List.mem_of_getElem? (i := 990) (by decide +kernel), List.mem_of_getElem? (i := 991) (by decide +kernel)⟩
theorem lw_p65 : lw_okq (⟨"CommaCopiesModel", "readsAs", "([II)I"⟩, 36) := ⟨⟨by decide +kernel, by decide +kernel⟩, List.mem_of_getElem? (i := 811) (by decide +kernel), List.mem_of_getElem? (i := 1002) (by decide +kernel), List.mem_of_getElem? (i := 1003) (by decide +kernel)⟩
theorem lw_p66 : lw_okq (⟨"CommaCopiesModel", "costAll", "(I)I"⟩, 36) := ⟨⟨by decide +kernel, by decide +kernel⟩, List.mem_of_getElem? (i := 811) (by decide +kernel), List.mem_of_getElem? (i := 1010) (by decide +kernel), List.mem_of_getElem? (i := 1011) (by decide +kernel)⟩
theorem lw_p67 : lw_okq (⟨"CommaCopiesModel", "madeBy", "([IIII)I"⟩, 36) := ⟨⟨by decide +kernel, by decide +kernel⟩, List.mem_of_getElem? (i := 811) (by decide +kernel), List.mem_of_getElem? (i := 1022) (by decide +kernel), List.mem_of_getElem? (i := 1023) (by decide +kernel)⟩
theorem lw_p68 : lw_okq (⟨"CommaCopiesModel", "laysSets", "(I)V"⟩, 36) := ⟨⟨by decide +kernel, by decide +kernel⟩, List.mem_of_getElem? (i := 811) (by decide +kernel), List.mem_of_getElem? (i := 1026) (by decide +kernel), List.mem_of_getElem? (i := 1027) (by decide +kernel)⟩
theorem lw_p69 : lw_okq (⟨"CommaCopiesModel", "makes", "(I[III)Z"⟩, 36) := ⟨⟨by decide +kernel, by decide +kernel⟩, List.mem_of_getElem? (i := 811) (by decide +kernel), List.mem_of_getElem? (i := 1033) (by decide +kernel), List.mem_of_getElem? (i := 1034) (by decide +kernel)⟩
theorem lw_p70 : lw_okq (⟨"CommaCopiesModel", "can", "(III)I"⟩, 36) := ⟨⟨by decide +kernel, by decide +kernel⟩, List.mem_of_getElem? (i := 811) (by decide +kernel), List.mem_of_getElem? (i := 1037) (by decide +kernel), List.mem_of_getElem? (i := 1038) (by decide +kernel)⟩
theorem lw_p71 : lw_okq (⟨"CommaCopiesModel", "begins", "()V"⟩, 36) := ⟨⟨by decide +kernel, by decide +kernel⟩, List.mem_of_getElem? (i := 811) (by decide +kernel), List.mem_of_getElem? (i := 1051) (by decide +kernel), List.mem_of_getElem? (i := 1052) (by decide +kernel)⟩
theorem lw_p72 : lw_okq (⟨"CommaCopiesModel", "goesOn", "(Z)Z"⟩, 36) := ⟨⟨by decide +kernel, by decide +kernel⟩, List.mem_of_getElem? (i := 811) (by decide +kernel), List.mem_of_getElem? (i := 1055) (by decide +kernel), List.mem_of_getElem? (i := 1056) (by decide +kernel)⟩
theorem lw_p73 : lw_okq (⟨"CommaCopiesModel", "isSet", "(I)Z"⟩, 36) := ⟨⟨by decide +kernel, by decide +kernel⟩, List.mem_of_getElem? (i := 811) (by decide +kernel), List.mem_of_getElem? (i := 1063) (by decide +kernel), List.mem_of_getElem? (i := 1064) (by decide +kernel)⟩
theorem lw_p74 : lw_okq (⟨"CommaCopiesModel", "isLaw", "(II)Z"⟩, 36) := ⟨⟨by decide +kernel, by decide +kernel⟩, List.mem_of_getElem? (i := 811) (by decide +kernel), List.mem_of_getElem? (i := 1086) (by decide +kernel), List.mem_of_getElem? (i := 1087) (by decide +kernel)⟩
theorem lw_p75 : lw_okq (⟨"CommaCopiesModel", "laysCans", "()V"⟩, 36) := ⟨⟨by decide +kernel, by decide +kernel⟩, List.mem_of_getElem? (i := 811) (by decide +kernel), List.mem_of_getElem? (i := 1090) (by decide +kernel), List.mem_of_getElem? (i := 1091) (by decide +kernel)⟩
theorem lw_p76 : lw_okq (⟨"CommaCopiesModel", "isUnframed", "(I)Z"⟩, 36) := ⟨⟨by decide +kernel, by decide +kernel⟩, List.mem_of_getElem? (i := 811) (by decide +kernel), List.mem_of_getElem? (i := 1094) (by decide +kernel), List.mem_of_getElem? (i := 1095) (by decide +kernel)⟩
theorem lw_p77 : lw_okq (⟨"CommaCopiesModel", "areApart", "(I)Z"⟩, 36) := ⟨⟨by decide +kernel, by decide +kernel⟩, List.mem_of_getElem? (i := 811) (by decide +kernel), List.mem_of_getElem? (i := 1098) (by decide +kernel), List.mem_of_getElem? (i := 1099) (by decide +kernel)⟩
theorem lw_p78 : lw_okq (⟨"CommaCopiesModel", "areNamed", "(I)Z"⟩, 36) := ⟨⟨by decide +kernel, by decide +kernel⟩, List.mem_of_getElem? (i := 811) (by decide +kernel), List.mem_of_getElem? (i := 1102) (by decide +kernel), List.mem_of_getElem? (i := 1103) (by decide +kernel)⟩
theorem lw_p79 : lw_okq (⟨"CommaCopiesModel", "goesOnBy", "(I)Z"⟩, 36) := ⟨⟨by decide +kernel, by decide +kernel⟩, List.mem_of_getElem? (i := 811) (by decide +kernel), List.mem_of_getElem? (i := 1106) (by decide +kernel), List.mem_of_getElem? (i := 1107) (by decide +kernel)⟩
def lw_privs_5 : List (MethodName × Nat) := [(⟨"CommaCopiesModel", "isCopy", "(I)Z"⟩, 36), (⟨"CommaCopiesModel", "readsAs", "([II)I"⟩, 36), (⟨"CommaCopiesModel", "costAll", "(I)I"⟩, 36), (⟨"CommaCopiesModel", "madeBy", "([IIII)I"⟩, 36), (⟨"CommaCopiesModel", "laysSets", "(I)V"⟩, 36), (⟨"CommaCopiesModel", "makes", "(I[III)Z"⟩, 36), (⟨"CommaCopiesModel", "can", "(III)I"⟩, 36), (⟨"CommaCopiesModel", "begins", "()V"⟩, 36), (⟨"CommaCopiesModel", "goesOn", "(Z)Z"⟩, 36), (⟨"CommaCopiesModel", "isSet", "(I)Z"⟩, 36), (⟨"CommaCopiesModel", "isLaw", "(II)Z"⟩, 36), (⟨"CommaCopiesModel", "laysCans", "()V"⟩, 36), (⟨"CommaCopiesModel", "isUnframed", "(I)Z"⟩, 36), (⟨"CommaCopiesModel", "areApart", "(I)Z"⟩, 36), (⟨"CommaCopiesModel", "areNamed", "(I)Z"⟩, 36), (⟨"CommaCopiesModel", "goesOnBy", "(I)Z"⟩, 36)]
theorem lw_r5 : ∀ q ∈ lw_privs_5, lw_okq q := List.forall_mem_cons.mpr ⟨lw_p64, List.forall_mem_cons.mpr ⟨lw_p65, List.forall_mem_cons.mpr ⟨lw_p66, List.forall_mem_cons.mpr ⟨lw_p67, List.forall_mem_cons.mpr ⟨lw_p68, List.forall_mem_cons.mpr ⟨lw_p69, List.forall_mem_cons.mpr ⟨lw_p70, List.forall_mem_cons.mpr ⟨lw_p71, List.forall_mem_cons.mpr ⟨lw_p72, List.forall_mem_cons.mpr ⟨lw_p73, List.forall_mem_cons.mpr ⟨lw_p74, List.forall_mem_cons.mpr ⟨lw_p75, List.forall_mem_cons.mpr ⟨lw_p76, List.forall_mem_cons.mpr ⟨lw_p77, List.forall_mem_cons.mpr ⟨lw_p78, List.forall_mem_cons.mpr ⟨lw_p79, fun _ h => absurd h List.not_mem_nil⟩⟩⟩⟩⟩⟩⟩⟩⟩⟩⟩⟩⟩⟩⟩⟩
theorem lw_p80 : lw_okq (⟨"CommaCopiesModel", "isRowThere", "()Z"⟩, 36) := ⟨⟨by decide +kernel, by decide +kernel⟩, List.mem_of_getElem? (i := 811) (by decide +kernel), List.mem_of_getElem? (i := 1122) (by decide +kernel), List.mem_of_getElem? (i := 1123) (by decide +kernel)⟩
theorem lw_p81 : lw_okq (⟨"CommaCopiesModel", "scoreOf", "(I[I)I"⟩, 36) := ⟨⟨by decide +kernel, by decide +kernel⟩, List.mem_of_getElem? (i := 811) (by decide +kernel), List.mem_of_getElem? (i := 1130) (by decide +kernel), List.mem_of_getElem? (i := 1131) (by decide +kernel)⟩
theorem lw_p82 : lw_okq (⟨"CommaCopiesModel", "scores", "()I"⟩, 36) := ⟨⟨by decide +kernel, by decide +kernel⟩, List.mem_of_getElem? (i := 811) (by decide +kernel), List.mem_of_getElem? (i := 1139) (by decide +kernel), List.mem_of_getElem? (i := 1140) (by decide +kernel)⟩
theorem lw_p83 : lw_okq (⟨"CommaCopiesModel", "above", "(I)I"⟩, 36) := ⟨⟨by decide +kernel, by decide +kernel⟩, List.mem_of_getElem? (i := 811) (by decide +kernel), List.mem_of_getElem? (i := 1143) (by decide +kernel), List.mem_of_getElem? (i := 1144) (by decide +kernel)⟩
theorem lw_p84 : lw_okq (⟨"CommaCopiesModel", "puts", "(I)V"⟩, 36) := ⟨⟨by decide +kernel, by decide +kernel⟩, List.mem_of_getElem? (i := 811) (by decide +kernel), List.mem_of_getElem? (i := 1156) (by decide +kernel), List.mem_of_getElem? (i := 1157) (by decide +kernel)⟩
def lw_privs_6 : List (MethodName × Nat) := [(⟨"CommaCopiesModel", "isRowThere", "()Z"⟩, 36), (⟨"CommaCopiesModel", "scoreOf", "(I[I)I"⟩, 36), (⟨"CommaCopiesModel", "scores", "()I"⟩, 36), (⟨"CommaCopiesModel", "above", "(I)I"⟩, 36), (⟨"CommaCopiesModel", "puts", "(I)V"⟩, 36)]
theorem lw_r6 : ∀ q ∈ lw_privs_6, lw_okq q := List.forall_mem_cons.mpr ⟨lw_p80, List.forall_mem_cons.mpr ⟨lw_p81, List.forall_mem_cons.mpr ⟨lw_p82, List.forall_mem_cons.mpr ⟨lw_p83, List.forall_mem_cons.mpr ⟨lw_p84, fun _ h => absurd h List.not_mem_nil⟩⟩⟩⟩⟩
def lw_privs : List (MethodName × Nat) := lw_privs_1 ++ (lw_privs_2 ++ (lw_privs_3 ++ (lw_privs_4 ++ (lw_privs_5 ++ (lw_privs_6)))))
def lw_tbl : List Cond := k2_sels lw_privs ++ tables_1
theorem lw_privs_ok : ∀ q ∈ lw_privs, lw_okq q := by
  show ∀ q ∈ lw_privs_1 ++ (lw_privs_2 ++ (lw_privs_3 ++ (lw_privs_4 ++ (lw_privs_5 ++ (lw_privs_6))))), lw_okq q
  exact List.forall_mem_append.mpr ⟨lw_r1, List.forall_mem_append.mpr ⟨lw_r2, List.forall_mem_append.mpr ⟨lw_r3, List.forall_mem_append.mpr ⟨lw_r4, List.forall_mem_append.mpr ⟨lw_r5, lw_r6⟩⟩⟩⟩⟩
end
section
def RX0 : String := "CommaCopies$Chance"
def TX0 : u_T := fun k => match k with
  | _ => ("CommaCopies$Chance", "ways", "[I", true)
def tyX0 : Nat → FieldType := fun k => match k with
  | _ => .array .int
theorem nmX0 : ∀ a, a < 1 → ∀ b, b < 1 → a ≠ b → (TX0 a).2.1 ≠ (TX0 b).2.1 := by decide +kernel
theorem tyX0_ok : ∀ k, k < 1 → parseFieldDescriptor (TX0 k).2.2.1 = some (tyX0 k) := by decide +kernel
def RX1 : String := "CommaCopies$Hiding"
def TX1 : u_T := fun k => match k with
  | 0 => ("CommaCopies$Hiding", "gains", "[I", true)
  | 1 => ("CommaCopies$Hiding", "row", "[I", true)
  | 2 => ("CommaCopies$Hiding", "best", "[I", true)
  | _ => ("CommaCopies$Hiding", "least", "I", false)
def tyX1 : Nat → FieldType := fun k => match k with
  | 0 => .array .int
  | 1 => .array .int
  | 2 => .array .int
  | _ => .int
theorem nmX1 : ∀ a, a < 4 → ∀ b, b < 4 → a ≠ b → (TX1 a).2.1 ≠ (TX1 b).2.1 := by decide +kernel
theorem tyX1_ok : ∀ k, k < 4 → parseFieldDescriptor (TX1 k).2.2.1 = some (tyX1 k) := by decide +kernel
def RX2 : String := "CommaCopies$Joins"
def TX2 : u_T := fun k => match k with
  | 0 => ("CommaCopies$Joins", "rowBits", "[I", true)
  | 1 => ("CommaCopies$Joins", "sets", "[I", true)
  | 2 => ("CommaCopies$Joins", "unions", "[I", true)
  | 3 => ("CommaCopies$Joins", "cans", "[I", true)
  | 4 => ("CommaCopies$Joins", "size", "I", false)
  | 5 => ("CommaCopies$Joins", "copies", "I", false)
  | 6 => ("CommaCopies$Joins", "most", "I", false)
  | 7 => ("CommaCopies$Joins", "how", "I", false)
  | 8 => ("CommaCopies$Joins", "ones", "I", false)
  | 9 => ("CommaCopies$Joins", "anyBits", "I", false)
  | 10 => ("CommaCopies$Joins", "mendBits", "I", false)
  | 11 => ("CommaCopies$Joins", "sure", "I", false)
  | 12 => ("CommaCopies$Joins", "maybe", "I", false)
  | _ => ("CommaCopies$Joins", "found", "I", false)
def tyX2 : Nat → FieldType := fun k => match k with
  | 0 => .array .int
  | 1 => .array .int
  | 2 => .array .int
  | 3 => .array .int
  | 4 => .int
  | 5 => .int
  | 6 => .int
  | 7 => .int
  | 8 => .int
  | 9 => .int
  | 10 => .int
  | 11 => .int
  | 12 => .int
  | _ => .int
theorem nmX2 : ∀ a, a < 14 → ∀ b, b < 14 → a ≠ b → (TX2 a).2.1 ≠ (TX2 b).2.1 := by decide +kernel
theorem tyX2_ok : ∀ k, k < 14 → parseFieldDescriptor (TX2 k).2.2.1 = some (tyX2 k) := by decide +kernel
def RX3 : String := "CommaCopies$Laws"
def TX3 : u_T := fun k => match k with
  | 0 => ("CommaCopies$Laws", "joins", "LCommaCopies$Joins;", true)
  | 1 => ("CommaCopies$Laws", "row", "[I", true)
  | 2 => ("CommaCopies$Laws", "canLow", "[J", true)
  | 3 => ("CommaCopies$Laws", "canHigh", "[J", true)
  | 4 => ("CommaCopies$Laws", "withLow", "[J", true)
  | 5 => ("CommaCopies$Laws", "withHigh", "[J", true)
  | 6 => ("CommaCopies$Laws", "first", "I", false)
  | _ => ("CommaCopies$Laws", "second", "I", false)
def tyX3 : Nat → FieldType := fun k => match k with
  | 0 => .object "CommaCopies$Joins"
  | 1 => .array .int
  | 2 => .array .long
  | 3 => .array .long
  | 4 => .array .long
  | 5 => .array .long
  | 6 => .int
  | _ => .int
theorem nmX3 : ∀ a, a < 8 → ∀ b, b < 8 → a ≠ b → (TX3 a).2.1 ≠ (TX3 b).2.1 := by decide +kernel
theorem tyX3_ok : ∀ k, k < 8 → parseFieldDescriptor (TX3 k).2.2.1 = some (tyX3 k) := by decide +kernel
def RX4 : String := "CommaCopies$Letter"
def TX4 : u_T := fun k => match k with
  | 0 => ("CommaCopies$Letter", "bytes", "[B", true)
  | 1 => ("CommaCopies$Letter", "choiceCounts", "[I", true)
  | 2 => ("CommaCopies$Letter", "starts", "[I", true)
  | 3 => ("CommaCopies$Letter", "ends", "[I", true)
  | 4 => ("CommaCopies$Letter", "there", "Z", false)
  | 5 => ("CommaCopies$Letter", "length", "I", false)
  | _ => ("CommaCopies$Letter", "places", "I", false)
def tyX4 : Nat → FieldType := fun k => match k with
  | 0 => .array .byte
  | 1 => .array .int
  | 2 => .array .int
  | 3 => .array .int
  | 4 => .boolean
  | 5 => .int
  | _ => .int
theorem nmX4 : ∀ a, a < 7 → ∀ b, b < 7 → a ≠ b → (TX4 a).2.1 ≠ (TX4 b).2.1 := by decide +kernel
theorem tyX4_ok : ∀ k, k < 7 → parseFieldDescriptor (TX4 k).2.2.1 = some (tyX4 k) := by decide +kernel
def RX5 : String := "CommaCopies$Matcher"
def TX5 : u_T := fun k => match k with
  | _ => ("CommaCopies$Matcher", "picks", "[I", true)
def tyX5 : Nat → FieldType := fun k => match k with
  | _ => .array .int
theorem nmX5 : ∀ a, a < 1 → ∀ b, b < 1 → a ≠ b → (TX5 a).2.1 ≠ (TX5 b).2.1 := by decide +kernel
theorem tyX5_ok : ∀ k, k < 1 → parseFieldDescriptor (TX5 k).2.2.1 = some (tyX5 k) := by decide +kernel
def RX6 : String := "CommaCopies$Sheets"
def TX6 : u_T := fun k => match k with
  | 0 => ("CommaCopies$Sheets", "lanes", "[I", true)
  | 1 => ("CommaCopies$Sheets", "lengths", "[I", true)
  | _ => ("CommaCopies$Sheets", "items", "[I", true)
def tyX6 : Nat → FieldType := fun k => match k with
  | 0 => .array .int
  | 1 => .array .int
  | _ => .array .int
theorem nmX6 : ∀ a, a < 3 → ∀ b, b < 3 → a ≠ b → (TX6 a).2.1 ≠ (TX6 b).2.1 := by decide +kernel
theorem tyX6_ok : ∀ k, k < 3 → parseFieldDescriptor (TX6 k).2.2.1 = some (tyX6 k) := by decide +kernel
def RX7 : String := "CommaCopies$State"
def TX7 : u_T := fun k => match k with
  | 0 => ("CommaCopies$State", "letter", "LCommaCopies$Letter;", true)
  | 1 => ("CommaCopies$State", "costs", "[I", true)
  | 2 => ("CommaCopies$State", "mends", "[I", true)
  | 3 => ("CommaCopies$State", "rows", "[I", true)
  | 4 => ("CommaCopies$State", "printValues", "[I", true)
  | 5 => ("CommaCopies$State", "pasts", "[I", true)
  | 6 => ("CommaCopies$State", "pastMost", "[I", true)
  | 7 => ("CommaCopies$State", "pastHow", "[I", true)
  | 8 => ("CommaCopies$State", "tally", "[I", true)
  | 9 => ("CommaCopies$State", "copies", "I", false)
  | 10 => ("CommaCopies$State", "pastCount", "I", false)
  | 11 => ("CommaCopies$State", "most", "I", false)
  | _ => ("CommaCopies$State", "how", "I", false)
def tyX7 : Nat → FieldType := fun k => match k with
  | 0 => .object "CommaCopies$Letter"
  | 1 => .array .int
  | 2 => .array .int
  | 3 => .array .int
  | 4 => .array .int
  | 5 => .array .int
  | 6 => .array .int
  | 7 => .array .int
  | 8 => .array .int
  | 9 => .int
  | 10 => .int
  | 11 => .int
  | _ => .int
theorem nmX7 : ∀ a, a < 13 → ∀ b, b < 13 → a ≠ b → (TX7 a).2.1 ≠ (TX7 b).2.1 := by decide +kernel
theorem tyX7_ok : ∀ k, k < 13 → parseFieldDescriptor (TX7 k).2.2.1 = some (tyX7 k) := by decide +kernel
def RX8 : String := "CommaCopies$Tape"
def TX8 : u_T := fun k => match k with
  | 0 => ("CommaCopies$Tape", "bytes", "[B", true)
  | _ => ("CommaCopies$Tape", "length", "I", false)
def tyX8 : Nat → FieldType := fun k => match k with
  | 0 => .array .byte
  | _ => .int
theorem nmX8 : ∀ a, a < 2 → ∀ b, b < 2 → a ≠ b → (TX8 a).2.1 ≠ (TX8 b).2.1 := by decide +kernel
theorem tyX8_ok : ∀ k, k < 2 → parseFieldDescriptor (TX8 k).2.2.1 = some (tyX8 k) := by decide +kernel
def RX9 : String := "CommaCopies"
def TX9 : u_T := fun k => match k with
  | 0 => ("CommaCopies", "tape", "LCommaCopies$Tape;", true)
  | 1 => ("CommaCopies", "now", "LCommaCopies$State;", true)
  | 2 => ("CommaCopies", "kept", "LCommaCopies$State;", true)
  | 3 => ("CommaCopies", "sheets", "LCommaCopies$Sheets;", true)
  | 4 => ("CommaCopies", "laws", "LCommaCopies$Laws;", true)
  | 5 => ("CommaCopies", "joins", "LCommaCopies$Joins;", true)
  | 6 => ("CommaCopies", "matcher", "LCommaCopies$Matcher;", true)
  | 7 => ("CommaCopies", "chance", "LCommaCopies$Chance;", true)
  | 8 => ("CommaCopies", "hiding", "LCommaCopies$Hiding;", true)
  | 9 => ("CommaCopies", "scratchRow", "[I", true)
  | _ => ("CommaCopies", "imaged", "Z", false)
def tyX9 : Nat → FieldType := fun k => match k with
  | 0 => .object "CommaCopies$Tape"
  | 1 => .object "CommaCopies$State"
  | 2 => .object "CommaCopies$State"
  | 3 => .object "CommaCopies$Sheets"
  | 4 => .object "CommaCopies$Laws"
  | 5 => .object "CommaCopies$Joins"
  | 6 => .object "CommaCopies$Matcher"
  | 7 => .object "CommaCopies$Chance"
  | 8 => .object "CommaCopies$Hiding"
  | 9 => .array .int
  | _ => .boolean
theorem nmX9 : ∀ a, a < 11 → ∀ b, b < 11 → a ≠ b → (TX9 a).2.1 ≠ (TX9 b).2.1 := by decide +kernel
theorem tyX9_ok : ∀ k, k < 11 → parseFieldDescriptor (TX9 k).2.2.1 = some (tyX9 k) := by decide +kernel
def RX10 : String := "CommaCopiesModel"
def TX10 : u_T := fun k => match k with
  | 0 => ("CommaCopiesModel", "tape", "[I", true)
  | 1 => ("CommaCopiesModel", "taped", "I", false)
  | 2 => ("CommaCopiesModel", "size", "I", false)
  | 3 => ("CommaCopiesModel", "text", "[I", true)
  | 4 => ("CommaCopiesModel", "places", "I", false)
  | 5 => ("CommaCopiesModel", "openAt", "[I", true)
  | 6 => ("CommaCopiesModel", "closeAt", "[I", true)
  | 7 => ("CommaCopiesModel", "choiceMany", "[I", true)
  | 8 => ("CommaCopiesModel", "choiceAt", "[I", true)
  | 9 => ("CommaCopiesModel", "choiceEnd", "[I", true)
  | 10 => ("CommaCopiesModel", "costs", "[I", true)
  | 11 => ("CommaCopiesModel", "mendTo", "[I", true)
  | 12 => ("CommaCopiesModel", "copies", "I", false)
  | 13 => ("CommaCopiesModel", "rows", "[I", true)
  | 14 => ("CommaCopiesModel", "most", "I", false)
  | 15 => ("CommaCopiesModel", "how", "I", false)
  | 16 => ("CommaCopiesModel", "print", "[I", true)
  | 17 => ("CommaCopiesModel", "pasts", "I", false)
  | 18 => ("CommaCopiesModel", "pastParts", "[I", true)
  | 19 => ("CommaCopiesModel", "read", "[I", true)
  | 20 => ("CommaCopiesModel", "sets", "[I", true)
  | 21 => ("CommaCopiesModel", "setMany", "I", false)
  | 22 => ("CommaCopiesModel", "row", "[I", true)
  | 23 => ("CommaCopiesModel", "cans", "[I", true)
  | 24 => ("CommaCopiesModel", "breachSet", "I", false)
  | 25 => ("CommaCopiesModel", "breachOther", "I", false)
  | 26 => ("CommaCopiesModel", "named", "I", false)
  | 27 => ("CommaCopiesModel", "byScore", "[I", true)
  | 28 => ("CommaCopiesModel", "stands", "[I", true)
  | 29 => ("CommaCopiesModel", "best", "[I", true)
  | 30 => ("CommaCopiesModel", "image", "[I", true)
  | 31 => ("CommaCopiesModel", "kept", "Z", false)
  | 32 => ("CommaCopiesModel", "lanes", "[I", true)
  | 33 => ("CommaCopiesModel", "sizes", "[I", true)
  | 34 => ("CommaCopiesModel", "items", "[I", true)
  | _ => ("CommaCopiesModel", "moved", "[I", true)
def tyX10 : Nat → FieldType := fun k => match k with
  | 0 => .array .int
  | 1 => .int
  | 2 => .int
  | 3 => .array .int
  | 4 => .int
  | 5 => .array .int
  | 6 => .array .int
  | 7 => .array .int
  | 8 => .array .int
  | 9 => .array .int
  | 10 => .array .int
  | 11 => .array .int
  | 12 => .int
  | 13 => .array .int
  | 14 => .int
  | 15 => .int
  | 16 => .array .int
  | 17 => .int
  | 18 => .array .int
  | 19 => .array .int
  | 20 => .array .int
  | 21 => .int
  | 22 => .array .int
  | 23 => .array .int
  | 24 => .int
  | 25 => .int
  | 26 => .int
  | 27 => .array .int
  | 28 => .array .int
  | 29 => .array .int
  | 30 => .array .int
  | 31 => .boolean
  | 32 => .array .int
  | 33 => .array .int
  | 34 => .array .int
  | _ => .array .int
theorem nmX10 : ∀ a, a < 36 → ∀ b, b < 36 → a ≠ b → (TX10 a).2.1 ≠ (TX10 b).2.1 := by decide +kernel
theorem tyX10_ok : ∀ k, k < 36 → parseFieldDescriptor (TX10 k).2.2.1 = some (tyX10 k) := by decide +kernel
def RJ6 : String := "java/lang/Integer"
def RJ9 : String := "java/lang/Math"
def RJ10 : String := "java/lang/System"
def RJ7 : String := "java/util/Arrays"
abbrev vwCl : List vw_C := [(RX0, TX0, 1), (RX1, TX1, 4), (RX2, TX2, 14), (RX3, TX3, 8), (RX4, TX4, 7), (RX5, TX5, 1), (RX6, TX6, 3), (RX7, TX7, 13), (RX8, TX8, 2), (RX9, TX9, 11), (RX10, TX10, 36)]
def zRN : List String := ["CommaCopies$Chance", "CommaCopies$Hiding", "CommaCopies$Joins", "CommaCopies$Laws", "CommaCopies$Letter", "CommaCopies$Matcher", "CommaCopies$Sheets", "CommaCopies$State", "CommaCopies$Tape", "CommaCopies", "CommaCopiesModel", "java/lang/Integer", "java/lang/Math", "java/util/Arrays"]
end
section
/-- an array: its type (0 int, 1 byte, 2 long) and length; an object: its class, and of each field the cell that it refers to, or none -/
abbrev zSh : Type := (Nat × Nat) ⊕ (Nat × List (Option Nat))
def zSHL : List zSh := [.inr (9, [some 2, some 4, some 18, some 32, some 36, some 42, some 47, some 49, some 51, some 1, none]),
  .inl (0, 6),
  .inr (8, [some 3, none]),
  .inl (1, 120),
  .inr (7, [some 13, some 5, some 6, some 7, some 8, some 9, some 10, some 11, some 12, none, none, none, none]),
  .inl (0, 24),
  .inl (0, 6),
  .inl (0, 48),
  .inl (0, 6),
  .inl (0, 36),
  .inl (0, 6),
  .inl (0, 6),
  .inl (0, 4),
  .inr (4, [some 14, some 15, some 16, some 17, none, none, none]),
  .inl (1, 120),
  .inl (0, 6),
  .inl (0, 24),
  .inl (0, 24),
  .inr (7, [some 27, some 19, some 20, some 21, some 22, some 23, some 24, some 25, some 26, none, none, none, none]),
  .inl (0, 24),
  .inl (0, 6),
  .inl (0, 48),
  .inl (0, 6),
  .inl (0, 36),
  .inl (0, 6),
  .inl (0, 6),
  .inl (0, 4),
  .inr (4, [some 28, some 29, some 30, some 31, none, none, none]),
  .inl (1, 120),
  .inl (0, 6),
  .inl (0, 24),
  .inl (0, 24),
  .inr (6, [some 33, some 34, some 35]),
  .inl (0, 4),
  .inl (0, 4),
  .inl (0, 48),
  .inr (3, [some 42, some 37, some 38, some 39, some 40, some 41, none, none]),
  .inl (0, 6),
  .inl (2, 30),
  .inl (2, 30),
  .inl (2, 8),
  .inl (2, 8),
  .inr (2, [some 43, some 44, some 45, some 46, none, none, none, none, none, none, none, none, none, none]),
  .inl (0, 8),
  .inl (0, 92),
  .inl (0, 92),
  .inl (0, 92),
  .inr (5, [some 48]),
  .inl (0, 847),
  .inr (0, [some 50]),
  .inl (0, 7),
  .inr (1, [some 52, some 53, some 54, none]),
  .inl (0, 30),
  .inl (0, 6),
  .inl (0, 6),
  .inr (10, [some 56, none, none, some 57, none, some 58, some 59, some 60, some 61, some 62, some 63, some 64, none, some 65, none, none, some 66, none, some 67, some 68, some 69, none, some 70, some 71, none, none, none, some 72, some 73, some 74, some 75, none, some 76, some 77, some 78, some 79]),
  .inl (0, 120),
  .inl (0, 120),
  .inl (0, 6),
  .inl (0, 6),
  .inl (0, 6),
  .inl (0, 24),
  .inl (0, 24),
  .inl (0, 24),
  .inl (0, 6),
  .inl (0, 48),
  .inl (0, 6),
  .inl (0, 48),
  .inl (0, 240),
  .inl (0, 92),
  .inl (0, 6),
  .inl (0, 552),
  .inl (0, 8),
  .inl (0, 4),
  .inl (0, 6),
  .inl (0, 480),
  .inl (0, 4),
  .inl (0, 4),
  .inl (0, 48),
  .inl (0, 12)]
/-- pc, instruction, length, a number, a place (target; class; callee), a count (field; arguments), the place of its link -/
abbrev zEnt : Type := Nat × Instr × Nat × Int × Nat × Nat × Nat
/-- a method: name, bytes, locals, type of its answer, static, its class, the places of its words (code, kind, selects, initialized), code -/
abbrev zMI : Type := MethodName × ByteArray × Nat × Option FieldType × Bool × Nat × (Nat × Nat × Nat × Nat) × List zEnt
/-- own class, index, class of the field, field, nest, place -/
def zFT : List (Nat × Nat × Nat × Nat × Bool × Nat × Nat) := [(0, 9, 0, 0, false, 367, 0), (0, 21, 7, 0, true, 179, 0), (0, 27, 4, 6, true, 157, 1), (0, 33, 7, 4, true, 191, 0), (0, 36, 4, 1, true, 142, 0), (1, 9, 1, 0, false, 377, 0), (1, 27, 2, 5, true, 276, 1), (1, 33, 2, 0, true, 266, 0), (1, 40, 1, 3, false, 381, 1), (1, 15, 1, 1, false, 378, 0), (1, 18, 1, 2, false, 379, 0), (2, 24, 2, 6, false, 279, 1), (2, 28, 2, 7, false, 281, 1), (2, 31, 7, 9, true, 200, 1), (2, 36, 2, 5, false, 277, 1), (2, 37, 2, 8, false, 282, 1), (2, 40, 2, 9, false, 284, 1), (2, 43, 2, 10, false, 285, 1), (2, 46, 7, 0, true, 180, 0), (2, 50, 4, 6, true, 158, 1), (2, 55, 4, 1, true, 143, 0), (2, 58, 7, 2, true, 185, 0), (2, 9, 2, 0, false, 265, 0), (2, 61, 7, 3, true, 188, 0), (2, 68, 2, 4, false, 275, 1), (2, 15, 2, 1, false, 268, 0), (2, 18, 2, 2, false, 270, 0), (2, 21, 2, 3, false, 272, 0), (2, 84, 2, 13, false, 290, 1), (2, 87, 2, 11, false, 286, 1), (2, 90, 2, 12, false, 288, 1), (3, 12, 3, 0, false, 321, 0), (3, 46, 2, 4, true, 274, 1), (3, 60, 2, 1, true, 269, 0), (3, 63, 2, 3, true, 273, 0), (3, 70, 3, 6, false, 329, 1), (3, 73, 3, 7, false, 331, 1), (3, 76, 2, 5, true, 278, 1), (3, 79, 2, 0, true, 267, 0), (3, 22, 3, 2, false, 325, 0), (3, 26, 3, 3, false, 326, 0), (3, 29, 3, 4, false, 327, 0), (3, 32, 3, 5, false, 328, 0), (3, 18, 3, 1, false, 323, 0), (3, 121, 2, 6, true, 280, 1), (3, 124, 2, 2, true, 271, 0), (3, 127, 2, 8, true, 283, 1), (4, 25, 4, 4, false, 151, 2), (4, 29, 4, 6, false, 159, 1), (4, 33, 4, 5, false, 154, 1), (4, 9, 4, 0, false, 139, 0), (4, 19, 4, 2, false, 147, 0), (4, 22, 4, 3, false, 149, 0), (4, 15, 4, 1, false, 141, 0), (5, 15, 4, 6, true, 156, 1), (5, 11, 5, 0, false, 357, 0), (5, 40, 4, 1, true, 144, 0), (5, 43, 4, 2, true, 148, 0), (5, 46, 4, 3, true, 150, 0), (5, 49, 4, 0, true, 140, 0), (6, 11, 6, 0, false, 242, 0), (6, 15, 6, 1, false, 243, 0), (6, 18, 6, 2, false, 244, 0), (7, 12, 7, 0, false, 178, 0), (7, 50, 8, 0, true, 116, 0), (7, 56, 8, 1, true, 118, 1), (7, 18, 7, 1, false, 182, 0), (7, 22, 7, 2, false, 184, 0), (7, 28, 7, 4, false, 190, 0), (7, 69, 7, 9, false, 201, 1), (7, 72, 7, 10, false, 203, 1), (7, 25, 7, 3, false, 187, 0), (7, 31, 7, 5, false, 193, 0), (7, 34, 7, 6, false, 195, 0), (7, 37, 7, 7, false, 197, 0), (7, 43, 7, 11, false, 205, 1), (7, 47, 7, 12, false, 207, 1), (7, 85, 4, 4, true, 152, 2), (7, 89, 4, 6, true, 161, 1), (7, 40, 7, 8, false, 199, 0), (7, 99, 4, 1, true, 146, 0), (8, 19, 8, 1, false, 119, 1), (8, 9, 8, 0, false, 115, 0), (9, 12, 9, 0, false, 392, 0), (9, 78, 8, 0, true, 117, 0), (9, 82, 8, 1, true, 120, 1), (9, 19, 9, 1, false, 393, 0), (9, 96, 7, 0, true, 181, 0), (9, 100, 4, 6, true, 160, 1), (9, 107, 4, 1, true, 145, 0), (9, 114, 7, 1, true, 183, 0), (9, 117, 7, 2, true, 186, 0), (9, 29, 9, 3, false, 395, 0), (9, 124, 6, 2, true, 245, 0), (9, 134, 7, 3, true, 189, 0), (9, 137, 7, 9, true, 202, 1), (9, 154, 7, 11, true, 206, 1), (9, 157, 7, 12, true, 208, 1), (9, 160, 7, 10, true, 204, 1), (9, 163, 4, 5, true, 155, 1), (9, 168, 2, 13, true, 291, 1), (9, 177, 7, 4, true, 192, 0), (9, 180, 4, 4, true, 153, 2), (9, 48, 9, 6, false, 398, 0), (9, 44, 9, 5, false, 397, 0), (9, 206, 2, 11, true, 287, 1), (9, 209, 2, 12, true, 289, 1), (9, 36, 9, 4, false, 396, 0), (9, 220, 3, 1, true, 324, 0), (9, 223, 3, 6, true, 330, 1), (9, 226, 3, 7, true, 332, 1), (9, 66, 9, 9, false, 401, 0), (9, 55, 9, 7, false, 399, 0), (9, 62, 9, 8, false, 400, 0), (9, 275, 1, 3, true, 382, 1), (9, 278, 1, 2, true, 380, 0), (9, 284, 7, 6, true, 196, 0), (9, 287, 7, 7, true, 198, 0), (9, 294, 7, 5, true, 194, 0), (9, 23, 9, 2, false, 394, 0), (9, 70, 9, 10, false, 402, 2), (10, 98, 10, 1, false, 902, 1), (10, 7, 10, 0, false, 901, 0), (10, 101, 10, 2, false, 903, 1), (10, 104, 10, 4, false, 905, 1), (10, 13, 10, 3, false, 904, 0), (10, 16, 10, 5, false, 906, 0), (10, 22, 10, 7, false, 908, 0), (10, 25, 10, 8, false, 909, 0), (10, 28, 10, 9, false, 910, 0), (10, 19, 10, 6, false, 907, 0), (10, 31, 10, 10, false, 911, 0), (10, 44, 10, 16, false, 917, 0), (10, 34, 10, 11, false, 912, 0), (10, 114, 10, 12, false, 913, 1), (10, 117, 10, 17, false, 918, 1), (10, 80, 10, 34, false, 935, 0), (10, 37, 10, 13, false, 914, 0), (10, 50, 10, 19, false, 920, 0), (10, 40, 10, 14, false, 915, 1), (10, 155, 10, 15, false, 916, 1), (10, 165, 10, 21, false, 922, 1), (10, 53, 10, 20, false, 921, 0), (10, 56, 10, 22, false, 923, 0), (10, 59, 10, 23, false, 924, 0), (10, 196, 10, 24, false, 925, 1), (10, 199, 10, 25, false, 926, 1), (10, 202, 10, 26, false, 927, 1), (10, 62, 10, 27, false, 928, 0), (10, 65, 10, 28, false, 929, 0), (10, 68, 10, 29, false, 930, 0), (10, 47, 10, 18, false, 919, 0), (10, 71, 10, 30, false, 931, 0), (10, 251, 10, 31, false, 932, 2), (10, 74, 10, 32, false, 933, 0), (10, 77, 10, 33, false, 934, 0), (10, 83, 10, 35, false, 936, 0)]
/-- own class, index, callee, nest, place -/
def zCT : List (Nat × Nat × Nat × Bool × Nat) := [(0, 15, 182, false, 764), (0, 39, 1, false, 769), (0, 43, 3, false, 773), (1, 21, 182, false, 820), (1, 36, 6, false, 821), (1, 43, 12, true, 825), (1, 47, 7, false, 826), (1, 51, 8, false, 830), (1, 54, 9999, false, 834), (1, 60, 9998, false, 833), (2, 64, 60, true, 560), (2, 71, 180, false, 568), (2, 77, 11, false, 574), (2, 80, 13, false, 578), (3, 35, 17, false, 674), (3, 39, 19, false, 677), (3, 43, 21, false, 685), (3, 50, 18, false, 698), (3, 54, 26, false, 702), (3, 66, 20, false, 681), (3, 82, 22, false, 689), (3, 86, 23, false, 693), (3, 92, 181, false, 660), (3, 98, 25, false, 663), (3, 102, 27, false, 706), (3, 106, 29, false, 738), (3, 109, 13, true, 742), (3, 112, 30, false, 743), (3, 116, 180, false, 747), (4, 36, 9999, false, 452), (4, 42, 34, false, 474), (4, 46, 37, false, 524), (4, 50, 38, false, 528), (4, 53, 9998, false, 731), (5, 21, 43, false, 604), (5, 25, 38, true, 609), (5, 29, 37, true, 608), (5, 32, 44, false, 613), (5, 36, 45, false, 610), (6, 21, 46, false, 487), (6, 25, 47, false, 490), (6, 28, 51, false, 493), (6, 32, 9999, false, 894), (7, 59, 32, true, 448), (7, 63, 182, false, 455), (7, 75, 33, true, 855), (7, 79, 9999, false, 502), (7, 92, 35, true, 501), (7, 102, 68, false, 793), (7, 105, 65, false, 799), (7, 109, 67, false, 796), (8, 15, 70, false, 434), (9, 74, 69, true, 430), (9, 86, 31, true, 441), (9, 92, 54, true, 444), (9, 103, 34, true, 462), (9, 110, 35, true, 470), (9, 120, 50, true, 483), (9, 127, 58, true, 497), (9, 131, 56, true, 507), (9, 140, 9999, false, 515), (9, 146, 39, true, 520), (9, 150, 63, true, 536), (9, 164, 108, false, 548), (9, 173, 61, true, 588), (9, 183, 42, true, 600), (9, 187, 57, true, 620), (9, 190, 60, true, 583), (9, 193, 107, false, 552), (9, 196, 12, true, 624), (9, 199, 10, true, 564), (9, 202, 14, true, 632), (9, 212, 179, false, 644), (9, 217, 109, false, 652), (9, 229, 36, true, 666), (9, 232, 180, false, 718), (9, 235, 16, true, 670), (9, 238, 40, true, 723), (9, 241, 41, true, 727), (9, 245, 28, true, 734), (9, 248, 62, true, 752), (9, 251, 0, true, 760), (9, 255, 2, true, 765), (9, 258, 4, true, 780), (9, 261, 64, true, 788), (9, 264, 67, true, 803), (9, 267, 66, true, 808), (9, 271, 5, true, 816), (9, 281, 59, true, 839), (9, 290, 9, true, 556), (9, 297, 15, true, 584), (9, 301, 55, true, 851), (9, 304, 48, true, 867), (9, 308, 49, true, 875), (9, 311, 52, true, 883), (9, 314, 53, true, 890), (9, 318, 24, true, 656), (10, 88, 110, false, 1015), (10, 107, 112, false, 1025), (10, 111, 113, false, 1029), (10, 120, 115, false, 1037), (10, 124, 116, false, 1045), (10, 130, 172, false, 1058), (10, 133, 173, false, 1062), (10, 136, 174, false, 1066), (10, 140, 121, false, 1074), (10, 143, 124, false, 1086), (10, 147, 126, false, 1094), (10, 158, 129, false, 1114), (10, 161, 130, false, 1121), (10, 168, 132, false, 1110), (10, 172, 131, false, 1117), (10, 177, 133, false, 1106), (10, 183, 137, false, 1135), (10, 186, 136, false, 1139), (10, 190, 139, false, 1147), (10, 193, 143, false, 1163), (10, 205, 149, false, 1190), (10, 208, 145, false, 1174), (10, 211, 146, false, 1178), (10, 214, 147, false, 1182), (10, 217, 148, false, 1186), (10, 220, 150, false, 1170), (10, 223, 154, false, 1206), (10, 227, 156, false, 1214), (10, 233, 158, false, 1223), (10, 236, 159, false, 1227), (10, 242, 162, false, 1240), (10, 247, 168, false, 1266), (10, 255, 169, false, 1273)]
/-- CommaCopies$Chance.spread(LCommaCopies$State;)V -/
def zc0 : List zEnt := [(0, .aload_n 0, 1, 0, 0, 0, 0), (1, .getfield 9, 3, 0, 0, 0, 0), (4, .iconst 0, 1, 0, 0, 0, 0), (5, .invokestatic 15, 3, 0, 182, 2, 0), (8, .aload_n 0, 1, 0, 0, 0, 0), (9, .getfield 9, 3, 0, 0, 0, 0), (12, .iconst 0, 1, 0, 0, 0, 0), (13, .iconst 1, 1, 0, 0, 0, 0), (14, .iastore, 1, 0, 0, 0, 0), (15, .iconst 0, 1, 0, 0, 0, 0), (16, .istore_n 2, 1, 0, 0, 0, 0), (17, .iload_n 2, 1, 0, 0, 0, 0), (18, .aload_n 1, 1, 0, 0, 0, 0), (19, .getfield 21, 3, 0, 7, 0, 1), (22, .getfield 27, 3, 1, 4, 6, 2), (25, .if_icmp .ge 93, 3, 0, 118, 0, 0), (28, .aload_n 1, 1, 0, 0, 0, 0), (29, .getfield 33, 3, 0, 7, 4, 3), (32, .iload_n 2, 1, 0, 0, 0, 0), (33, .iaload, 1, 0, 0, 0, 0), (34, .iconst 4, 1, 0, 0, 0, 0), (35, .if_icmp .ge 7, 3, 0, 42, 0, 0), (38, .iconst 1, 1, 0, 0, 0, 0), (39, .goto 4, 3, 0, 43, 0, 0), (42, .iconst 0, 1, 0, 0, 0, 0), (43, .istore_n 3, 1, 0, 0, 0, 0), (44, .aload_n 1, 1, 0, 0, 0, 0), (45, .getfield 21, 3, 0, 7, 0, 1), (48, .getfield 36, 3, 0, 4, 1, 4), (51, .iload_n 2, 1, 0, 0, 0, 0), (52, .iaload, 1, 0, 0, 0, 0), (53, .iload_n 3, 1, 0, 0, 0, 0), (54, .isub, 1, 0, 0, 0, 0), (55, .istore 4, 2, 0, 0, 0, 0), (57, .bipush 6, 2, 0, 0, 0, 0), (59, .istore 5, 2, 0, 0, 0, 0), (61, .iload 5, 2, 0, 0, 0, 0), (63, .ifCond .le 38, 3, 0, 101, 0, 0), (66, .aload_n 0, 1, 0, 0, 0, 0), (67, .getfield 9, 3, 0, 0, 0, 0), (70, .iload 5, 2, 0, 0, 0, 0), (72, .aload_n 0, 1, 0, 0, 0, 0), (73, .getfield 9, 3, 0, 0, 0, 0), (76, .iload 5, 2, 0, 0, 0, 0), (78, .iaload, 1, 0, 0, 0, 0), (79, .iload 4, 2, 0, 0, 0, 0), (81, .imul, 1, 0, 0, 0, 0), (82, .aload_n 0, 1, 0, 0, 0, 0), (83, .getfield 9, 3, 0, 0, 0, 0), (86, .iload 5, 2, 0, 0, 0, 0), (88, .iconst 1, 1, 0, 0, 0, 0), (89, .isub, 1, 0, 0, 0, 0), (90, .iaload, 1, 0, 0, 0, 0), (91, .iload_n 3, 1, 0, 0, 0, 0), (92, .imul, 1, 0, 0, 0, 0), (93, .iadd, 1, 0, 0, 0, 0), (94, .iastore, 1, 0, 0, 0, 0), (95, .iinc 5 (-1), 3, 0, 0, 0, 0), (98, .goto (-37), 3, 0, 61, 0, 0), (101, .aload_n 0, 1, 0, 0, 0, 0), (102, .getfield 9, 3, 0, 0, 0, 0), (105, .iconst 0, 1, 0, 0, 0, 0), (106, .dup2, 1, 0, 0, 0, 0), (107, .iaload, 1, 0, 0, 0, 0), (108, .iload 4, 2, 0, 0, 0, 0), (110, .imul, 1, 0, 0, 0, 0), (111, .iastore, 1, 0, 0, 0, 0), (112, .iinc 2 1, 3, 0, 0, 0, 0), (115, .goto (-98), 3, 0, 17, 0, 0), (118, .return_, 1, 0, 0, 0, 0)]
def zm0 : zMI := (⟨"CommaCopies$Chance", "spread", "(LCommaCopies$State;)V"⟩, prog_2_method_2_code, 6, (Option.none : Option Jvm.ClassFile.FieldType), false, 0, (763, 762, 43, 94), zc0)
/-- CommaCopies$Chance.atLeast(I)I -/
def zc1 : List zEnt := [(0, .iconst 0, 1, 0, 0, 0, 0), (1, .istore_n 2, 1, 0, 0, 0, 0), (2, .iload_n 1, 1, 0, 0, 0, 0), (3, .istore_n 3, 1, 0, 0, 0, 0), (4, .iload_n 3, 1, 0, 0, 0, 0), (5, .bipush 6, 2, 0, 0, 0, 0), (7, .if_icmp .gt 18, 3, 0, 25, 0, 0), (10, .iload_n 2, 1, 0, 0, 0, 0), (11, .aload_n 0, 1, 0, 0, 0, 0), (12, .getfield 9, 3, 0, 0, 0, 0), (15, .iload_n 3, 1, 0, 0, 0, 0), (16, .iaload, 1, 0, 0, 0, 0), (17, .iadd, 1, 0, 0, 0, 0), (18, .istore_n 2, 1, 0, 0, 0, 0), (19, .iinc 3 1, 3, 0, 0, 0, 0), (22, .goto (-18), 3, 0, 4, 0, 0), (25, .iload_n 2, 1, 0, 0, 0, 0), (26, .ireturn, 1, 0, 0, 0, 0)]
def zm1 : zMI := (⟨"CommaCopies$Chance", "atLeast", "(I)I"⟩, prog_2_method_3_code, 4, (Option.some Jvm.ClassFile.FieldType.int), false, 0, (772, 771, 45, 94), zc1)
/-- CommaCopies$Chance.reduced(II)I -/
def zc2 : List zEnt := [(0, .aload_n 0, 1, 0, 0, 0, 0), (1, .iload_n 1, 1, 0, 0, 0, 0), (2, .invokevirtual 39, 3, 0, 1, 2, 1), (5, .istore_n 3, 1, 0, 0, 0, 0), (6, .aload_n 0, 1, 0, 0, 0, 0), (7, .iconst 0, 1, 0, 0, 0, 0), (8, .invokevirtual 39, 3, 0, 1, 2, 1), (11, .istore 4, 2, 0, 0, 0, 0), (13, .iload 4, 2, 0, 0, 0, 0), (15, .iload_n 3, 1, 0, 0, 0, 0), (16, .invokestatic 43, 3, 0, 3, 2, 2), (19, .istore 5, 2, 0, 0, 0, 0), (21, .iload 5, 2, 0, 0, 0, 0), (23, .iconst 1, 1, 0, 0, 0, 0), (24, .if_icmp .ge 6, 3, 0, 30, 0, 0), (27, .bipush (-4), 2, 0, 0, 0, 0), (29, .ireturn, 1, 0, 0, 0, 0), (30, .iload_n 2, 1, 0, 0, 0, 0), (31, .ifCond .ne 7, 3, 0, 38, 0, 0), (34, .iload_n 3, 1, 0, 0, 0, 0), (35, .goto 5, 3, 0, 40, 0, 0), (38, .iload 4, 2, 0, 0, 0, 0), (40, .iload 5, 2, 0, 0, 0, 0), (42, .idiv, 1, 0, 0, 0, 0), (43, .ireturn, 1, 0, 0, 0, 0)]
def zm2 : zMI := (⟨"CommaCopies$Chance", "reduced", "(II)I"⟩, prog_2_method_4_code, 6, (Option.some Jvm.ClassFile.FieldType.int), false, 0, (768, 767, 44, 94), zc2)
/-- CommaCopies$Chance.commonDivisor(II)I -/
def zc3 : List zEnt := [(0, .iload_n 0, 1, 0, 0, 0, 0), (1, .istore_n 2, 1, 0, 0, 0, 0), (2, .iload_n 1, 1, 0, 0, 0, 0), (3, .istore_n 3, 1, 0, 0, 0, 0), (4, .iconst 0, 1, 0, 0, 0, 0), (5, .istore 4, 2, 0, 0, 0, 0), (7, .iload 4, 2, 0, 0, 0, 0), (9, .bipush 64, 2, 0, 0, 0, 0), (11, .if_icmp .ge 23, 3, 0, 34, 0, 0), (14, .iload_n 3, 1, 0, 0, 0, 0), (15, .ifCond .le 19, 3, 0, 34, 0, 0), (18, .iload_n 2, 1, 0, 0, 0, 0), (19, .iload_n 3, 1, 0, 0, 0, 0), (20, .irem, 1, 0, 0, 0, 0), (21, .istore 5, 2, 0, 0, 0, 0), (23, .iload_n 3, 1, 0, 0, 0, 0), (24, .istore_n 2, 1, 0, 0, 0, 0), (25, .iload 5, 2, 0, 0, 0, 0), (27, .istore_n 3, 1, 0, 0, 0, 0), (28, .iinc 4 1, 3, 0, 0, 0, 0), (31, .goto (-24), 3, 0, 7, 0, 0), (34, .iload_n 2, 1, 0, 0, 0, 0), (35, .ireturn, 1, 0, 0, 0, 0)]
def zm3 : zMI := (⟨"CommaCopies$Chance", "commonDivisor", "(II)I"⟩, prog_2_method_5_code, 6, (Option.some Jvm.ClassFile.FieldType.int), true, 0, (775, 774, 0, 94), zc3)
/-- CommaCopies$Chance.leastBar(I)I -/
def zc4 : List zEnt := [(0, .aload_n 0, 1, 0, 0, 0, 0), (1, .iconst 0, 1, 0, 0, 0, 0), (2, .invokevirtual 39, 3, 0, 1, 2, 1), (5, .istore_n 2, 1, 0, 0, 0, 0), (6, .iconst 0, 1, 0, 0, 0, 0), (7, .istore_n 3, 1, 0, 0, 0, 0), (8, .iload_n 3, 1, 0, 0, 0, 0), (9, .bipush 6, 2, 0, 0, 0, 0), (11, .if_icmp .gt 22, 3, 0, 33, 0, 0), (14, .aload_n 0, 1, 0, 0, 0, 0), (15, .iload_n 3, 1, 0, 0, 0, 0), (16, .invokevirtual 39, 3, 0, 1, 2, 1), (19, .iload_n 1, 1, 0, 0, 0, 0), (20, .imul, 1, 0, 0, 0, 0), (21, .iload_n 2, 1, 0, 0, 0, 0), (22, .if_icmp .gt 5, 3, 0, 27, 0, 0), (25, .iload_n 3, 1, 0, 0, 0, 0), (26, .ireturn, 1, 0, 0, 0, 0), (27, .iinc 3 1, 3, 0, 0, 0, 0), (30, .goto (-22), 3, 0, 8, 0, 0), (33, .bipush (-4), 2, 0, 0, 0, 0), (35, .ireturn, 1, 0, 0, 0, 0)]
def zm4 : zMI := (⟨"CommaCopies$Chance", "leastBar", "(I)I"⟩, prog_2_method_6_code, 4, (Option.some Jvm.ClassFile.FieldType.int), false, 0, (783, 782, 46, 94), zc4)
/-- CommaCopies$Hiding.seek(LCommaCopies$Joins;II)V -/
def zc5 : List zEnt := [(0, .aload_n 0, 1, 0, 0, 0, 0), (1, .getfield 9, 3, 0, 1, 0, 5), (4, .iconst 0, 1, 0, 0, 0, 0), (5, .invokestatic 21, 3, 0, 182, 2, 3), (8, .iconst 0, 1, 0, 0, 0, 0), (9, .istore 4, 2, 0, 0, 0, 0), (11, .iload 4, 2, 0, 0, 0, 0), (13, .aload_n 1, 1, 0, 0, 0, 0), (14, .getfield 27, 3, 1, 2, 5, 6), (17, .if_icmp .ge 36, 3, 0, 53, 0, 0), (20, .iload_n 2, 1, 0, 0, 0, 0), (21, .iload 4, 2, 0, 0, 0, 0), (23, .ishr, 1, 0, 0, 0, 0), (24, .iconst 1, 1, 0, 0, 0, 0), (25, .iand, 1, 0, 0, 0, 0), (26, .iconst 1, 1, 0, 0, 0, 0), (27, .if_icmp .ne 20, 3, 0, 47, 0, 0), (30, .aload_n 0, 1, 0, 0, 0, 0), (31, .aload_n 1, 1, 0, 0, 0, 0), (32, .getfield 33, 3, 0, 2, 0, 7), (35, .iload 4, 2, 0, 0, 0, 0), (37, .iaload, 1, 0, 0, 0, 0), (38, .iconst 1, 1, 0, 0, 0, 0), (39, .iconst 4, 1, 0, 0, 0, 0), (40, .iload 4, 2, 0, 0, 0, 0), (42, .imul, 1, 0, 0, 0, 0), (43, .ishl, 1, 0, 0, 0, 0), (44, .invokevirtual 36, 3, 0, 6, 3, 4), (47, .iinc 4 1, 3, 0, 0, 0, 0), (50, .goto (-39), 3, 0, 11, 0, 0), (53, .aload_n 0, 1, 0, 0, 0, 0), (54, .bipush 7, 2, 0, 0, 0, 0), (56, .putfield 40, 3, 1, 1, 3, 8), (59, .aload_n 0, 1, 0, 0, 0, 0), (60, .iconst 0, 1, 0, 0, 0, 0), (61, .iload_n 3, 1, 0, 0, 0, 0), (62, .aload_n 1, 1, 0, 0, 0, 0), (63, .iload_n 2, 1, 0, 0, 0, 0), (64, .invokevirtual 43, 3, 0, 12, 2, 5), (67, .iconst 0, 1, 0, 0, 0, 0), (68, .invokevirtual 47, 3, 0, 7, 5, 6), (71, .return_, 1, 0, 0, 0, 0)]
def zm5 : zMI := (⟨"CommaCopies$Hiding", "seek", "(LCommaCopies$Joins;II)V"⟩, prog_3_method_2_code, 5, (Option.none : Option Jvm.ClassFile.FieldType), false, 1, (819, 818, 50, 95), zc5)
/-- CommaCopies$Hiding.addGains(II)V -/
def zc6 : List zEnt := [(0, .iconst 0, 1, 0, 0, 0, 0), (1, .istore_n 3, 1, 0, 0, 0, 0), (2, .iload_n 3, 1, 0, 0, 0, 0), (3, .aload_n 0, 1, 0, 0, 0, 0), (4, .getfield 9, 3, 0, 1, 0, 5), (7, .arraylength, 1, 0, 0, 0, 0), (8, .if_icmp .ge 28, 3, 0, 36, 0, 0), (11, .iload_n 1, 1, 0, 0, 0, 0), (12, .iload_n 3, 1, 0, 0, 0, 0), (13, .ishr, 1, 0, 0, 0, 0), (14, .iconst 1, 1, 0, 0, 0, 0), (15, .iand, 1, 0, 0, 0, 0), (16, .iconst 1, 1, 0, 0, 0, 0), (17, .if_icmp .ne 13, 3, 0, 30, 0, 0), (20, .aload_n 0, 1, 0, 0, 0, 0), (21, .getfield 9, 3, 0, 1, 0, 5), (24, .iload_n 3, 1, 0, 0, 0, 0), (25, .dup2, 1, 0, 0, 0, 0), (26, .iaload, 1, 0, 0, 0, 0), (27, .iload_n 2, 1, 0, 0, 0, 0), (28, .iadd, 1, 0, 0, 0, 0), (29, .iastore, 1, 0, 0, 0, 0), (30, .iinc 3 1, 3, 0, 0, 0, 0), (33, .goto (-31), 3, 0, 2, 0, 0), (36, .return_, 1, 0, 0, 0, 0)]
def zm6 : zMI := (⟨"CommaCopies$Hiding", "addGains", "(II)V"⟩, prog_3_method_3_code, 4, (Option.none : Option Jvm.ClassFile.FieldType), false, 1, (824, 823, 51, 95), zc6)
/-- CommaCopies$Hiding.walk(IIII)V -/
def zc7 : List zEnt := [(0, .iload 4, 2, 0, 0, 0, 0), (2, .invokestatic 51, 3, 0, 8, 1, 7), (5, .istore 5, 2, 0, 0, 0, 0), (7, .iload 5, 2, 0, 0, 0, 0), (9, .aload_n 0, 1, 0, 0, 0, 0), (10, .getfield 40, 3, 1, 1, 3, 8), (13, .if_icmp .lt 4, 3, 0, 17, 0, 0), (16, .return_, 1, 0, 0, 0, 0), (17, .iload_n 1, 1, 0, 0, 0, 0), (18, .iload_n 2, 1, 0, 0, 0, 0), (19, .if_icmp .ge 9, 3, 0, 28, 0, 0), (22, .iload_n 1, 1, 0, 0, 0, 0), (23, .bipush 6, 2, 0, 0, 0, 0), (25, .if_icmp .lt 25, 3, 0, 50, 0, 0), (28, .aload_n 0, 1, 0, 0, 0, 0), (29, .iload 5, 2, 0, 0, 0, 0), (31, .putfield 40, 3, 1, 1, 3, 8), (34, .aload_n 0, 1, 0, 0, 0, 0), (35, .getfield 15, 3, 0, 1, 1, 9), (38, .iconst 0, 1, 0, 0, 0, 0), (39, .aload_n 0, 1, 0, 0, 0, 0), (40, .getfield 18, 3, 0, 1, 2, 10), (43, .iconst 0, 1, 0, 0, 0, 0), (44, .bipush 6, 2, 0, 0, 0, 0), (46, .invokestatic 54, 3, 0, 9999, 5, 8), (49, .return_, 1, 0, 0, 0, 0), (50, .iconst 0, 1, 0, 0, 0, 0), (51, .istore 6, 2, 0, 0, 0, 0), (53, .iload 6, 2, 0, 0, 0, 0), (55, .iconst 5, 1, 0, 0, 0, 0), (56, .if_icmp .ge 54, 3, 0, 110, 0, 0), (59, .iload_n 1, 1, 0, 0, 0, 0), (60, .iconst 5, 1, 0, 0, 0, 0), (61, .imul, 1, 0, 0, 0, 0), (62, .iload 6, 2, 0, 0, 0, 0), (64, .iadd, 1, 0, 0, 0, 0), (65, .istore 7, 2, 0, 0, 0, 0), (67, .iload_n 3, 1, 0, 0, 0, 0), (68, .iload 7, 2, 0, 0, 0, 0), (70, .ishr, 1, 0, 0, 0, 0), (71, .iconst 1, 1, 0, 0, 0, 0), (72, .iand, 1, 0, 0, 0, 0), (73, .iconst 1, 1, 0, 0, 0, 0), (74, .if_icmp .ne 30, 3, 0, 104, 0, 0), (77, .aload_n 0, 1, 0, 0, 0, 0), (78, .getfield 15, 3, 0, 1, 1, 9), (81, .iload_n 1, 1, 0, 0, 0, 0), (82, .iload 6, 2, 0, 0, 0, 0), (84, .iastore, 1, 0, 0, 0, 0), (85, .aload_n 0, 1, 0, 0, 0, 0), (86, .iload_n 1, 1, 0, 0, 0, 0), (87, .iconst 1, 1, 0, 0, 0, 0), (88, .iadd, 1, 0, 0, 0, 0), (89, .iload_n 2, 1, 0, 0, 0, 0), (90, .iload_n 3, 1, 0, 0, 0, 0), (91, .iload 4, 2, 0, 0, 0, 0), (93, .aload_n 0, 1, 0, 0, 0, 0), (94, .getfield 9, 3, 0, 1, 0, 5), (97, .iload 7, 2, 0, 0, 0, 0), (99, .iaload, 1, 0, 0, 0, 0), (100, .iadd, 1, 0, 0, 0, 0), (101, .invokevirtual 47, 3, 0, 7, 5, 6), (104, .iinc 6 1, 3, 0, 0, 0, 0), (107, .goto (-54), 3, 0, 53, 0, 0), (110, .return_, 1, 0, 0, 0, 0)]
def zm7 : zMI := (⟨"CommaCopies$Hiding", "walk", "(IIII)V"⟩, prog_3_method_4_code, 8, (Option.none : Option Jvm.ClassFile.FieldType), false, 1, (829, 828, 52, 95), zc7)
/-- CommaCopies$Hiding.highest(I)I -/
def zc8 : List zEnt := [(0, .iconst 0, 1, 0, 0, 0, 0), (1, .istore_n 1, 1, 0, 0, 0, 0), (2, .iconst 0, 1, 0, 0, 0, 0), (3, .istore_n 2, 1, 0, 0, 0, 0), (4, .iload_n 2, 1, 0, 0, 0, 0), (5, .bipush 8, 2, 0, 0, 0, 0), (7, .if_icmp .ge 22, 3, 0, 29, 0, 0), (10, .iload_n 1, 1, 0, 0, 0, 0), (11, .iload_n 0, 1, 0, 0, 0, 0), (12, .iconst 4, 1, 0, 0, 0, 0), (13, .iload_n 2, 1, 0, 0, 0, 0), (14, .imul, 1, 0, 0, 0, 0), (15, .iushr, 1, 0, 0, 0, 0), (16, .bipush 15, 2, 0, 0, 0, 0), (18, .iand, 1, 0, 0, 0, 0), (19, .invokestatic 60, 3, 0, 9998, 2, 9), (22, .istore_n 1, 1, 0, 0, 0, 0), (23, .iinc 2 1, 3, 0, 0, 0, 0), (26, .goto (-22), 3, 0, 4, 0, 0), (29, .iload_n 1, 1, 0, 0, 0, 0), (30, .ireturn, 1, 0, 0, 0, 0)]
def zm8 : zMI := (⟨"CommaCopies$Hiding", "highest", "(I)I"⟩, prog_3_method_5_code, 3, (Option.some Jvm.ClassFile.FieldType.int), true, 1, (832, 831, 0, 95), zc8)
/-- CommaCopies$Joins.look(LCommaCopies$State;II)V -/
def zc9 : List zEnt := [(0, .aload_n 0, 1, 0, 0, 0, 0), (1, .iload_n 2, 1, 0, 0, 0, 0), (2, .putfield 24, 3, 1, 2, 6, 11), (5, .aload_n 0, 1, 0, 0, 0, 0), (6, .iload_n 3, 1, 0, 0, 0, 0), (7, .putfield 28, 3, 1, 2, 7, 12), (10, .aload_n 0, 1, 0, 0, 0, 0), (11, .aload_n 1, 1, 0, 0, 0, 0), (12, .getfield 31, 3, 1, 7, 9, 13), (15, .putfield 36, 3, 1, 2, 5, 14), (18, .aload_n 0, 1, 0, 0, 0, 0), (19, .iconst 0, 1, 0, 0, 0, 0), (20, .putfield 37, 3, 1, 2, 8, 15), (23, .aload_n 0, 1, 0, 0, 0, 0), (24, .iconst 0, 1, 0, 0, 0, 0), (25, .putfield 40, 3, 1, 2, 9, 16), (28, .aload_n 0, 1, 0, 0, 0, 0), (29, .iconst 0, 1, 0, 0, 0, 0), (30, .putfield 43, 3, 1, 2, 10, 17), (33, .iconst 0, 1, 0, 0, 0, 0), (34, .istore 4, 2, 0, 0, 0, 0), (36, .iload 4, 2, 0, 0, 0, 0), (38, .aload_n 1, 1, 0, 0, 0, 0), (39, .getfield 46, 3, 0, 7, 0, 18), (42, .getfield 50, 3, 1, 4, 6, 19), (45, .if_icmp .ge 85, 3, 0, 130, 0, 0), (48, .aload_n 0, 1, 0, 0, 0, 0), (49, .dup, 1, 0, 0, 0, 0), (50, .getfield 37, 3, 1, 2, 8, 15), (53, .iconst 1, 1, 0, 0, 0, 0), (54, .iconst 5, 1, 0, 0, 0, 0), (55, .iload 4, 2, 0, 0, 0, 0), (57, .imul, 1, 0, 0, 0, 0), (58, .ishl, 1, 0, 0, 0, 0), (59, .ior, 1, 0, 0, 0, 0), (60, .putfield 37, 3, 1, 2, 8, 15), (63, .aload_n 0, 1, 0, 0, 0, 0), (64, .dup, 1, 0, 0, 0, 0), (65, .getfield 40, 3, 1, 2, 9, 16), (68, .iconst 1, 1, 0, 0, 0, 0), (69, .aload_n 1, 1, 0, 0, 0, 0), (70, .getfield 46, 3, 0, 7, 0, 18), (73, .getfield 55, 3, 0, 4, 1, 20), (76, .iload 4, 2, 0, 0, 0, 0), (78, .iaload, 1, 0, 0, 0, 0), (79, .ishl, 1, 0, 0, 0, 0), (80, .iconst 1, 1, 0, 0, 0, 0), (81, .isub, 1, 0, 0, 0, 0), (82, .iconst 5, 1, 0, 0, 0, 0), (83, .iload 4, 2, 0, 0, 0, 0), (85, .imul, 1, 0, 0, 0, 0), (86, .ishl, 1, 0, 0, 0, 0), (87, .ior, 1, 0, 0, 0, 0), (88, .putfield 40, 3, 1, 2, 9, 16), (91, .aload_n 1, 1, 0, 0, 0, 0), (92, .getfield 58, 3, 0, 7, 2, 21), (95, .iload 4, 2, 0, 0, 0, 0), (97, .iaload, 1, 0, 0, 0, 0), (98, .ifCond .lt 26, 3, 0, 124, 0, 0), (101, .aload_n 0, 1, 0, 0, 0, 0), (102, .dup, 1, 0, 0, 0, 0), (103, .getfield 43, 3, 1, 2, 10, 17), (106, .iconst 1, 1, 0, 0, 0, 0), (107, .iconst 5, 1, 0, 0, 0, 0), (108, .iload 4, 2, 0, 0, 0, 0), (110, .imul, 1, 0, 0, 0, 0), (111, .aload_n 1, 1, 0, 0, 0, 0), (112, .getfield 58, 3, 0, 7, 2, 21), (115, .iload 4, 2, 0, 0, 0, 0), (117, .iaload, 1, 0, 0, 0, 0), (118, .iadd, 1, 0, 0, 0, 0), (119, .ishl, 1, 0, 0, 0, 0), (120, .ior, 1, 0, 0, 0, 0), (121, .putfield 43, 3, 1, 2, 10, 17), (124, .iinc 4 1, 3, 0, 0, 0, 0), (127, .goto (-91), 3, 0, 36, 0, 0), (130, .iconst 0, 1, 0, 0, 0, 0), (131, .istore 4, 2, 0, 0, 0, 0), (133, .iload 4, 2, 0, 0, 0, 0), (135, .aload_n 0, 1, 0, 0, 0, 0), (136, .getfield 36, 3, 1, 2, 5, 14), (139, .if_icmp .ge 29, 3, 0, 168, 0, 0), (142, .aload_n 0, 1, 0, 0, 0, 0), (143, .getfield 9, 3, 0, 2, 0, 22), (146, .iload 4, 2, 0, 0, 0, 0), (148, .aload_n 1, 1, 0, 0, 0, 0), (149, .aload_n 1, 1, 0, 0, 0, 0), (150, .getfield 61, 3, 0, 7, 3, 23), (153, .iload 4, 2, 0, 0, 0, 0), (155, .bipush 6, 2, 0, 0, 0, 0), (157, .imul, 1, 0, 0, 0, 0), (158, .invokevirtual 64, 3, 0, 60, 3, 10), (161, .iastore, 1, 0, 0, 0, 0), (162, .iinc 4 1, 3, 0, 0, 0, 0), (165, .goto (-32), 3, 0, 133, 0, 0), (168, .return_, 1, 0, 0, 0, 0)]
def zm9 : zMI := (⟨"CommaCopies$Joins", "look", "(LCommaCopies$State;II)V"⟩, prog_4_method_2_code, 5, (Option.none : Option Jvm.ClassFile.FieldType), false, 2, (559, 558, 15, 92), zc9)
/-- CommaCopies$Joins.list()V -/
def zc10 : List zEnt := [(0, .aload_n 0, 1, 0, 0, 0, 0), (1, .iconst 0, 1, 0, 0, 0, 0), (2, .putfield 68, 3, 1, 2, 4, 24), (5, .iconst 1, 1, 0, 0, 0, 0), (6, .istore_n 1, 1, 0, 0, 0, 0), (7, .iload_n 1, 1, 0, 0, 0, 0), (8, .aload_n 0, 1, 0, 0, 0, 0), (9, .getfield 24, 3, 1, 2, 6, 11), (12, .if_icmp .gt 100, 3, 0, 112, 0, 0), (15, .iconst 1, 1, 0, 0, 0, 0), (16, .istore_n 2, 1, 0, 0, 0, 0), (17, .iload_n 2, 1, 0, 0, 0, 0), (18, .iconst 1, 1, 0, 0, 0, 0), (19, .aload_n 0, 1, 0, 0, 0, 0), (20, .getfield 36, 3, 1, 2, 5, 14), (23, .ishl, 1, 0, 0, 0, 0), (24, .if_icmp .ge 82, 3, 0, 106, 0, 0), (27, .iload_n 2, 1, 0, 0, 0, 0), (28, .invokestatic 71, 3, 0, 180, 1, 11), (31, .iload_n 1, 1, 0, 0, 0, 0), (32, .if_icmp .ne 68, 3, 0, 100, 0, 0), (35, .aload_n 0, 1, 0, 0, 0, 0), (36, .getfield 68, 3, 1, 2, 4, 24), (39, .bipush 92, 2, 0, 0, 0, 0), (41, .if_icmp .ge 59, 3, 0, 100, 0, 0), (44, .aload_n 0, 1, 0, 0, 0, 0), (45, .getfield 15, 3, 0, 2, 1, 25), (48, .aload_n 0, 1, 0, 0, 0, 0), (49, .getfield 68, 3, 1, 2, 4, 24), (52, .iload_n 2, 1, 0, 0, 0, 0), (53, .iastore, 1, 0, 0, 0, 0), (54, .aload_n 0, 1, 0, 0, 0, 0), (55, .getfield 18, 3, 0, 2, 2, 26), (58, .aload_n 0, 1, 0, 0, 0, 0), (59, .getfield 68, 3, 1, 2, 4, 24), (62, .aload_n 0, 1, 0, 0, 0, 0), (63, .iload_n 2, 1, 0, 0, 0, 0), (64, .invokevirtual 77, 3, 0, 11, 2, 12), (67, .iastore, 1, 0, 0, 0, 0), (68, .aload_n 0, 1, 0, 0, 0, 0), (69, .getfield 21, 3, 0, 2, 3, 27), (72, .aload_n 0, 1, 0, 0, 0, 0), (73, .getfield 68, 3, 1, 2, 4, 24), (76, .aload_n 0, 1, 0, 0, 0, 0), (77, .aload_n 0, 1, 0, 0, 0, 0), (78, .getfield 18, 3, 0, 2, 2, 26), (81, .aload_n 0, 1, 0, 0, 0, 0), (82, .getfield 68, 3, 1, 2, 4, 24), (85, .iaload, 1, 0, 0, 0, 0), (86, .invokevirtual 80, 3, 0, 13, 2, 13), (89, .iastore, 1, 0, 0, 0, 0), (90, .aload_n 0, 1, 0, 0, 0, 0), (91, .dup, 1, 0, 0, 0, 0), (92, .getfield 68, 3, 1, 2, 4, 24), (95, .iconst 1, 1, 0, 0, 0, 0), (96, .iadd, 1, 0, 0, 0, 0), (97, .putfield 68, 3, 1, 2, 4, 24), (100, .iinc 2 1, 3, 0, 0, 0, 0), (103, .goto (-86), 3, 0, 17, 0, 0), (106, .iinc 1 1, 3, 0, 0, 0, 0), (109, .goto (-102), 3, 0, 7, 0, 0), (112, .return_, 1, 0, 0, 0, 0)]
def zm10 : zMI := (⟨"CommaCopies$Joins", "list", "()V"⟩, prog_4_method_3_code, 3, (Option.none : Option Jvm.ClassFile.FieldType), false, 2, (567, 566, 17, 92), zc10)
/-- CommaCopies$Joins.unionOf(I)I -/
def zc11 : List zEnt := [(0, .iconst 0, 1, 0, 0, 0, 0), (1, .istore_n 2, 1, 0, 0, 0, 0), (2, .iconst 0, 1, 0, 0, 0, 0), (3, .istore_n 3, 1, 0, 0, 0, 0), (4, .iload_n 3, 1, 0, 0, 0, 0), (5, .aload_n 0, 1, 0, 0, 0, 0), (6, .getfield 36, 3, 1, 2, 5, 14), (9, .if_icmp .ge 27, 3, 0, 36, 0, 0), (12, .iload_n 1, 1, 0, 0, 0, 0), (13, .iload_n 3, 1, 0, 0, 0, 0), (14, .ishr, 1, 0, 0, 0, 0), (15, .iconst 1, 1, 0, 0, 0, 0), (16, .iand, 1, 0, 0, 0, 0), (17, .iconst 1, 1, 0, 0, 0, 0), (18, .if_icmp .ne 12, 3, 0, 30, 0, 0), (21, .iload_n 2, 1, 0, 0, 0, 0), (22, .aload_n 0, 1, 0, 0, 0, 0), (23, .getfield 9, 3, 0, 2, 0, 22), (26, .iload_n 3, 1, 0, 0, 0, 0), (27, .iaload, 1, 0, 0, 0, 0), (28, .ior, 1, 0, 0, 0, 0), (29, .istore_n 2, 1, 0, 0, 0, 0), (30, .iinc 3 1, 3, 0, 0, 0, 0), (33, .goto (-29), 3, 0, 4, 0, 0), (36, .iload_n 2, 1, 0, 0, 0, 0), (37, .ireturn, 1, 0, 0, 0, 0)]
def zm11 : zMI := (⟨"CommaCopies$Joins", "unionOf", "(I)I"⟩, prog_4_method_4_code, 4, (Option.some Jvm.ClassFile.FieldType.int), false, 2, (577, 576, 18, 92), zc11)
/-- CommaCopies$Joins.canOf(I)I -/
def zc12 : List zEnt := [(0, .aload_n 0, 1, 0, 0, 0, 0), (1, .aload_n 0, 1, 0, 0, 0, 0), (2, .iload_n 1, 1, 0, 0, 0, 0), (3, .invokevirtual 77, 3, 0, 11, 2, 12), (6, .invokevirtual 80, 3, 0, 13, 2, 13), (9, .ireturn, 1, 0, 0, 0, 0)]
def zm12 : zMI := (⟨"CommaCopies$Joins", "canOf", "(I)I"⟩, prog_4_method_5_code, 2, (Option.some Jvm.ClassFile.FieldType.int), false, 2, (627, 626, 25, 92), zc12)
/-- CommaCopies$Joins.widened(I)I -/
def zc13 : List zEnt := [(0, .iload_n 1, 1, 0, 0, 0, 0), (1, .iload_n 1, 1, 0, 0, 0, 0), (2, .aload_n 0, 1, 0, 0, 0, 0), (3, .getfield 37, 3, 1, 2, 8, 15), (6, .isub, 1, 0, 0, 0, 0), (7, .iand, 1, 0, 0, 0, 0), (8, .ldc 83, 2, 519552495, 0, 0, 582), (10, .iadd, 1, 0, 0, 0, 0), (11, .bipush 16, 2, 0, 0, 0, 0), (13, .aload_n 0, 1, 0, 0, 0, 0), (14, .getfield 37, 3, 1, 2, 8, 15), (17, .imul, 1, 0, 0, 0, 0), (18, .iand, 1, 0, 0, 0, 0), (19, .istore_n 2, 1, 0, 0, 0, 0), (20, .iload_n 1, 1, 0, 0, 0, 0), (21, .aload_n 0, 1, 0, 0, 0, 0), (22, .getfield 43, 3, 1, 2, 10, 17), (25, .ior, 1, 0, 0, 0, 0), (26, .istore_n 3, 1, 0, 0, 0, 0), (27, .aload_n 0, 1, 0, 0, 0, 0), (28, .getfield 28, 3, 1, 2, 7, 12), (31, .iconst 1, 1, 0, 0, 0, 0), (32, .if_icmp .ne 16, 3, 0, 48, 0, 0), (35, .iload_n 3, 1, 0, 0, 0, 0), (36, .iload_n 2, 1, 0, 0, 0, 0), (37, .iload_n 2, 1, 0, 0, 0, 0), (38, .iconst 4, 1, 0, 0, 0, 0), (39, .ishr, 1, 0, 0, 0, 0), (40, .isub, 1, 0, 0, 0, 0), (41, .aload_n 0, 1, 0, 0, 0, 0), (42, .getfield 40, 3, 1, 2, 9, 16), (45, .iand, 1, 0, 0, 0, 0), (46, .ior, 1, 0, 0, 0, 0), (47, .ireturn, 1, 0, 0, 0, 0), (48, .aload_n 0, 1, 0, 0, 0, 0), (49, .getfield 28, 3, 1, 2, 7, 12), (52, .iconst 2, 1, 0, 0, 0, 0), (53, .if_icmp .ne 9, 3, 0, 62, 0, 0), (56, .iload_n 3, 1, 0, 0, 0, 0), (57, .iload_n 2, 1, 0, 0, 0, 0), (58, .ior, 1, 0, 0, 0, 0), (59, .goto 4, 3, 0, 63, 0, 0), (62, .iload_n 3, 1, 0, 0, 0, 0), (63, .ireturn, 1, 0, 0, 0, 0)]
def zm13 : zMI := (⟨"CommaCopies$Joins", "widened", "(I)I"⟩, prog_4_method_6_code, 4, (Option.some Jvm.ClassFile.FieldType.int), false, 2, (581, 580, 19, 92), zc13)
/-- CommaCopies$Joins.madeBy(II)I -/
def zc14 : List zEnt := [(0, .iload_n 2, 1, 0, 0, 0, 0), (1, .istore_n 3, 1, 0, 0, 0, 0), (2, .iconst 0, 1, 0, 0, 0, 0), (3, .istore 4, 2, 0, 0, 0, 0), (5, .iload 4, 2, 0, 0, 0, 0), (7, .aload_n 0, 1, 0, 0, 0, 0), (8, .getfield 68, 3, 1, 2, 4, 24), (11, .if_icmp .ge 38, 3, 0, 49, 0, 0), (14, .iload_n 1, 1, 0, 0, 0, 0), (15, .aload_n 0, 1, 0, 0, 0, 0), (16, .getfield 21, 3, 0, 2, 3, 27), (19, .iload 4, 2, 0, 0, 0, 0), (21, .iaload, 1, 0, 0, 0, 0), (22, .iconst (-1), 1, 0, 0, 0, 0), (23, .ixor, 1, 0, 0, 0, 0), (24, .iand, 1, 0, 0, 0, 0), (25, .ifCond .ne 18, 3, 0, 43, 0, 0), (28, .iload_n 3, 1, 0, 0, 0, 0), (29, .ifCond .ne 11, 3, 0, 40, 0, 0), (32, .aload_n 0, 1, 0, 0, 0, 0), (33, .getfield 15, 3, 0, 2, 1, 25), (36, .iload 4, 2, 0, 0, 0, 0), (38, .iaload, 1, 0, 0, 0, 0), (39, .ireturn, 1, 0, 0, 0, 0), (40, .iinc 3 (-1), 3, 0, 0, 0, 0), (43, .iinc 4 1, 3, 0, 0, 0, 0), (46, .goto (-41), 3, 0, 5, 0, 0), (49, .bipush (-4), 2, 0, 0, 0, 0), (51, .ireturn, 1, 0, 0, 0, 0)]
def zm14 : zMI := (⟨"CommaCopies$Joins", "madeBy", "(II)I"⟩, prog_4_method_7_code, 5, (Option.some Jvm.ClassFile.FieldType.int), false, 2, (635, 634, 26, 92), zc14)
/-- CommaCopies$Joins.suspect(I)V -/
def zc15 : List zEnt := [(0, .aload_n 0, 1, 0, 0, 0, 0), (1, .iconst 0, 1, 0, 0, 0, 0), (2, .putfield 84, 3, 1, 2, 13, 28), (5, .aload_n 0, 1, 0, 0, 0, 0), (6, .iconst (-1), 1, 0, 0, 0, 0), (7, .putfield 87, 3, 1, 2, 11, 29), (10, .aload_n 0, 1, 0, 0, 0, 0), (11, .iconst 0, 1, 0, 0, 0, 0), (12, .putfield 90, 3, 1, 2, 12, 30), (15, .iconst 0, 1, 0, 0, 0, 0), (16, .istore_n 2, 1, 0, 0, 0, 0), (17, .iload_n 2, 1, 0, 0, 0, 0), (18, .aload_n 0, 1, 0, 0, 0, 0), (19, .getfield 68, 3, 1, 2, 4, 24), (22, .if_icmp .ge 62, 3, 0, 84, 0, 0), (25, .iload_n 1, 1, 0, 0, 0, 0), (26, .aload_n 0, 1, 0, 0, 0, 0), (27, .getfield 21, 3, 0, 2, 3, 27), (30, .iload_n 2, 1, 0, 0, 0, 0), (31, .iaload, 1, 0, 0, 0, 0), (32, .iconst (-1), 1, 0, 0, 0, 0), (33, .ixor, 1, 0, 0, 0, 0), (34, .iand, 1, 0, 0, 0, 0), (35, .ifCond .ne 43, 3, 0, 78, 0, 0), (38, .aload_n 0, 1, 0, 0, 0, 0), (39, .dup, 1, 0, 0, 0, 0), (40, .getfield 84, 3, 1, 2, 13, 28), (43, .iconst 1, 1, 0, 0, 0, 0), (44, .iadd, 1, 0, 0, 0, 0), (45, .putfield 84, 3, 1, 2, 13, 28), (48, .aload_n 0, 1, 0, 0, 0, 0), (49, .dup, 1, 0, 0, 0, 0), (50, .getfield 87, 3, 1, 2, 11, 29), (53, .aload_n 0, 1, 0, 0, 0, 0), (54, .getfield 15, 3, 0, 2, 1, 25), (57, .iload_n 2, 1, 0, 0, 0, 0), (58, .iaload, 1, 0, 0, 0, 0), (59, .iand, 1, 0, 0, 0, 0), (60, .putfield 87, 3, 1, 2, 11, 29), (63, .aload_n 0, 1, 0, 0, 0, 0), (64, .dup, 1, 0, 0, 0, 0), (65, .getfield 90, 3, 1, 2, 12, 30), (68, .aload_n 0, 1, 0, 0, 0, 0), (69, .getfield 15, 3, 0, 2, 1, 25), (72, .iload_n 2, 1, 0, 0, 0, 0), (73, .iaload, 1, 0, 0, 0, 0), (74, .ior, 1, 0, 0, 0, 0), (75, .putfield 90, 3, 1, 2, 12, 30), (78, .iinc 2 1, 3, 0, 0, 0, 0), (81, .goto (-64), 3, 0, 17, 0, 0), (84, .aload_n 0, 1, 0, 0, 0, 0), (85, .aload_n 0, 1, 0, 0, 0, 0), (86, .getfield 84, 3, 1, 2, 13, 28), (89, .ifCond .ne 7, 3, 0, 96, 0, 0), (92, .iconst 0, 1, 0, 0, 0, 0), (93, .goto 7, 3, 0, 100, 0, 0), (96, .aload_n 0, 1, 0, 0, 0, 0), (97, .getfield 87, 3, 1, 2, 11, 29), (100, .putfield 87, 3, 1, 2, 11, 29), (103, .return_, 1, 0, 0, 0, 0)]
def zm15 : zMI := (⟨"CommaCopies$Joins", "suspect", "(I)V"⟩, prog_4_method_8_code, 3, (Option.none : Option Jvm.ClassFile.FieldType), false, 2, (587, 586, 20, 92), zc15)
/-- CommaCopies$Laws.broken(II)Z -/
def zc16 : List zEnt := [(0, .iload_n 1, 1, 0, 0, 0, 0), (1, .ifCond .ne 12, 3, 0, 13, 0, 0), (4, .aload_n 0, 1, 0, 0, 0, 0), (5, .iload_n 2, 1, 0, 0, 0, 0), (6, .invokestatic 35, 3, 0, 17, 1, 14), (9, .invokevirtual 39, 3, 0, 19, 2, 15), (12, .ireturn, 1, 0, 0, 0, 0), (13, .iload_n 1, 1, 0, 0, 0, 0), (14, .iconst 1, 1, 0, 0, 0, 0), (15, .if_icmp .ne 12, 3, 0, 27, 0, 0), (18, .aload_n 0, 1, 0, 0, 0, 0), (19, .iload_n 2, 1, 0, 0, 0, 0), (20, .invokestatic 35, 3, 0, 17, 1, 14), (23, .invokevirtual 43, 3, 0, 21, 2, 16), (26, .ireturn, 1, 0, 0, 0, 0), (27, .aload_n 0, 1, 0, 0, 0, 0), (28, .getfield 12, 3, 0, 3, 0, 31), (31, .getfield 46, 3, 1, 2, 4, 32), (34, .invokestatic 50, 3, 0, 18, 1, 17), (37, .lstore_n 3, 1, 0, 0, 0, 0), (38, .aload_n 0, 1, 0, 0, 0, 0), (39, .getfield 12, 3, 0, 3, 0, 31), (42, .getfield 46, 3, 1, 2, 4, 32), (45, .bipush 64, 2, 0, 0, 0, 0), (47, .isub, 1, 0, 0, 0, 0), (48, .invokestatic 50, 3, 0, 18, 1, 17), (51, .lstore 5, 2, 0, 0, 0, 0), (53, .aload_n 0, 1, 0, 0, 0, 0), (54, .iconst 0, 1, 0, 0, 0, 0), (55, .iload_n 2, 1, 0, 0, 0, 0), (56, .lload_n 3, 1, 0, 0, 0, 0), (57, .lload 5, 2, 0, 0, 0, 0), (59, .invokevirtual 54, 3, 0, 26, 5, 18), (62, .ireturn, 1, 0, 0, 0, 0)]
def zm16 : zMI := (⟨"CommaCopies$Laws", "broken", "(II)Z"⟩, prog_5_method_2_code, 7, (Option.some Jvm.ClassFile.FieldType.boolean), false, 3, (673, 672, 30, 91), zc16)
/-- CommaCopies$Laws.groupsOf(I)I -/
def zc17 : List zEnt := [(0, .iconst 0, 1, 0, 0, 0, 0), (1, .istore_n 1, 1, 0, 0, 0, 0), (2, .iconst 0, 1, 0, 0, 0, 0), (3, .istore_n 2, 1, 0, 0, 0, 0), (4, .iload_n 2, 1, 0, 0, 0, 0), (5, .bipush 6, 2, 0, 0, 0, 0), (7, .if_icmp .ge 27, 3, 0, 34, 0, 0), (10, .iload_n 0, 1, 0, 0, 0, 0), (11, .iload_n 2, 1, 0, 0, 0, 0), (12, .ishr, 1, 0, 0, 0, 0), (13, .iconst 1, 1, 0, 0, 0, 0), (14, .iand, 1, 0, 0, 0, 0), (15, .iconst 1, 1, 0, 0, 0, 0), (16, .if_icmp .ne 12, 3, 0, 28, 0, 0), (19, .iload_n 1, 1, 0, 0, 0, 0), (20, .bipush 31, 2, 0, 0, 0, 0), (22, .iconst 5, 1, 0, 0, 0, 0), (23, .iload_n 2, 1, 0, 0, 0, 0), (24, .imul, 1, 0, 0, 0, 0), (25, .ishl, 1, 0, 0, 0, 0), (26, .ior, 1, 0, 0, 0, 0), (27, .istore_n 1, 1, 0, 0, 0, 0), (28, .iinc 2 1, 3, 0, 0, 0, 0), (31, .goto (-27), 3, 0, 4, 0, 0), (34, .iload_n 1, 1, 0, 0, 0, 0), (35, .ireturn, 1, 0, 0, 0, 0)]
def zm17 : zMI := (⟨"CommaCopies$Laws", "groupsOf", "(I)I"⟩, prog_5_method_3_code, 3, (Option.some Jvm.ClassFile.FieldType.int), true, 3, (676, 675, 0, 91), zc17)
/-- CommaCopies$Laws.lowestBits(I)J -/
def zc18 : List zEnt := [(0, .iload_n 0, 1, 0, 0, 0, 0), (1, .ifCond .gt 5, 3, 0, 6, 0, 0), (4, .lconst 0, 1, 0, 0, 0, 0), (5, .lreturn, 1, 0, 0, 0, 0), (6, .iload_n 0, 1, 0, 0, 0, 0), (7, .bipush 64, 2, 0, 0, 0, 0), (9, .if_icmp .lt 9, 3, 0, 18, 0, 0), (12, .ldc2_w 58, 3, -1, 0, 0, 701), (15, .goto 8, 3, 0, 23, 0, 0), (18, .lconst 1, 1, 0, 0, 0, 0), (19, .iload_n 0, 1, 0, 0, 0, 0), (20, .lshl, 1, 0, 0, 0, 0), (21, .lconst 1, 1, 0, 0, 0, 0), (22, .lsub, 1, 0, 0, 0, 0), (23, .lreturn, 1, 0, 0, 0, 0)]
def zm18 : zMI := (⟨"CommaCopies$Laws", "lowestBits", "(I)J"⟩, prog_5_method_4_code, 1, (Option.some Jvm.ClassFile.FieldType.long), true, 3, (700, 699, 0, 91), zc18)
/-- CommaCopies$Laws.someFramed(I)Z -/
def zc19 : List zEnt := [(0, .iconst 0, 1, 0, 0, 0, 0), (1, .istore_n 2, 1, 0, 0, 0, 0), (2, .iload_n 2, 1, 0, 0, 0, 0), (3, .aload_n 0, 1, 0, 0, 0, 0), (4, .getfield 12, 3, 0, 3, 0, 31), (7, .getfield 46, 3, 1, 2, 4, 32), (10, .if_icmp .ge 57, 3, 0, 67, 0, 0), (13, .aload_n 0, 1, 0, 0, 0, 0), (14, .aload_n 0, 1, 0, 0, 0, 0), (15, .getfield 12, 3, 0, 3, 0, 31), (18, .getfield 60, 3, 0, 2, 1, 33), (21, .iload_n 2, 1, 0, 0, 0, 0), (22, .iaload, 1, 0, 0, 0, 0), (23, .aload_n 0, 1, 0, 0, 0, 0), (24, .getfield 12, 3, 0, 3, 0, 31), (27, .getfield 63, 3, 0, 2, 3, 34), (30, .iload_n 2, 1, 0, 0, 0, 0), (31, .iaload, 1, 0, 0, 0, 0), (32, .iload_n 1, 1, 0, 0, 0, 0), (33, .invokevirtual 66, 3, 0, 20, 4, 19), (36, .istore_n 3, 1, 0, 0, 0, 0), (37, .iload_n 3, 1, 0, 0, 0, 0), (38, .ifCond .lt 23, 3, 0, 61, 0, 0), (41, .aload_n 0, 1, 0, 0, 0, 0), (42, .aload_n 0, 1, 0, 0, 0, 0), (43, .getfield 12, 3, 0, 3, 0, 31), (46, .getfield 60, 3, 0, 2, 1, 33), (49, .iload_n 2, 1, 0, 0, 0, 0), (50, .iaload, 1, 0, 0, 0, 0), (51, .putfield 70, 3, 1, 3, 6, 35), (54, .aload_n 0, 1, 0, 0, 0, 0), (55, .iload_n 3, 1, 0, 0, 0, 0), (56, .putfield 73, 3, 1, 3, 7, 36), (59, .iconst 1, 1, 0, 0, 0, 0), (60, .ireturn, 1, 0, 0, 0, 0), (61, .iinc 2 1, 3, 0, 0, 0, 0), (64, .goto (-62), 3, 0, 2, 0, 0), (67, .iconst 0, 1, 0, 0, 0, 0), (68, .ireturn, 1, 0, 0, 0, 0)]
def zm19 : zMI := (⟨"CommaCopies$Laws", "someFramed", "(I)Z"⟩, prog_5_method_5_code, 4, (Option.some Jvm.ClassFile.FieldType.boolean), false, 3, (680, 679, 31, 91), zc19)
/-- CommaCopies$Laws.victimOf(III)I -/
def zc20 : List zEnt := [(0, .iconst 0, 1, 0, 0, 0, 0), (1, .istore 4, 2, 0, 0, 0, 0), (3, .iload 4, 2, 0, 0, 0, 0), (5, .aload_n 0, 1, 0, 0, 0, 0), (6, .getfield 12, 3, 0, 3, 0, 31), (9, .getfield 76, 3, 1, 2, 5, 37), (12, .if_icmp .ge 40, 3, 0, 52, 0, 0), (15, .iload_n 1, 1, 0, 0, 0, 0), (16, .iload 4, 2, 0, 0, 0, 0), (18, .ishr, 1, 0, 0, 0, 0), (19, .iconst 1, 1, 0, 0, 0, 0), (20, .iand, 1, 0, 0, 0, 0), (21, .ifCond .ne 25, 3, 0, 46, 0, 0), (24, .aload_n 0, 1, 0, 0, 0, 0), (25, .getfield 12, 3, 0, 3, 0, 31), (28, .getfield 79, 3, 0, 2, 0, 38), (31, .iload 4, 2, 0, 0, 0, 0), (33, .iaload, 1, 0, 0, 0, 0), (34, .iload_n 3, 1, 0, 0, 0, 0), (35, .iand, 1, 0, 0, 0, 0), (36, .iload_n 2, 1, 0, 0, 0, 0), (37, .iconst (-1), 1, 0, 0, 0, 0), (38, .ixor, 1, 0, 0, 0, 0), (39, .iand, 1, 0, 0, 0, 0), (40, .ifCond .ne 6, 3, 0, 46, 0, 0), (43, .iload 4, 2, 0, 0, 0, 0), (45, .ireturn, 1, 0, 0, 0, 0), (46, .iinc 4 1, 3, 0, 0, 0, 0), (49, .goto (-46), 3, 0, 3, 0, 0), (52, .iconst (-1), 1, 0, 0, 0, 0), (53, .ireturn, 1, 0, 0, 0, 0)]
def zm20 : zMI := (⟨"CommaCopies$Laws", "victimOf", "(III)I"⟩, prog_5_method_6_code, 5, (Option.some Jvm.ClassFile.FieldType.int), false, 3, (684, 683, 32, 91), zc20)
/-- CommaCopies$Laws.someTouch(I)Z -/
def zc21 : List zEnt := [(0, .iconst 0, 1, 0, 0, 0, 0), (1, .istore_n 2, 1, 0, 0, 0, 0), (2, .iload_n 2, 1, 0, 0, 0, 0), (3, .aload_n 0, 1, 0, 0, 0, 0), (4, .getfield 12, 3, 0, 3, 0, 31), (7, .getfield 46, 3, 1, 2, 4, 32), (10, .if_icmp .ge 68, 3, 0, 78, 0, 0), (13, .aload_n 0, 1, 0, 0, 0, 0), (14, .aload_n 0, 1, 0, 0, 0, 0), (15, .getfield 12, 3, 0, 3, 0, 31), (18, .getfield 60, 3, 0, 2, 1, 33), (21, .iload_n 2, 1, 0, 0, 0, 0), (22, .iaload, 1, 0, 0, 0, 0), (23, .aload_n 0, 1, 0, 0, 0, 0), (24, .getfield 12, 3, 0, 3, 0, 31), (27, .getfield 63, 3, 0, 2, 3, 34), (30, .iload_n 2, 1, 0, 0, 0, 0), (31, .iaload, 1, 0, 0, 0, 0), (32, .iload_n 1, 1, 0, 0, 0, 0), (33, .iload_n 2, 1, 0, 0, 0, 0), (34, .iconst 1, 1, 0, 0, 0, 0), (35, .iadd, 1, 0, 0, 0, 0), (36, .invokevirtual 82, 3, 0, 22, 5, 20), (39, .istore_n 3, 1, 0, 0, 0, 0), (40, .iload_n 3, 1, 0, 0, 0, 0), (41, .ifCond .lt 31, 3, 0, 72, 0, 0), (44, .aload_n 0, 1, 0, 0, 0, 0), (45, .aload_n 0, 1, 0, 0, 0, 0), (46, .getfield 12, 3, 0, 3, 0, 31), (49, .getfield 60, 3, 0, 2, 1, 33), (52, .iload_n 2, 1, 0, 0, 0, 0), (53, .iaload, 1, 0, 0, 0, 0), (54, .putfield 70, 3, 1, 3, 6, 35), (57, .aload_n 0, 1, 0, 0, 0, 0), (58, .aload_n 0, 1, 0, 0, 0, 0), (59, .getfield 12, 3, 0, 3, 0, 31), (62, .getfield 60, 3, 0, 2, 1, 33), (65, .iload_n 3, 1, 0, 0, 0, 0), (66, .iaload, 1, 0, 0, 0, 0), (67, .putfield 73, 3, 1, 3, 7, 36), (70, .iconst 1, 1, 0, 0, 0, 0), (71, .ireturn, 1, 0, 0, 0, 0), (72, .iinc 2 1, 3, 0, 0, 0, 0), (75, .goto (-73), 3, 0, 2, 0, 0), (78, .iconst 0, 1, 0, 0, 0, 0), (79, .ireturn, 1, 0, 0, 0, 0)]
def zm21 : zMI := (⟨"CommaCopies$Laws", "someTouch", "(I)Z"⟩, prog_5_method_7_code, 4, (Option.some Jvm.ClassFile.FieldType.boolean), false, 3, (688, 687, 33, 91), zc21)
/-- CommaCopies$Laws.touching(IIII)I -/
def zc22 : List zEnt := [(0, .iload 4, 2, 0, 0, 0, 0), (2, .istore 5, 2, 0, 0, 0, 0), (4, .iload 5, 2, 0, 0, 0, 0), (6, .aload_n 0, 1, 0, 0, 0, 0), (7, .getfield 12, 3, 0, 3, 0, 31), (10, .getfield 46, 3, 1, 2, 4, 32), (13, .if_icmp .ge 46, 3, 0, 59, 0, 0), (16, .iload_n 1, 1, 0, 0, 0, 0), (17, .aload_n 0, 1, 0, 0, 0, 0), (18, .getfield 12, 3, 0, 3, 0, 31), (21, .getfield 60, 3, 0, 2, 1, 33), (24, .iload 5, 2, 0, 0, 0, 0), (26, .iaload, 1, 0, 0, 0, 0), (27, .iand, 1, 0, 0, 0, 0), (28, .ifCond .ne 25, 3, 0, 53, 0, 0), (31, .iload_n 2, 1, 0, 0, 0, 0), (32, .aload_n 0, 1, 0, 0, 0, 0), (33, .getfield 12, 3, 0, 3, 0, 31), (36, .getfield 63, 3, 0, 2, 3, 34), (39, .iload 5, 2, 0, 0, 0, 0), (41, .iaload, 1, 0, 0, 0, 0), (42, .iand, 1, 0, 0, 0, 0), (43, .iload_n 3, 1, 0, 0, 0, 0), (44, .invokestatic 86, 3, 0, 23, 2, 21), (47, .ifCond .eq 6, 3, 0, 53, 0, 0), (50, .iload 5, 2, 0, 0, 0, 0), (52, .ireturn, 1, 0, 0, 0, 0), (53, .iinc 5 1, 3, 0, 0, 0, 0), (56, .goto (-52), 3, 0, 4, 0, 0), (59, .iconst (-1), 1, 0, 0, 0, 0), (60, .ireturn, 1, 0, 0, 0, 0)]
def zm22 : zMI := (⟨"CommaCopies$Laws", "touching", "(IIII)I"⟩, prog_5_method_8_code, 6, (Option.some Jvm.ClassFile.FieldType.int), false, 3, (692, 691, 34, 91), zc22)
/-- CommaCopies$Laws.meetEverywhere(II)Z -/
def zc23 : List zEnt := [(0, .ldc 90, 2, 554189328, 0, 0, 696), (2, .iload_n 1, 1, 0, 0, 0, 0), (3, .iand, 1, 0, 0, 0, 0), (4, .istore_n 2, 1, 0, 0, 0, 0), (5, .iload_n 0, 1, 0, 0, 0, 0), (6, .ldc 91, 2, 519552495, 0, 0, 697), (8, .iand, 1, 0, 0, 0, 0), (9, .ldc 91, 2, 519552495, 0, 0, 697), (11, .iadd, 1, 0, 0, 0, 0), (12, .iload_n 0, 1, 0, 0, 0, 0), (13, .ior, 1, 0, 0, 0, 0), (14, .iload_n 2, 1, 0, 0, 0, 0), (15, .iand, 1, 0, 0, 0, 0), (16, .iload_n 2, 1, 0, 0, 0, 0), (17, .if_icmp .ne 7, 3, 0, 24, 0, 0), (20, .iconst 1, 1, 0, 0, 0, 0), (21, .goto 4, 3, 0, 25, 0, 0), (24, .iconst 0, 1, 0, 0, 0, 0), (25, .ireturn, 1, 0, 0, 0, 0)]
def zm23 : zMI := (⟨"CommaCopies$Laws", "meetEverywhere", "(II)Z"⟩, prog_5_method_9_code, 3, (Option.some Jvm.ClassFile.FieldType.boolean), true, 3, (695, 694, 0, 91), zc23)
/-- CommaCopies$Laws.mark()V -/
def zc24 : List zEnt := [(0, .aload_n 0, 1, 0, 0, 0, 0), (1, .getfield 22, 3, 0, 3, 2, 39), (4, .lconst 0, 1, 0, 0, 0, 0), (5, .invokestatic 92, 3, 0, 181, 2, 22), (8, .aload_n 0, 1, 0, 0, 0, 0), (9, .getfield 26, 3, 0, 3, 3, 40), (12, .lconst 0, 1, 0, 0, 0, 0), (13, .invokestatic 92, 3, 0, 181, 2, 22), (16, .aload_n 0, 1, 0, 0, 0, 0), (17, .getfield 29, 3, 0, 3, 4, 41), (20, .lconst 0, 1, 0, 0, 0, 0), (21, .invokestatic 92, 3, 0, 181, 2, 22), (24, .aload_n 0, 1, 0, 0, 0, 0), (25, .getfield 32, 3, 0, 3, 5, 42), (28, .lconst 0, 1, 0, 0, 0, 0), (29, .invokestatic 92, 3, 0, 181, 2, 22), (32, .iconst 0, 1, 0, 0, 0, 0), (33, .istore_n 1, 1, 0, 0, 0, 0), (34, .iload_n 1, 1, 0, 0, 0, 0), (35, .aload_n 0, 1, 0, 0, 0, 0), (36, .getfield 12, 3, 0, 3, 0, 31), (39, .getfield 46, 3, 1, 2, 4, 32), (42, .if_icmp .ge 111, 3, 0, 153, 0, 0), (45, .iload_n 1, 1, 0, 0, 0, 0), (46, .bipush 64, 2, 0, 0, 0, 0), (48, .if_icmp .ge 9, 3, 0, 57, 0, 0), (51, .lconst 1, 1, 0, 0, 0, 0), (52, .iload_n 1, 1, 0, 0, 0, 0), (53, .lshl, 1, 0, 0, 0, 0), (54, .goto 4, 3, 0, 58, 0, 0), (57, .lconst 0, 1, 0, 0, 0, 0), (58, .lstore_n 2, 1, 0, 0, 0, 0), (59, .iload_n 1, 1, 0, 0, 0, 0), (60, .bipush 64, 2, 0, 0, 0, 0), (62, .if_icmp .ge 7, 3, 0, 69, 0, 0), (65, .lconst 0, 1, 0, 0, 0, 0), (66, .goto 9, 3, 0, 75, 0, 0), (69, .lconst 1, 1, 0, 0, 0, 0), (70, .iload_n 1, 1, 0, 0, 0, 0), (71, .bipush 64, 2, 0, 0, 0, 0), (73, .isub, 1, 0, 0, 0, 0), (74, .lshl, 1, 0, 0, 0, 0), (75, .lstore 4, 2, 0, 0, 0, 0), (77, .aload_n 0, 1, 0, 0, 0, 0), (78, .getfield 12, 3, 0, 3, 0, 31), (81, .getfield 63, 3, 0, 2, 3, 34), (84, .iload_n 1, 1, 0, 0, 0, 0), (85, .iaload, 1, 0, 0, 0, 0), (86, .aload_n 0, 1, 0, 0, 0, 0), (87, .getfield 22, 3, 0, 3, 2, 39), (90, .lload_n 2, 1, 0, 0, 0, 0), (91, .invokestatic 98, 3, 0, 25, 3, 23), (94, .aload_n 0, 1, 0, 0, 0, 0), (95, .getfield 12, 3, 0, 3, 0, 31), (98, .getfield 63, 3, 0, 2, 3, 34), (101, .iload_n 1, 1, 0, 0, 0, 0), (102, .iaload, 1, 0, 0, 0, 0), (103, .aload_n 0, 1, 0, 0, 0, 0), (104, .getfield 26, 3, 0, 3, 3, 40), (107, .lload 4, 2, 0, 0, 0, 0), (109, .invokestatic 98, 3, 0, 25, 3, 23), (112, .aload_n 0, 1, 0, 0, 0, 0), (113, .getfield 12, 3, 0, 3, 0, 31), (116, .getfield 60, 3, 0, 2, 1, 33), (119, .iload_n 1, 1, 0, 0, 0, 0), (120, .iaload, 1, 0, 0, 0, 0), (121, .aload_n 0, 1, 0, 0, 0, 0), (122, .getfield 29, 3, 0, 3, 4, 41), (125, .lload_n 2, 1, 0, 0, 0, 0), (126, .invokestatic 98, 3, 0, 25, 3, 23), (129, .aload_n 0, 1, 0, 0, 0, 0), (130, .getfield 12, 3, 0, 3, 0, 31), (133, .getfield 60, 3, 0, 2, 1, 33), (136, .iload_n 1, 1, 0, 0, 0, 0), (137, .iaload, 1, 0, 0, 0, 0), (138, .aload_n 0, 1, 0, 0, 0, 0), (139, .getfield 32, 3, 0, 3, 5, 42), (142, .lload 4, 2, 0, 0, 0, 0), (144, .invokestatic 98, 3, 0, 25, 3, 23), (147, .iinc 1 1, 3, 0, 0, 0, 0), (150, .goto (-116), 3, 0, 34, 0, 0), (153, .return_, 1, 0, 0, 0, 0)]
def zm24 : zMI := (⟨"CommaCopies$Laws", "mark", "()V"⟩, prog_5_method_10_code, 6, (Option.none : Option Jvm.ClassFile.FieldType), false, 3, (659, 658, 28, 91), zc24)
/-- CommaCopies$Laws.spread(I[JJ)V -/
def zc25 : List zEnt := [(0, .iconst 0, 1, 0, 0, 0, 0), (1, .istore 4, 2, 0, 0, 0, 0), (3, .iload 4, 2, 0, 0, 0, 0), (5, .aload_n 1, 1, 0, 0, 0, 0), (6, .arraylength, 1, 0, 0, 0, 0), (7, .if_icmp .ge 27, 3, 0, 34, 0, 0), (10, .iload_n 0, 1, 0, 0, 0, 0), (11, .iload 4, 2, 0, 0, 0, 0), (13, .ishr, 1, 0, 0, 0, 0), (14, .iconst 1, 1, 0, 0, 0, 0), (15, .iand, 1, 0, 0, 0, 0), (16, .iconst 1, 1, 0, 0, 0, 0), (17, .if_icmp .ne 11, 3, 0, 28, 0, 0), (20, .aload_n 1, 1, 0, 0, 0, 0), (21, .iload 4, 2, 0, 0, 0, 0), (23, .dup2, 1, 0, 0, 0, 0), (24, .laload, 1, 0, 0, 0, 0), (25, .lload_n 2, 1, 0, 0, 0, 0), (26, .lor, 1, 0, 0, 0, 0), (27, .lastore, 1, 0, 0, 0, 0), (28, .iinc 4 1, 3, 0, 0, 0, 0), (31, .goto (-28), 3, 0, 3, 0, 0), (34, .return_, 1, 0, 0, 0, 0)]
def zm25 : zMI := (⟨"CommaCopies$Laws", "spread", "(I[JJ)V"⟩, prog_5_method_11_code, 5, (Option.none : Option Jvm.ClassFile.FieldType), true, 3, (665, 664, 0, 91), zc25)
/-- CommaCopies$Laws.someUnnamed(IIJJ)Z -/
def zc26 : List zEnt := [(0, .lload_n 3, 1, 0, 0, 0, 0), (1, .lload 5, 2, 0, 0, 0, 0), (3, .lor, 1, 0, 0, 0, 0), (4, .lconst 0, 1, 0, 0, 0, 0), (5, .lcmp, 1, 0, 0, 0, 0), (6, .ifCond .eq 13, 3, 0, 19, 0, 0), (9, .aload_n 0, 1, 0, 0, 0, 0), (10, .lload_n 3, 1, 0, 0, 0, 0), (11, .lload 5, 2, 0, 0, 0, 0), (13, .invokevirtual 102, 3, 0, 27, 3, 24), (16, .ifCond .eq 5, 3, 0, 21, 0, 0), (19, .iconst 0, 1, 0, 0, 0, 0), (20, .ireturn, 1, 0, 0, 0, 0), (21, .iload_n 1, 1, 0, 0, 0, 0), (22, .bipush 6, 2, 0, 0, 0, 0), (24, .if_icmp .lt 5, 3, 0, 29, 0, 0), (27, .iconst 1, 1, 0, 0, 0, 0), (28, .ireturn, 1, 0, 0, 0, 0), (29, .iload_n 2, 1, 0, 0, 0, 0), (30, .iload_n 1, 1, 0, 0, 0, 0), (31, .ishr, 1, 0, 0, 0, 0), (32, .iconst 1, 1, 0, 0, 0, 0), (33, .iand, 1, 0, 0, 0, 0), (34, .ifCond .ne 15, 3, 0, 49, 0, 0), (37, .aload_n 0, 1, 0, 0, 0, 0), (38, .iload_n 1, 1, 0, 0, 0, 0), (39, .iconst 1, 1, 0, 0, 0, 0), (40, .iadd, 1, 0, 0, 0, 0), (41, .iload_n 2, 1, 0, 0, 0, 0), (42, .lload_n 3, 1, 0, 0, 0, 0), (43, .lload 5, 2, 0, 0, 0, 0), (45, .invokevirtual 54, 3, 0, 26, 5, 18), (48, .ireturn, 1, 0, 0, 0, 0), (49, .iconst 0, 1, 0, 0, 0, 0), (50, .istore 7, 2, 0, 0, 0, 0), (52, .iload 7, 2, 0, 0, 0, 0), (54, .iconst 5, 1, 0, 0, 0, 0), (55, .if_icmp .ge 57, 3, 0, 112, 0, 0), (58, .iload_n 1, 1, 0, 0, 0, 0), (59, .iconst 5, 1, 0, 0, 0, 0), (60, .imul, 1, 0, 0, 0, 0), (61, .iload 7, 2, 0, 0, 0, 0), (63, .iadd, 1, 0, 0, 0, 0), (64, .istore 8, 2, 0, 0, 0, 0), (66, .aload_n 0, 1, 0, 0, 0, 0), (67, .getfield 18, 3, 0, 3, 1, 43), (70, .iload_n 1, 1, 0, 0, 0, 0), (71, .iload 7, 2, 0, 0, 0, 0), (73, .iastore, 1, 0, 0, 0, 0), (74, .aload_n 0, 1, 0, 0, 0, 0), (75, .iload_n 1, 1, 0, 0, 0, 0), (76, .iconst 1, 1, 0, 0, 0, 0), (77, .iadd, 1, 0, 0, 0, 0), (78, .iload_n 2, 1, 0, 0, 0, 0), (79, .lload_n 3, 1, 0, 0, 0, 0), (80, .aload_n 0, 1, 0, 0, 0, 0), (81, .getfield 22, 3, 0, 3, 2, 39), (84, .iload 8, 2, 0, 0, 0, 0), (86, .laload, 1, 0, 0, 0, 0), (87, .land, 1, 0, 0, 0, 0), (88, .lload 5, 2, 0, 0, 0, 0), (90, .aload_n 0, 1, 0, 0, 0, 0), (91, .getfield 26, 3, 0, 3, 3, 40), (94, .iload 8, 2, 0, 0, 0, 0), (96, .laload, 1, 0, 0, 0, 0), (97, .land, 1, 0, 0, 0, 0), (98, .invokevirtual 54, 3, 0, 26, 5, 18), (101, .ifCond .eq 5, 3, 0, 106, 0, 0), (104, .iconst 1, 1, 0, 0, 0, 0), (105, .ireturn, 1, 0, 0, 0, 0), (106, .iinc 7 1, 3, 0, 0, 0, 0), (109, .goto (-57), 3, 0, 52, 0, 0), (112, .iconst 0, 1, 0, 0, 0, 0), (113, .ireturn, 1, 0, 0, 0, 0)]
def zm26 : zMI := (⟨"CommaCopies$Laws", "someUnnamed", "(IIJJ)Z"⟩, prog_5_method_12_code, 9, (Option.some Jvm.ClassFile.FieldType.boolean), false, 3, (705, 704, 35, 91), zc26)
/-- CommaCopies$Laws.haveOneInCommon(JJ)Z -/
def zc27 : List zEnt := [(0, .iconst 0, 1, 0, 0, 0, 0), (1, .istore 5, 2, 0, 0, 0, 0), (3, .iload 5, 2, 0, 0, 0, 0), (5, .aload_n 0, 1, 0, 0, 0, 0), (6, .getfield 12, 3, 0, 3, 0, 31), (9, .getfield 76, 3, 1, 2, 5, 37), (12, .if_icmp .ge 47, 3, 0, 59, 0, 0), (15, .lload_n 1, 1, 0, 0, 0, 0), (16, .aload_n 0, 1, 0, 0, 0, 0), (17, .getfield 29, 3, 0, 3, 4, 41), (20, .iload 5, 2, 0, 0, 0, 0), (22, .laload, 1, 0, 0, 0, 0), (23, .ldc2_w 58, 3, -1, 0, 0, 701), (26, .lxor, 1, 0, 0, 0, 0), (27, .land, 1, 0, 0, 0, 0), (28, .lconst 0, 1, 0, 0, 0, 0), (29, .lcmp, 1, 0, 0, 0, 0), (30, .ifCond .ne 23, 3, 0, 53, 0, 0), (33, .lload_n 3, 1, 0, 0, 0, 0), (34, .aload_n 0, 1, 0, 0, 0, 0), (35, .getfield 32, 3, 0, 3, 5, 42), (38, .iload 5, 2, 0, 0, 0, 0), (40, .laload, 1, 0, 0, 0, 0), (41, .ldc2_w 58, 3, -1, 0, 0, 701), (44, .lxor, 1, 0, 0, 0, 0), (45, .land, 1, 0, 0, 0, 0), (46, .lconst 0, 1, 0, 0, 0, 0), (47, .lcmp, 1, 0, 0, 0, 0), (48, .ifCond .ne 5, 3, 0, 53, 0, 0), (51, .iconst 1, 1, 0, 0, 0, 0), (52, .ireturn, 1, 0, 0, 0, 0), (53, .iinc 5 1, 3, 0, 0, 0, 0), (56, .goto (-53), 3, 0, 3, 0, 0), (59, .iconst 0, 1, 0, 0, 0, 0), (60, .ireturn, 1, 0, 0, 0, 0)]
def zm27 : zMI := (⟨"CommaCopies$Laws", "haveOneInCommon", "(JJ)Z"⟩, prog_5_method_13_code, 6, (Option.some Jvm.ClassFile.FieldType.boolean), false, 3, (709, 708, 36, 91), zc27)
/-- CommaCopies$Laws.admits(II)Z -/
def zc28 : List zEnt := [(0, .iconst 0, 1, 0, 0, 0, 0), (1, .istore_n 3, 1, 0, 0, 0, 0), (2, .iload_n 3, 1, 0, 0, 0, 0), (3, .aload_n 0, 1, 0, 0, 0, 0), (4, .getfield 12, 3, 0, 3, 0, 31), (7, .getfield 76, 3, 1, 2, 5, 37), (10, .if_icmp .ge 24, 3, 0, 34, 0, 0), (13, .aload_n 0, 1, 0, 0, 0, 0), (14, .getfield 12, 3, 0, 3, 0, 31), (17, .getfield 79, 3, 0, 2, 0, 38), (20, .iload_n 3, 1, 0, 0, 0, 0), (21, .iaload, 1, 0, 0, 0, 0), (22, .iload_n 2, 1, 0, 0, 0, 0), (23, .if_icmp .ne 5, 3, 0, 28, 0, 0), (26, .iconst 0, 1, 0, 0, 0, 0), (27, .ireturn, 1, 0, 0, 0, 0), (28, .iinc 3 1, 3, 0, 0, 0, 0), (31, .goto (-29), 3, 0, 2, 0, 0), (34, .iload_n 1, 1, 0, 0, 0, 0), (35, .ifCond .ne 13, 3, 0, 48, 0, 0), (38, .aload_n 0, 1, 0, 0, 0, 0), (39, .iload_n 2, 1, 0, 0, 0, 0), (40, .invokevirtual 106, 3, 0, 29, 2, 25), (43, .ifCond .eq 5, 3, 0, 48, 0, 0), (46, .iconst 0, 1, 0, 0, 0, 0), (47, .ireturn, 1, 0, 0, 0, 0), (48, .aload_n 0, 1, 0, 0, 0, 0), (49, .iload_n 1, 1, 0, 0, 0, 0), (50, .iconst 0, 1, 0, 0, 0, 0), (51, .aload_n 0, 1, 0, 0, 0, 0), (52, .getfield 12, 3, 0, 3, 0, 31), (55, .iload_n 2, 1, 0, 0, 0, 0), (56, .invokevirtual 109, 3, 0, 13, 2, 26), (59, .invokevirtual 112, 3, 0, 30, 4, 27), (62, .ifCond .eq 5, 3, 0, 67, 0, 0), (65, .iconst 0, 1, 0, 0, 0, 0), (66, .ireturn, 1, 0, 0, 0, 0), (67, .iconst 0, 1, 0, 0, 0, 0), (68, .istore_n 3, 1, 0, 0, 0, 0), (69, .iload_n 3, 1, 0, 0, 0, 0), (70, .aload_n 0, 1, 0, 0, 0, 0), (71, .getfield 12, 3, 0, 3, 0, 31), (74, .getfield 46, 3, 1, 2, 4, 32), (77, .if_icmp .ge 80, 3, 0, 157, 0, 0), (80, .aload_n 0, 1, 0, 0, 0, 0), (81, .getfield 12, 3, 0, 3, 0, 31), (84, .getfield 60, 3, 0, 2, 1, 33), (87, .iload_n 3, 1, 0, 0, 0, 0), (88, .iaload, 1, 0, 0, 0, 0), (89, .invokestatic 116, 3, 0, 180, 1, 28), (92, .aload_n 0, 1, 0, 0, 0, 0), (93, .getfield 12, 3, 0, 3, 0, 31), (96, .getfield 121, 3, 1, 2, 6, 44), (99, .if_icmp .ge 7, 3, 0, 106, 0, 0), (102, .iconst 1, 1, 0, 0, 0, 0), (103, .goto 4, 3, 0, 107, 0, 0), (106, .iconst 0, 1, 0, 0, 0, 0), (107, .istore 4, 2, 0, 0, 0, 0), (109, .iload 4, 2, 0, 0, 0, 0), (111, .ifCond .eq 40, 3, 0, 151, 0, 0), (114, .aload_n 0, 1, 0, 0, 0, 0), (115, .iload_n 1, 1, 0, 0, 0, 0), (116, .aload_n 0, 1, 0, 0, 0, 0), (117, .getfield 12, 3, 0, 3, 0, 31), (120, .getfield 60, 3, 0, 2, 1, 33), (123, .iload_n 3, 1, 0, 0, 0, 0), (124, .iaload, 1, 0, 0, 0, 0), (125, .aload_n 0, 1, 0, 0, 0, 0), (126, .getfield 12, 3, 0, 3, 0, 31), (129, .aload_n 0, 1, 0, 0, 0, 0), (130, .getfield 12, 3, 0, 3, 0, 31), (133, .getfield 124, 3, 0, 2, 2, 45), (136, .iload_n 3, 1, 0, 0, 0, 0), (137, .iaload, 1, 0, 0, 0, 0), (138, .iload_n 2, 1, 0, 0, 0, 0), (139, .ior, 1, 0, 0, 0, 0), (140, .invokevirtual 109, 3, 0, 13, 2, 26), (143, .invokevirtual 112, 3, 0, 30, 4, 27), (146, .ifCond .eq 5, 3, 0, 151, 0, 0), (149, .iconst 0, 1, 0, 0, 0, 0), (150, .ireturn, 1, 0, 0, 0, 0), (151, .iinc 3 1, 3, 0, 0, 0, 0), (154, .goto (-85), 3, 0, 69, 0, 0), (157, .iconst 1, 1, 0, 0, 0, 0), (158, .ireturn, 1, 0, 0, 0, 0)]
def zm28 : zMI := (⟨"CommaCopies$Laws", "admits", "(II)Z"⟩, prog_5_method_14_code, 5, (Option.some Jvm.ClassFile.FieldType.boolean), false, 3, (737, 736, 39, 91), zc28)
/-- CommaCopies$Laws.isFramed(I)Z -/
def zc29 : List zEnt := [(0, .iconst 0, 1, 0, 0, 0, 0), (1, .istore_n 2, 1, 0, 0, 0, 0), (2, .iload_n 2, 1, 0, 0, 0, 0), (3, .aload_n 0, 1, 0, 0, 0, 0), (4, .getfield 12, 3, 0, 3, 0, 31), (7, .getfield 46, 3, 1, 2, 4, 32), (10, .if_icmp .ge 27, 3, 0, 37, 0, 0), (13, .iload_n 1, 1, 0, 0, 0, 0), (14, .aload_n 0, 1, 0, 0, 0, 0), (15, .getfield 12, 3, 0, 3, 0, 31), (18, .getfield 63, 3, 0, 2, 3, 34), (21, .iload_n 2, 1, 0, 0, 0, 0), (22, .iaload, 1, 0, 0, 0, 0), (23, .iconst (-1), 1, 0, 0, 0, 0), (24, .ixor, 1, 0, 0, 0, 0), (25, .iand, 1, 0, 0, 0, 0), (26, .ifCond .ne 5, 3, 0, 31, 0, 0), (29, .iconst 1, 1, 0, 0, 0, 0), (30, .ireturn, 1, 0, 0, 0, 0), (31, .iinc 2 1, 3, 0, 0, 0, 0), (34, .goto (-32), 3, 0, 2, 0, 0), (37, .iconst 0, 1, 0, 0, 0, 0), (38, .ireturn, 1, 0, 0, 0, 0)]
def zm29 : zMI := (⟨"CommaCopies$Laws", "isFramed", "(I)Z"⟩, prog_5_method_15_code, 3, (Option.some Jvm.ClassFile.FieldType.boolean), false, 3, (741, 740, 40, 91), zc29)
/-- CommaCopies$Laws.harms(III)Z -/
def zc30 : List zEnt := [(0, .bipush 31, 2, 0, 0, 0, 0), (2, .aload_n 0, 1, 0, 0, 0, 0), (3, .getfield 12, 3, 0, 3, 0, 31), (6, .getfield 127, 3, 1, 2, 8, 46), (9, .imul, 1, 0, 0, 0, 0), (10, .istore 4, 2, 0, 0, 0, 0), (12, .iload_n 1, 1, 0, 0, 0, 0), (13, .ifCond .ne 22, 3, 0, 35, 0, 0), (16, .aload_n 0, 1, 0, 0, 0, 0), (17, .iload_n 2, 1, 0, 0, 0, 0), (18, .iload_n 3, 1, 0, 0, 0, 0), (19, .iload 4, 2, 0, 0, 0, 0), (21, .invokevirtual 66, 3, 0, 20, 4, 19), (24, .ifCond .lt 7, 3, 0, 31, 0, 0), (27, .iconst 1, 1, 0, 0, 0, 0), (28, .goto 24, 3, 0, 52, 0, 0), (31, .iconst 0, 1, 0, 0, 0, 0), (32, .goto 20, 3, 0, 52, 0, 0), (35, .aload_n 0, 1, 0, 0, 0, 0), (36, .iload_n 2, 1, 0, 0, 0, 0), (37, .iload_n 3, 1, 0, 0, 0, 0), (38, .iload 4, 2, 0, 0, 0, 0), (40, .iconst 0, 1, 0, 0, 0, 0), (41, .invokevirtual 82, 3, 0, 22, 5, 20), (44, .ifCond .lt 7, 3, 0, 51, 0, 0), (47, .iconst 1, 1, 0, 0, 0, 0), (48, .goto 4, 3, 0, 52, 0, 0), (51, .iconst 0, 1, 0, 0, 0, 0), (52, .ireturn, 1, 0, 0, 0, 0)]
def zm30 : zMI := (⟨"CommaCopies$Laws", "harms", "(III)Z"⟩, prog_5_method_16_code, 5, (Option.some Jvm.ClassFile.FieldType.boolean), false, 3, (746, 745, 41, 91), zc30)
/-- CommaCopies$Letter.faultAt([BI)I -/
def zc31 : List zEnt := [(0, .iconst 0, 1, 0, 0, 0, 0), (1, .istore_n 2, 1, 0, 0, 0, 0), (2, .iconst (-1), 1, 0, 0, 0, 0), (3, .istore_n 3, 1, 0, 0, 0, 0), (4, .iconst 0, 1, 0, 0, 0, 0), (5, .istore 4, 2, 0, 0, 0, 0), (7, .iconst 0, 1, 0, 0, 0, 0), (8, .istore 5, 2, 0, 0, 0, 0), (10, .iload 5, 2, 0, 0, 0, 0), (12, .iload_n 1, 1, 0, 0, 0, 0), (13, .if_icmp .ge 111, 3, 0, 124, 0, 0), (16, .aload_n 0, 1, 0, 0, 0, 0), (17, .iload 5, 2, 0, 0, 0, 0), (19, .baload, 1, 0, 0, 0, 0), (20, .istore 6, 2, 0, 0, 0, 0), (22, .iload 6, 2, 0, 0, 0, 0), (24, .bipush 91, 2, 0, 0, 0, 0), (26, .if_icmp .ne 27, 3, 0, 53, 0, 0), (29, .iload_n 3, 1, 0, 0, 0, 0), (30, .ifCond .ge 9, 3, 0, 39, 0, 0), (33, .iload_n 2, 1, 0, 0, 0, 0), (34, .bipush 6, 2, 0, 0, 0, 0), (36, .if_icmp .ne 6, 3, 0, 42, 0, 0), (39, .iload 5, 2, 0, 0, 0, 0), (41, .ireturn, 1, 0, 0, 0, 0), (42, .iinc 2 1, 3, 0, 0, 0, 0), (45, .iconst 0, 1, 0, 0, 0, 0), (46, .istore_n 3, 1, 0, 0, 0, 0), (47, .iconst 0, 1, 0, 0, 0, 0), (48, .istore 4, 2, 0, 0, 0, 0), (50, .goto 68, 3, 0, 118, 0, 0), (53, .iload 6, 2, 0, 0, 0, 0), (55, .bipush 47, 2, 0, 0, 0, 0), (57, .if_icmp .ne 24, 3, 0, 81, 0, 0), (60, .iload_n 3, 1, 0, 0, 0, 0), (61, .ifCond .lt 8, 3, 0, 69, 0, 0), (64, .iload_n 3, 1, 0, 0, 0, 0), (65, .iconst 3, 1, 0, 0, 0, 0), (66, .if_icmp .ne 6, 3, 0, 72, 0, 0), (69, .iload 5, 2, 0, 0, 0, 0), (71, .ireturn, 1, 0, 0, 0, 0), (72, .iinc 3 1, 3, 0, 0, 0, 0), (75, .iconst 0, 1, 0, 0, 0, 0), (76, .istore 4, 2, 0, 0, 0, 0), (78, .goto 40, 3, 0, 118, 0, 0), (81, .iload 6, 2, 0, 0, 0, 0), (83, .bipush 93, 2, 0, 0, 0, 0), (85, .if_icmp .ne 16, 3, 0, 101, 0, 0), (88, .iload_n 3, 1, 0, 0, 0, 0), (89, .iconst 1, 1, 0, 0, 0, 0), (90, .if_icmp .ge 6, 3, 0, 96, 0, 0), (93, .iload 5, 2, 0, 0, 0, 0), (95, .ireturn, 1, 0, 0, 0, 0), (96, .iconst (-1), 1, 0, 0, 0, 0), (97, .istore_n 3, 1, 0, 0, 0, 0), (98, .goto 20, 3, 0, 118, 0, 0), (101, .iload_n 3, 1, 0, 0, 0, 0), (102, .ifCond .lt 16, 3, 0, 118, 0, 0), (105, .iload 4, 2, 0, 0, 0, 0), (107, .bipush 8, 2, 0, 0, 0, 0), (109, .if_icmp .ne 6, 3, 0, 115, 0, 0), (112, .iload 5, 2, 0, 0, 0, 0), (114, .ireturn, 1, 0, 0, 0, 0), (115, .iinc 4 1, 3, 0, 0, 0, 0), (118, .iinc 5 1, 3, 0, 0, 0, 0), (121, .goto (-111), 3, 0, 10, 0, 0), (124, .iload_n 3, 1, 0, 0, 0, 0), (125, .ifCond .ge 7, 3, 0, 132, 0, 0), (128, .iload_n 1, 1, 0, 0, 0, 0), (129, .ifCond .ne 7, 3, 0, 136, 0, 0), (132, .iload_n 1, 1, 0, 0, 0, 0), (133, .goto 4, 3, 0, 137, 0, 0), (136, .iconst (-1), 1, 0, 0, 0, 0), (137, .ireturn, 1, 0, 0, 0, 0)]
def zm31 : zMI := (⟨"CommaCopies$Letter", "faultAt", "([BI)I"⟩, prog_6_method_2_code, 7, (Option.some Jvm.ClassFile.FieldType.int), true, 4, (443, 442, 0, 89), zc31)
/-- CommaCopies$Letter.read([BI)V -/
def zc32 : List zEnt := [(0, .aload_n 0, 1, 0, 0, 0, 0), (1, .iconst 1, 1, 0, 0, 0, 0), (2, .putfield 25, 3, 2, 4, 4, 47), (5, .aload_n 0, 1, 0, 0, 0, 0), (6, .iconst 0, 1, 0, 0, 0, 0), (7, .putfield 29, 3, 1, 4, 6, 48), (10, .aload_n 0, 1, 0, 0, 0, 0), (11, .iload_n 2, 1, 0, 0, 0, 0), (12, .putfield 33, 3, 1, 4, 5, 49), (15, .aload_n 1, 1, 0, 0, 0, 0), (16, .iconst 0, 1, 0, 0, 0, 0), (17, .aload_n 0, 1, 0, 0, 0, 0), (18, .getfield 9, 3, 0, 4, 0, 50), (21, .iconst 0, 1, 0, 0, 0, 0), (22, .iload_n 2, 1, 0, 0, 0, 0), (23, .invokestatic 36, 3, 0, 9999, 5, 29), (26, .iconst 0, 1, 0, 0, 0, 0), (27, .istore_n 3, 1, 0, 0, 0, 0), (28, .iconst 0, 1, 0, 0, 0, 0), (29, .istore 4, 2, 0, 0, 0, 0), (31, .iload 4, 2, 0, 0, 0, 0), (33, .iload_n 2, 1, 0, 0, 0, 0), (34, .if_icmp .ge 117, 3, 0, 151, 0, 0), (37, .aload_n 1, 1, 0, 0, 0, 0), (38, .iload 4, 2, 0, 0, 0, 0), (40, .baload, 1, 0, 0, 0, 0), (41, .istore 5, 2, 0, 0, 0, 0), (43, .iload 5, 2, 0, 0, 0, 0), (45, .bipush 91, 2, 0, 0, 0, 0), (47, .if_icmp .ne 23, 3, 0, 70, 0, 0), (50, .aload_n 0, 1, 0, 0, 0, 0), (51, .getfield 29, 3, 1, 4, 6, 48), (54, .iconst 4, 1, 0, 0, 0, 0), (55, .imul, 1, 0, 0, 0, 0), (56, .istore_n 3, 1, 0, 0, 0, 0), (57, .aload_n 0, 1, 0, 0, 0, 0), (58, .getfield 19, 3, 0, 4, 2, 51), (61, .iload_n 3, 1, 0, 0, 0, 0), (62, .iload 4, 2, 0, 0, 0, 0), (64, .iconst 1, 1, 0, 0, 0, 0), (65, .iadd, 1, 0, 0, 0, 0), (66, .iastore, 1, 0, 0, 0, 0), (67, .goto 78, 3, 0, 145, 0, 0), (70, .iload 5, 2, 0, 0, 0, 0), (72, .bipush 47, 2, 0, 0, 0, 0), (74, .if_icmp .ne 27, 3, 0, 101, 0, 0), (77, .aload_n 0, 1, 0, 0, 0, 0), (78, .getfield 22, 3, 0, 4, 3, 52), (81, .iload_n 3, 1, 0, 0, 0, 0), (82, .iload 4, 2, 0, 0, 0, 0), (84, .iastore, 1, 0, 0, 0, 0), (85, .iinc 3 1, 3, 0, 0, 0, 0), (88, .aload_n 0, 1, 0, 0, 0, 0), (89, .getfield 19, 3, 0, 4, 2, 51), (92, .iload_n 3, 1, 0, 0, 0, 0), (93, .iload 4, 2, 0, 0, 0, 0), (95, .iconst 1, 1, 0, 0, 0, 0), (96, .iadd, 1, 0, 0, 0, 0), (97, .iastore, 1, 0, 0, 0, 0), (98, .goto 47, 3, 0, 145, 0, 0), (101, .iload 5, 2, 0, 0, 0, 0), (103, .bipush 93, 2, 0, 0, 0, 0), (105, .if_icmp .ne 40, 3, 0, 145, 0, 0), (108, .aload_n 0, 1, 0, 0, 0, 0), (109, .getfield 22, 3, 0, 4, 3, 52), (112, .iload_n 3, 1, 0, 0, 0, 0), (113, .iload 4, 2, 0, 0, 0, 0), (115, .iastore, 1, 0, 0, 0, 0), (116, .aload_n 0, 1, 0, 0, 0, 0), (117, .getfield 15, 3, 0, 4, 1, 53), (120, .aload_n 0, 1, 0, 0, 0, 0), (121, .getfield 29, 3, 1, 4, 6, 48), (124, .iload_n 3, 1, 0, 0, 0, 0), (125, .aload_n 0, 1, 0, 0, 0, 0), (126, .getfield 29, 3, 1, 4, 6, 48), (129, .iconst 4, 1, 0, 0, 0, 0), (130, .imul, 1, 0, 0, 0, 0), (131, .isub, 1, 0, 0, 0, 0), (132, .iconst 1, 1, 0, 0, 0, 0), (133, .iadd, 1, 0, 0, 0, 0), (134, .iastore, 1, 0, 0, 0, 0), (135, .aload_n 0, 1, 0, 0, 0, 0), (136, .dup, 1, 0, 0, 0, 0), (137, .getfield 29, 3, 1, 4, 6, 48), (140, .iconst 1, 1, 0, 0, 0, 0), (141, .iadd, 1, 0, 0, 0, 0), (142, .putfield 29, 3, 1, 4, 6, 48), (145, .iinc 4 1, 3, 0, 0, 0, 0), (148, .goto (-117), 3, 0, 31, 0, 0), (151, .return_, 1, 0, 0, 0, 0)]
def zm32 : zMI := (⟨"CommaCopies$Letter", "read", "([BI)V"⟩, prog_6_method_3_code, 6, (Option.none : Option Jvm.ClassFile.FieldType), false, 4, (451, 450, 2, 89), zc32)
/-- CommaCopies$Letter.takeFrom(LCommaCopies$Letter;)V -/
def zc33 : List zEnt := [(0, .aload_n 1, 1, 0, 0, 0, 0), (1, .getfield 9, 3, 0, 4, 0, 50), (4, .iconst 0, 1, 0, 0, 0, 0), (5, .aload_n 0, 1, 0, 0, 0, 0), (6, .getfield 9, 3, 0, 4, 0, 50), (9, .iconst 0, 1, 0, 0, 0, 0), (10, .bipush 120, 2, 0, 0, 0, 0), (12, .invokestatic 36, 3, 0, 9999, 5, 29), (15, .aload_n 1, 1, 0, 0, 0, 0), (16, .getfield 15, 3, 0, 4, 1, 53), (19, .iconst 0, 1, 0, 0, 0, 0), (20, .aload_n 0, 1, 0, 0, 0, 0), (21, .getfield 15, 3, 0, 4, 1, 53), (24, .iconst 0, 1, 0, 0, 0, 0), (25, .bipush 6, 2, 0, 0, 0, 0), (27, .invokestatic 36, 3, 0, 9999, 5, 29), (30, .aload_n 1, 1, 0, 0, 0, 0), (31, .getfield 19, 3, 0, 4, 2, 51), (34, .iconst 0, 1, 0, 0, 0, 0), (35, .aload_n 0, 1, 0, 0, 0, 0), (36, .getfield 19, 3, 0, 4, 2, 51), (39, .iconst 0, 1, 0, 0, 0, 0), (40, .bipush 24, 2, 0, 0, 0, 0), (42, .invokestatic 36, 3, 0, 9999, 5, 29), (45, .aload_n 1, 1, 0, 0, 0, 0), (46, .getfield 22, 3, 0, 4, 3, 52), (49, .iconst 0, 1, 0, 0, 0, 0), (50, .aload_n 0, 1, 0, 0, 0, 0), (51, .getfield 22, 3, 0, 4, 3, 52), (54, .iconst 0, 1, 0, 0, 0, 0), (55, .bipush 24, 2, 0, 0, 0, 0), (57, .invokestatic 36, 3, 0, 9999, 5, 29), (60, .aload_n 0, 1, 0, 0, 0, 0), (61, .aload_n 1, 1, 0, 0, 0, 0), (62, .getfield 25, 3, 2, 4, 4, 47), (65, .putfield 25, 3, 2, 4, 4, 47), (68, .aload_n 0, 1, 0, 0, 0, 0), (69, .aload_n 1, 1, 0, 0, 0, 0), (70, .getfield 33, 3, 1, 4, 5, 49), (73, .putfield 33, 3, 1, 4, 5, 49), (76, .aload_n 0, 1, 0, 0, 0, 0), (77, .aload_n 1, 1, 0, 0, 0, 0), (78, .getfield 29, 3, 1, 4, 6, 48), (81, .putfield 29, 3, 1, 4, 6, 48), (84, .return_, 1, 0, 0, 0, 0)]
def zm33 : zMI := (⟨"CommaCopies$Letter", "takeFrom", "(LCommaCopies$Letter;)V"⟩, prog_6_method_4_code, 2, (Option.none : Option Jvm.ClassFile.FieldType), false, 4, (858, 857, 55, 89), zc33)
/-- CommaCopies$Letter.isPlace(I)Z -/
def zc34 : List zEnt := [(0, .iload_n 1, 1, 0, 0, 0, 0), (1, .ifCond .lt 15, 3, 0, 16, 0, 0), (4, .iload_n 1, 1, 0, 0, 0, 0), (5, .aload_n 0, 1, 0, 0, 0, 0), (6, .getfield 29, 3, 1, 4, 6, 48), (9, .if_icmp .ge 7, 3, 0, 16, 0, 0), (12, .iconst 1, 1, 0, 0, 0, 0), (13, .goto 4, 3, 0, 17, 0, 0), (16, .iconst 0, 1, 0, 0, 0, 0), (17, .ireturn, 1, 0, 0, 0, 0)]
def zm34 : zMI := (⟨"CommaCopies$Letter", "isPlace", "(I)Z"⟩, prog_6_method_5_code, 2, (Option.some Jvm.ClassFile.FieldType.boolean), false, 4, (465, 464, 3, 89), zc34)
/-- CommaCopies$Letter.isChoice(II)Z -/
def zc35 : List zEnt := [(0, .aload_n 0, 1, 0, 0, 0, 0), (1, .iload_n 1, 1, 0, 0, 0, 0), (2, .invokevirtual 42, 3, 0, 34, 2, 30), (5, .ifCond .eq 21, 3, 0, 26, 0, 0), (8, .iload_n 2, 1, 0, 0, 0, 0), (9, .ifCond .lt 17, 3, 0, 26, 0, 0), (12, .iload_n 2, 1, 0, 0, 0, 0), (13, .aload_n 0, 1, 0, 0, 0, 0), (14, .getfield 15, 3, 0, 4, 1, 53), (17, .iload_n 1, 1, 0, 0, 0, 0), (18, .iaload, 1, 0, 0, 0, 0), (19, .if_icmp .ge 7, 3, 0, 26, 0, 0), (22, .iconst 1, 1, 0, 0, 0, 0), (23, .goto 4, 3, 0, 27, 0, 0), (26, .iconst 0, 1, 0, 0, 0, 0), (27, .ireturn, 1, 0, 0, 0, 0)]
def zm35 : zMI := (⟨"CommaCopies$Letter", "isChoice", "(II)Z"⟩, prog_6_method_6_code, 3, (Option.some Jvm.ClassFile.FieldType.boolean), false, 4, (473, 472, 4, 89), zc35)
/-- CommaCopies$Letter.allPlaces()I -/
def zc36 : List zEnt := [(0, .iconst 1, 1, 0, 0, 0, 0), (1, .aload_n 0, 1, 0, 0, 0, 0), (2, .getfield 29, 3, 1, 4, 6, 48), (5, .ishl, 1, 0, 0, 0, 0), (6, .iconst 1, 1, 0, 0, 0, 0), (7, .isub, 1, 0, 0, 0, 0), (8, .ireturn, 1, 0, 0, 0, 0)]
def zm36 : zMI := (⟨"CommaCopies$Letter", "allPlaces", "()I"⟩, prog_6_method_7_code, 1, (Option.some Jvm.ClassFile.FieldType.int), false, 4, (669, 668, 29, 89), zc36)
/-- CommaCopies$Letter.plainStart(I)I -/
def zc37 : List zEnt := [(0, .iload_n 1, 1, 0, 0, 0, 0), (1, .ifCond .ne 5, 3, 0, 6, 0, 0), (4, .iconst 0, 1, 0, 0, 0, 0), (5, .ireturn, 1, 0, 0, 0, 0), (6, .iload_n 1, 1, 0, 0, 0, 0), (7, .iconst 1, 1, 0, 0, 0, 0), (8, .isub, 1, 0, 0, 0, 0), (9, .iconst 4, 1, 0, 0, 0, 0), (10, .imul, 1, 0, 0, 0, 0), (11, .aload_n 0, 1, 0, 0, 0, 0), (12, .getfield 15, 3, 0, 4, 1, 53), (15, .iload_n 1, 1, 0, 0, 0, 0), (16, .iconst 1, 1, 0, 0, 0, 0), (17, .isub, 1, 0, 0, 0, 0), (18, .iaload, 1, 0, 0, 0, 0), (19, .iadd, 1, 0, 0, 0, 0), (20, .iconst 1, 1, 0, 0, 0, 0), (21, .isub, 1, 0, 0, 0, 0), (22, .istore_n 2, 1, 0, 0, 0, 0), (23, .aload_n 0, 1, 0, 0, 0, 0), (24, .getfield 22, 3, 0, 4, 3, 52), (27, .iload_n 2, 1, 0, 0, 0, 0), (28, .iaload, 1, 0, 0, 0, 0), (29, .iconst 1, 1, 0, 0, 0, 0), (30, .iadd, 1, 0, 0, 0, 0), (31, .ireturn, 1, 0, 0, 0, 0)]
def zm37 : zMI := (⟨"CommaCopies$Letter", "plainStart", "(I)I"⟩, prog_6_method_8_code, 3, (Option.some Jvm.ClassFile.FieldType.int), false, 4, (527, 526, 10, 89), zc37)
/-- CommaCopies$Letter.plainEnd(I)I -/
def zc38 : List zEnt := [(0, .iload_n 1, 1, 0, 0, 0, 0), (1, .aload_n 0, 1, 0, 0, 0, 0), (2, .getfield 29, 3, 1, 4, 6, 48), (5, .if_icmp .ge 16, 3, 0, 21, 0, 0), (8, .aload_n 0, 1, 0, 0, 0, 0), (9, .getfield 19, 3, 0, 4, 2, 51), (12, .iload_n 1, 1, 0, 0, 0, 0), (13, .iconst 4, 1, 0, 0, 0, 0), (14, .imul, 1, 0, 0, 0, 0), (15, .iaload, 1, 0, 0, 0, 0), (16, .iconst 1, 1, 0, 0, 0, 0), (17, .isub, 1, 0, 0, 0, 0), (18, .goto 7, 3, 0, 25, 0, 0), (21, .aload_n 0, 1, 0, 0, 0, 0), (22, .getfield 33, 3, 1, 4, 5, 49), (25, .ireturn, 1, 0, 0, 0, 0)]
def zm38 : zMI := (⟨"CommaCopies$Letter", "plainEnd", "(I)I"⟩, prog_6_method_9_code, 2, (Option.some Jvm.ClassFile.FieldType.int), false, 4, (531, 530, 11, 89), zc38)
/-- CommaCopies$Letter.byteAt([III)I -/
def zc39 : List zEnt := [(0, .iload_n 3, 1, 0, 0, 0, 0), (1, .istore 4, 2, 0, 0, 0, 0), (3, .iconst 0, 1, 0, 0, 0, 0), (4, .istore 5, 2, 0, 0, 0, 0), (6, .iload 5, 2, 0, 0, 0, 0), (8, .aload_n 0, 1, 0, 0, 0, 0), (9, .getfield 29, 3, 1, 4, 6, 48), (12, .if_icmp .gt 122, 3, 0, 134, 0, 0), (15, .aload_n 0, 1, 0, 0, 0, 0), (16, .iload 5, 2, 0, 0, 0, 0), (18, .invokevirtual 46, 3, 0, 37, 2, 31), (21, .istore 6, 2, 0, 0, 0, 0), (23, .aload_n 0, 1, 0, 0, 0, 0), (24, .iload 5, 2, 0, 0, 0, 0), (26, .invokevirtual 50, 3, 0, 38, 2, 32), (29, .iload 6, 2, 0, 0, 0, 0), (31, .isub, 1, 0, 0, 0, 0), (32, .istore 7, 2, 0, 0, 0, 0), (34, .iload 4, 2, 0, 0, 0, 0), (36, .iload 7, 2, 0, 0, 0, 0), (38, .if_icmp .ge 14, 3, 0, 52, 0, 0), (41, .aload_n 0, 1, 0, 0, 0, 0), (42, .getfield 9, 3, 0, 4, 0, 50), (45, .iload 6, 2, 0, 0, 0, 0), (47, .iload 4, 2, 0, 0, 0, 0), (49, .iadd, 1, 0, 0, 0, 0), (50, .baload, 1, 0, 0, 0, 0), (51, .ireturn, 1, 0, 0, 0, 0), (52, .iload 4, 2, 0, 0, 0, 0), (54, .iload 7, 2, 0, 0, 0, 0), (56, .isub, 1, 0, 0, 0, 0), (57, .istore 4, 2, 0, 0, 0, 0), (59, .iload 5, 2, 0, 0, 0, 0), (61, .aload_n 0, 1, 0, 0, 0, 0), (62, .getfield 29, 3, 1, 4, 6, 48), (65, .if_icmp .ge 63, 3, 0, 128, 0, 0), (68, .iload 5, 2, 0, 0, 0, 0), (70, .iconst 4, 1, 0, 0, 0, 0), (71, .imul, 1, 0, 0, 0, 0), (72, .aload_n 1, 1, 0, 0, 0, 0), (73, .iload_n 2, 1, 0, 0, 0, 0), (74, .iload 5, 2, 0, 0, 0, 0), (76, .iadd, 1, 0, 0, 0, 0), (77, .iaload, 1, 0, 0, 0, 0), (78, .iadd, 1, 0, 0, 0, 0), (79, .istore 8, 2, 0, 0, 0, 0), (81, .aload_n 0, 1, 0, 0, 0, 0), (82, .getfield 22, 3, 0, 4, 3, 52), (85, .iload 8, 2, 0, 0, 0, 0), (87, .iaload, 1, 0, 0, 0, 0), (88, .aload_n 0, 1, 0, 0, 0, 0), (89, .getfield 19, 3, 0, 4, 2, 51), (92, .iload 8, 2, 0, 0, 0, 0), (94, .iaload, 1, 0, 0, 0, 0), (95, .isub, 1, 0, 0, 0, 0), (96, .istore 7, 2, 0, 0, 0, 0), (98, .iload 4, 2, 0, 0, 0, 0), (100, .iload 7, 2, 0, 0, 0, 0), (102, .if_icmp .ge 19, 3, 0, 121, 0, 0), (105, .aload_n 0, 1, 0, 0, 0, 0), (106, .getfield 9, 3, 0, 4, 0, 50), (109, .aload_n 0, 1, 0, 0, 0, 0), (110, .getfield 19, 3, 0, 4, 2, 51), (113, .iload 8, 2, 0, 0, 0, 0), (115, .iaload, 1, 0, 0, 0, 0), (116, .iload 4, 2, 0, 0, 0, 0), (118, .iadd, 1, 0, 0, 0, 0), (119, .baload, 1, 0, 0, 0, 0), (120, .ireturn, 1, 0, 0, 0, 0), (121, .iload 4, 2, 0, 0, 0, 0), (123, .iload 7, 2, 0, 0, 0, 0), (125, .isub, 1, 0, 0, 0, 0), (126, .istore 4, 2, 0, 0, 0, 0), (128, .iinc 5 1, 3, 0, 0, 0, 0), (131, .goto (-125), 3, 0, 6, 0, 0), (134, .bipush (-4), 2, 0, 0, 0, 0), (136, .ireturn, 1, 0, 0, 0, 0)]
def zm39 : zMI := (⟨"CommaCopies$Letter", "byteAt", "([III)I"⟩, prog_6_method_10_code, 9, (Option.some Jvm.ClassFile.FieldType.int), false, 4, (523, 522, 9, 89), zc39)
/-- CommaCopies$Letter.countRows()I -/
def zc40 : List zEnt := [(0, .iconst 1, 1, 0, 0, 0, 0), (1, .istore_n 1, 1, 0, 0, 0, 0), (2, .iconst 0, 1, 0, 0, 0, 0), (3, .istore_n 2, 1, 0, 0, 0, 0), (4, .iload_n 2, 1, 0, 0, 0, 0), (5, .aload_n 0, 1, 0, 0, 0, 0), (6, .getfield 29, 3, 1, 4, 6, 48), (9, .if_icmp .ge 18, 3, 0, 27, 0, 0), (12, .iload_n 1, 1, 0, 0, 0, 0), (13, .aload_n 0, 1, 0, 0, 0, 0), (14, .getfield 15, 3, 0, 4, 1, 53), (17, .iload_n 2, 1, 0, 0, 0, 0), (18, .iaload, 1, 0, 0, 0, 0), (19, .imul, 1, 0, 0, 0, 0), (20, .istore_n 1, 1, 0, 0, 0, 0), (21, .iinc 2 1, 3, 0, 0, 0, 0), (24, .goto (-20), 3, 0, 4, 0, 0), (27, .iload_n 1, 1, 0, 0, 0, 0), (28, .ireturn, 1, 0, 0, 0, 0)]
def zm40 : zMI := (⟨"CommaCopies$Letter", "countRows", "()I"⟩, prog_6_method_11_code, 3, (Option.some Jvm.ClassFile.FieldType.int), false, 4, (726, 725, 37, 89), zc40)
/-- CommaCopies$Letter.rowAt(I[I)V -/
def zc41 : List zEnt := [(0, .iload_n 1, 1, 0, 0, 0, 0), (1, .istore_n 3, 1, 0, 0, 0, 0), (2, .aload_n 0, 1, 0, 0, 0, 0), (3, .getfield 29, 3, 1, 4, 6, 48), (6, .iconst 1, 1, 0, 0, 0, 0), (7, .isub, 1, 0, 0, 0, 0), (8, .istore 4, 2, 0, 0, 0, 0), (10, .iload 4, 2, 0, 0, 0, 0), (12, .ifCond .lt 35, 3, 0, 47, 0, 0), (15, .iconst 1, 1, 0, 0, 0, 0), (16, .aload_n 0, 1, 0, 0, 0, 0), (17, .getfield 15, 3, 0, 4, 1, 53), (20, .iload 4, 2, 0, 0, 0, 0), (22, .iaload, 1, 0, 0, 0, 0), (23, .invokestatic 53, 3, 0, 9998, 2, 33), (26, .istore 5, 2, 0, 0, 0, 0), (28, .aload_n 2, 1, 0, 0, 0, 0), (29, .iload 4, 2, 0, 0, 0, 0), (31, .iload_n 3, 1, 0, 0, 0, 0), (32, .iload 5, 2, 0, 0, 0, 0), (34, .irem, 1, 0, 0, 0, 0), (35, .iastore, 1, 0, 0, 0, 0), (36, .iload_n 3, 1, 0, 0, 0, 0), (37, .iload 5, 2, 0, 0, 0, 0), (39, .idiv, 1, 0, 0, 0, 0), (40, .istore_n 3, 1, 0, 0, 0, 0), (41, .iinc 4 (-1), 3, 0, 0, 0, 0), (44, .goto (-34), 3, 0, 10, 0, 0), (47, .return_, 1, 0, 0, 0, 0)]
def zm41 : zMI := (⟨"CommaCopies$Letter", "rowAt", "(I[I)V"⟩, prog_6_method_12_code, 6, (Option.none : Option Jvm.ClassFile.FieldType), false, 4, (730, 729, 38, 89), zc41)
/-- CommaCopies$Matcher.match(LCommaCopies$Letter;[BI[I)Z -/
def zc42 : List zEnt := [(0, .aload_n 1, 1, 0, 0, 0, 0), (1, .getfield 15, 3, 1, 4, 6, 54), (4, .istore 5, 2, 0, 0, 0, 0), (6, .iload 5, 2, 0, 0, 0, 0), (8, .ifCond .lt 48, 3, 0, 56, 0, 0), (11, .iconst 0, 1, 0, 0, 0, 0), (12, .istore 6, 2, 0, 0, 0, 0), (14, .iload 6, 2, 0, 0, 0, 0), (16, .iload_n 3, 1, 0, 0, 0, 0), (17, .if_icmp .gt 33, 3, 0, 50, 0, 0), (20, .aload_n 0, 1, 0, 0, 0, 0), (21, .getfield 11, 3, 0, 5, 0, 55), (24, .iload 5, 2, 0, 0, 0, 0), (26, .bipush 121, 2, 0, 0, 0, 0), (28, .imul, 1, 0, 0, 0, 0), (29, .iload 6, 2, 0, 0, 0, 0), (31, .iadd, 1, 0, 0, 0, 0), (32, .aload_n 0, 1, 0, 0, 0, 0), (33, .aload_n 1, 1, 0, 0, 0, 0), (34, .iload 5, 2, 0, 0, 0, 0), (36, .aload_n 2, 1, 0, 0, 0, 0), (37, .iload_n 3, 1, 0, 0, 0, 0), (38, .iload 6, 2, 0, 0, 0, 0), (40, .invokevirtual 21, 3, 0, 43, 6, 34), (43, .iastore, 1, 0, 0, 0, 0), (44, .iinc 6 1, 3, 0, 0, 0, 0), (47, .goto (-33), 3, 0, 14, 0, 0), (50, .iinc 5 (-1), 3, 0, 0, 0, 0), (53, .goto (-47), 3, 0, 6, 0, 0), (56, .aload_n 0, 1, 0, 0, 0, 0), (57, .getfield 11, 3, 0, 5, 0, 55), (60, .iconst 0, 1, 0, 0, 0, 0), (61, .iaload, 1, 0, 0, 0, 0), (62, .ifCond .ge 5, 3, 0, 67, 0, 0), (65, .iconst 0, 1, 0, 0, 0, 0), (66, .ireturn, 1, 0, 0, 0, 0), (67, .iconst 0, 1, 0, 0, 0, 0), (68, .istore 5, 2, 0, 0, 0, 0), (70, .iconst 0, 1, 0, 0, 0, 0), (71, .istore 6, 2, 0, 0, 0, 0), (73, .iload 6, 2, 0, 0, 0, 0), (75, .aload_n 1, 1, 0, 0, 0, 0), (76, .getfield 15, 3, 1, 4, 6, 54), (79, .if_icmp .ge 58, 3, 0, 137, 0, 0), (82, .aload_n 0, 1, 0, 0, 0, 0), (83, .getfield 11, 3, 0, 5, 0, 55), (86, .iload 6, 2, 0, 0, 0, 0), (88, .bipush 121, 2, 0, 0, 0, 0), (90, .imul, 1, 0, 0, 0, 0), (91, .iload 5, 2, 0, 0, 0, 0), (93, .iadd, 1, 0, 0, 0, 0), (94, .iaload, 1, 0, 0, 0, 0), (95, .istore 7, 2, 0, 0, 0, 0), (97, .aload 4, 2, 0, 0, 0, 0), (99, .iload 6, 2, 0, 0, 0, 0), (101, .iload 7, 2, 0, 0, 0, 0), (103, .iastore, 1, 0, 0, 0, 0), (104, .iload 5, 2, 0, 0, 0, 0), (106, .aload_n 1, 1, 0, 0, 0, 0), (107, .iload 6, 2, 0, 0, 0, 0), (109, .invokevirtual 25, 3, 0, 38, 2, 35), (112, .aload_n 1, 1, 0, 0, 0, 0), (113, .iload 6, 2, 0, 0, 0, 0), (115, .invokevirtual 29, 3, 0, 37, 2, 36), (118, .isub, 1, 0, 0, 0, 0), (119, .aload_n 1, 1, 0, 0, 0, 0), (120, .iload 6, 2, 0, 0, 0, 0), (122, .iload 7, 2, 0, 0, 0, 0), (124, .invokestatic 32, 3, 0, 44, 3, 37), (127, .iadd, 1, 0, 0, 0, 0), (128, .iadd, 1, 0, 0, 0, 0), (129, .istore 5, 2, 0, 0, 0, 0), (131, .iinc 6 1, 3, 0, 0, 0, 0), (134, .goto (-61), 3, 0, 73, 0, 0), (137, .iconst 1, 1, 0, 0, 0, 0), (138, .ireturn, 1, 0, 0, 0, 0)]
def zm42 : zMI := (⟨"CommaCopies$Matcher", "match", "(LCommaCopies$Letter;[BI[I)Z"⟩, prog_7_method_2_code, 8, (Option.some Jvm.ClassFile.FieldType.boolean), false, 5, (603, 602, 22, 93), zc42)
/-- CommaCopies$Matcher.pick(LCommaCopies$Letter;I[BII)I -/
def zc43 : List zEnt := [(0, .aload_n 1, 1, 0, 0, 0, 0), (1, .iload_n 2, 1, 0, 0, 0, 0), (2, .invokevirtual 29, 3, 0, 37, 2, 36), (5, .istore 6, 2, 0, 0, 0, 0), (7, .aload_n 1, 1, 0, 0, 0, 0), (8, .iload_n 2, 1, 0, 0, 0, 0), (9, .invokevirtual 25, 3, 0, 38, 2, 35), (12, .istore 7, 2, 0, 0, 0, 0), (14, .aload_n 1, 1, 0, 0, 0, 0), (15, .iload 6, 2, 0, 0, 0, 0), (17, .iload 7, 2, 0, 0, 0, 0), (19, .aload_n 3, 1, 0, 0, 0, 0), (20, .iload 4, 2, 0, 0, 0, 0), (22, .iload 5, 2, 0, 0, 0, 0), (24, .invokestatic 36, 3, 0, 45, 6, 38), (27, .ifCond .ne 5, 3, 0, 32, 0, 0), (30, .iconst (-1), 1, 0, 0, 0, 0), (31, .ireturn, 1, 0, 0, 0, 0), (32, .iload 5, 2, 0, 0, 0, 0), (34, .iload 7, 2, 0, 0, 0, 0), (36, .iadd, 1, 0, 0, 0, 0), (37, .iload 6, 2, 0, 0, 0, 0), (39, .isub, 1, 0, 0, 0, 0), (40, .istore 8, 2, 0, 0, 0, 0), (42, .iload_n 2, 1, 0, 0, 0, 0), (43, .aload_n 1, 1, 0, 0, 0, 0), (44, .getfield 15, 3, 1, 4, 6, 54), (47, .if_icmp .ne 16, 3, 0, 63, 0, 0), (50, .iload 8, 2, 0, 0, 0, 0), (52, .iload 4, 2, 0, 0, 0, 0), (54, .if_icmp .ne 7, 3, 0, 61, 0, 0), (57, .iconst 0, 1, 0, 0, 0, 0), (58, .goto 4, 3, 0, 62, 0, 0), (61, .iconst (-1), 1, 0, 0, 0, 0), (62, .ireturn, 1, 0, 0, 0, 0), (63, .iconst 0, 1, 0, 0, 0, 0), (64, .istore 9, 2, 0, 0, 0, 0), (66, .iload 9, 2, 0, 0, 0, 0), (68, .aload_n 1, 1, 0, 0, 0, 0), (69, .getfield 40, 3, 0, 4, 1, 56), (72, .iload_n 2, 1, 0, 0, 0, 0), (73, .iaload, 1, 0, 0, 0, 0), (74, .if_icmp .ge 71, 3, 0, 145, 0, 0), (77, .iload_n 2, 1, 0, 0, 0, 0), (78, .iconst 4, 1, 0, 0, 0, 0), (79, .imul, 1, 0, 0, 0, 0), (80, .iload 9, 2, 0, 0, 0, 0), (82, .iadd, 1, 0, 0, 0, 0), (83, .istore 10, 2, 0, 0, 0, 0), (85, .aload_n 1, 1, 0, 0, 0, 0), (86, .aload_n 1, 1, 0, 0, 0, 0), (87, .getfield 43, 3, 0, 4, 2, 57), (90, .iload 10, 2, 0, 0, 0, 0), (92, .iaload, 1, 0, 0, 0, 0), (93, .aload_n 1, 1, 0, 0, 0, 0), (94, .getfield 46, 3, 0, 4, 3, 58), (97, .iload 10, 2, 0, 0, 0, 0), (99, .iaload, 1, 0, 0, 0, 0), (100, .aload_n 3, 1, 0, 0, 0, 0), (101, .iload 4, 2, 0, 0, 0, 0), (103, .iload 8, 2, 0, 0, 0, 0), (105, .invokestatic 36, 3, 0, 45, 6, 38), (108, .ifCond .eq 31, 3, 0, 139, 0, 0), (111, .aload_n 0, 1, 0, 0, 0, 0), (112, .getfield 11, 3, 0, 5, 0, 55), (115, .iload_n 2, 1, 0, 0, 0, 0), (116, .iconst 1, 1, 0, 0, 0, 0), (117, .iadd, 1, 0, 0, 0, 0), (118, .bipush 121, 2, 0, 0, 0, 0), (120, .imul, 1, 0, 0, 0, 0), (121, .iload 8, 2, 0, 0, 0, 0), (123, .iadd, 1, 0, 0, 0, 0), (124, .aload_n 1, 1, 0, 0, 0, 0), (125, .iload_n 2, 1, 0, 0, 0, 0), (126, .iload 9, 2, 0, 0, 0, 0), (128, .invokestatic 32, 3, 0, 44, 3, 37), (131, .iadd, 1, 0, 0, 0, 0), (132, .iaload, 1, 0, 0, 0, 0), (133, .ifCond .lt 6, 3, 0, 139, 0, 0), (136, .iload 9, 2, 0, 0, 0, 0), (138, .ireturn, 1, 0, 0, 0, 0), (139, .iinc 9 1, 3, 0, 0, 0, 0), (142, .goto (-76), 3, 0, 66, 0, 0), (145, .aload_n 0, 1, 0, 0, 0, 0), (146, .getfield 11, 3, 0, 5, 0, 55), (149, .iload_n 2, 1, 0, 0, 0, 0), (150, .iconst 1, 1, 0, 0, 0, 0), (151, .iadd, 1, 0, 0, 0, 0), (152, .bipush 121, 2, 0, 0, 0, 0), (154, .imul, 1, 0, 0, 0, 0), (155, .iload 8, 2, 0, 0, 0, 0), (157, .iadd, 1, 0, 0, 0, 0), (158, .iaload, 1, 0, 0, 0, 0), (159, .ifCond .lt 7, 3, 0, 166, 0, 0), (162, .iconst 4, 1, 0, 0, 0, 0), (163, .goto 4, 3, 0, 167, 0, 0), (166, .iconst (-1), 1, 0, 0, 0, 0), (167, .ireturn, 1, 0, 0, 0, 0)]
def zm43 : zMI := (⟨"CommaCopies$Matcher", "pick", "(LCommaCopies$Letter;I[BII)I"⟩, prog_7_method_3_code, 11, (Option.some Jvm.ClassFile.FieldType.int), false, 5, (607, 606, 23, 93), zc43)
/-- CommaCopies$Matcher.sizeOf(LCommaCopies$Letter;II)I -/
def zc44 : List zEnt := [(0, .iload_n 2, 1, 0, 0, 0, 0), (1, .iconst 4, 1, 0, 0, 0, 0), (2, .if_icmp .ne 5, 3, 0, 7, 0, 0), (5, .iconst 0, 1, 0, 0, 0, 0), (6, .ireturn, 1, 0, 0, 0, 0), (7, .iload_n 1, 1, 0, 0, 0, 0), (8, .iconst 4, 1, 0, 0, 0, 0), (9, .imul, 1, 0, 0, 0, 0), (10, .iload_n 2, 1, 0, 0, 0, 0), (11, .iadd, 1, 0, 0, 0, 0), (12, .istore_n 3, 1, 0, 0, 0, 0), (13, .aload_n 0, 1, 0, 0, 0, 0), (14, .getfield 46, 3, 0, 4, 3, 58), (17, .iload_n 3, 1, 0, 0, 0, 0), (18, .iaload, 1, 0, 0, 0, 0), (19, .aload_n 0, 1, 0, 0, 0, 0), (20, .getfield 43, 3, 0, 4, 2, 57), (23, .iload_n 3, 1, 0, 0, 0, 0), (24, .iaload, 1, 0, 0, 0, 0), (25, .isub, 1, 0, 0, 0, 0), (26, .ireturn, 1, 0, 0, 0, 0)]
def zm44 : zMI := (⟨"CommaCopies$Matcher", "sizeOf", "(LCommaCopies$Letter;II)I"⟩, prog_7_method_4_code, 4, (Option.some Jvm.ClassFile.FieldType.int), true, 5, (615, 614, 0, 93), zc44)
/-- CommaCopies$Matcher.stands(LCommaCopies$Letter;II[BII)Z -/
def zc45 : List zEnt := [(0, .iload_n 2, 1, 0, 0, 0, 0), (1, .iload_n 1, 1, 0, 0, 0, 0), (2, .isub, 1, 0, 0, 0, 0), (3, .iload 4, 2, 0, 0, 0, 0), (5, .iload 5, 2, 0, 0, 0, 0), (7, .isub, 1, 0, 0, 0, 0), (8, .if_icmp .le 5, 3, 0, 13, 0, 0), (11, .iconst 0, 1, 0, 0, 0, 0), (12, .ireturn, 1, 0, 0, 0, 0), (13, .iload_n 1, 1, 0, 0, 0, 0), (14, .istore 6, 2, 0, 0, 0, 0), (16, .iload 6, 2, 0, 0, 0, 0), (18, .iload_n 2, 1, 0, 0, 0, 0), (19, .if_icmp .ge 30, 3, 0, 49, 0, 0), (22, .aload_n 0, 1, 0, 0, 0, 0), (23, .getfield 49, 3, 0, 4, 0, 59), (26, .iload 6, 2, 0, 0, 0, 0), (28, .baload, 1, 0, 0, 0, 0), (29, .aload_n 3, 1, 0, 0, 0, 0), (30, .iload 5, 2, 0, 0, 0, 0), (32, .iload 6, 2, 0, 0, 0, 0), (34, .iadd, 1, 0, 0, 0, 0), (35, .iload_n 1, 1, 0, 0, 0, 0), (36, .isub, 1, 0, 0, 0, 0), (37, .baload, 1, 0, 0, 0, 0), (38, .if_icmp .eq 5, 3, 0, 43, 0, 0), (41, .iconst 0, 1, 0, 0, 0, 0), (42, .ireturn, 1, 0, 0, 0, 0), (43, .iinc 6 1, 3, 0, 0, 0, 0), (46, .goto (-30), 3, 0, 16, 0, 0), (49, .iconst 1, 1, 0, 0, 0, 0), (50, .ireturn, 1, 0, 0, 0, 0)]
def zm45 : zMI := (⟨"CommaCopies$Matcher", "stands", "(LCommaCopies$Letter;II[BII)Z"⟩, prog_7_method_5_code, 7, (Option.some Jvm.ClassFile.FieldType.boolean), true, 5, (612, 611, 0, 93), zc45)
/-- CommaCopies$Sheets.isSheet(I)Z -/
def zc46 : List zEnt := [(0, .iload_n 0, 1, 0, 0, 0, 0), (1, .ifCond .lt 12, 3, 0, 13, 0, 0), (4, .iload_n 0, 1, 0, 0, 0, 0), (5, .iconst 4, 1, 0, 0, 0, 0), (6, .if_icmp .ge 7, 3, 0, 13, 0, 0), (9, .iconst 1, 1, 0, 0, 0, 0), (10, .goto 4, 3, 0, 14, 0, 0), (13, .iconst 0, 1, 0, 0, 0, 0), (14, .ireturn, 1, 0, 0, 0, 0)]
def zm46 : zMI := (⟨"CommaCopies$Sheets", "isSheet", "(I)Z"⟩, prog_8_method_2_code, 1, (Option.some Jvm.ClassFile.FieldType.boolean), true, 6, (489, 488, 0, 90), zc46)
/-- CommaCopies$Sheets.isLane(I)Z -/
def zc47 : List zEnt := [(0, .iload_n 0, 1, 0, 0, 0, 0), (1, .ifCond .lt 12, 3, 0, 13, 0, 0), (4, .iload_n 0, 1, 0, 0, 0, 0), (5, .iconst 3, 1, 0, 0, 0, 0), (6, .if_icmp .ge 7, 3, 0, 13, 0, 0), (9, .iconst 1, 1, 0, 0, 0, 0), (10, .goto 4, 3, 0, 14, 0, 0), (13, .iconst 0, 1, 0, 0, 0, 0), (14, .ireturn, 1, 0, 0, 0, 0)]
def zm47 : zMI := (⟨"CommaCopies$Sheets", "isLane", "(I)Z"⟩, prog_8_method_3_code, 1, (Option.some Jvm.ClassFile.FieldType.boolean), true, 6, (492, 491, 0, 90), zc47)
/-- CommaCopies$Sheets.lay(III)I -/
def zc48 : List zEnt := [(0, .iload_n 1, 1, 0, 0, 0, 0), (1, .invokestatic 21, 3, 0, 46, 1, 39), (4, .ifCond .eq 16, 3, 0, 20, 0, 0), (7, .iload_n 2, 1, 0, 0, 0, 0), (8, .invokestatic 25, 3, 0, 47, 1, 40), (11, .ifCond .eq 9, 3, 0, 20, 0, 0), (14, .iload_n 3, 1, 0, 0, 0, 0), (15, .bipush 12, 2, 0, 0, 0, 0), (17, .if_icmp .le 5, 3, 0, 22, 0, 0), (20, .iconst (-1), 1, 0, 0, 0, 0), (21, .ireturn, 1, 0, 0, 0, 0), (22, .iload_n 3, 1, 0, 0, 0, 0), (23, .ifCond .ge 6, 3, 0, 29, 0, 0), (26, .bipush (-14), 2, 0, 0, 0, 0), (28, .ireturn, 1, 0, 0, 0, 0), (29, .aload_n 0, 1, 0, 0, 0, 0), (30, .getfield 11, 3, 0, 6, 0, 60), (33, .iload_n 1, 1, 0, 0, 0, 0), (34, .iload_n 2, 1, 0, 0, 0, 0), (35, .iastore, 1, 0, 0, 0, 0), (36, .aload_n 0, 1, 0, 0, 0, 0), (37, .getfield 15, 3, 0, 6, 1, 61), (40, .iload_n 1, 1, 0, 0, 0, 0), (41, .iload_n 3, 1, 0, 0, 0, 0), (42, .iastore, 1, 0, 0, 0, 0), (43, .iconst 0, 1, 0, 0, 0, 0), (44, .istore 4, 2, 0, 0, 0, 0), (46, .iload 4, 2, 0, 0, 0, 0), (48, .bipush 12, 2, 0, 0, 0, 0), (50, .if_icmp .ge 22, 3, 0, 72, 0, 0), (53, .aload_n 0, 1, 0, 0, 0, 0), (54, .getfield 18, 3, 0, 6, 2, 62), (57, .iload_n 1, 1, 0, 0, 0, 0), (58, .bipush 12, 2, 0, 0, 0, 0), (60, .imul, 1, 0, 0, 0, 0), (61, .iload 4, 2, 0, 0, 0, 0), (63, .iadd, 1, 0, 0, 0, 0), (64, .iconst 0, 1, 0, 0, 0, 0), (65, .iastore, 1, 0, 0, 0, 0), (66, .iinc 4 1, 3, 0, 0, 0, 0), (69, .goto (-23), 3, 0, 46, 0, 0), (72, .iload_n 3, 1, 0, 0, 0, 0), (73, .ireturn, 1, 0, 0, 0, 0)]
def zm48 : zMI := (⟨"CommaCopies$Sheets", "lay", "(III)I"⟩, prog_8_method_4_code, 5, (Option.some Jvm.ClassFile.FieldType.int), false, 6, (870, 869, 56, 90), zc48)
/-- CommaCopies$Sheets.remove(I)I -/
def zc49 : List zEnt := [(0, .iload_n 1, 1, 0, 0, 0, 0), (1, .invokestatic 21, 3, 0, 46, 1, 39), (4, .ifCond .ne 5, 3, 0, 9, 0, 0), (7, .iconst (-1), 1, 0, 0, 0, 0), (8, .ireturn, 1, 0, 0, 0, 0), (9, .aload_n 0, 1, 0, 0, 0, 0), (10, .getfield 11, 3, 0, 6, 0, 60), (13, .iload_n 1, 1, 0, 0, 0, 0), (14, .iaload, 1, 0, 0, 0, 0), (15, .iconst (-1), 1, 0, 0, 0, 0), (16, .if_icmp .ne 6, 3, 0, 22, 0, 0), (19, .bipush (-11), 2, 0, 0, 0, 0), (21, .ireturn, 1, 0, 0, 0, 0), (22, .aload_n 0, 1, 0, 0, 0, 0), (23, .getfield 11, 3, 0, 6, 0, 60), (26, .iload_n 1, 1, 0, 0, 0, 0), (27, .iconst (-1), 1, 0, 0, 0, 0), (28, .iastore, 1, 0, 0, 0, 0), (29, .aload_n 0, 1, 0, 0, 0, 0), (30, .getfield 15, 3, 0, 6, 1, 61), (33, .iload_n 1, 1, 0, 0, 0, 0), (34, .iaload, 1, 0, 0, 0, 0), (35, .ireturn, 1, 0, 0, 0, 0)]
def zm49 : zMI := (⟨"CommaCopies$Sheets", "remove", "(I)I"⟩, prog_8_method_5_code, 2, (Option.some Jvm.ClassFile.FieldType.int), false, 6, (878, 877, 57, 90), zc49)
/-- CommaCopies$Sheets.refusal(IIII)I -/
def zc50 : List zEnt := [(0, .iload_n 1, 1, 0, 0, 0, 0), (1, .invokestatic 21, 3, 0, 46, 1, 39), (4, .ifCond .eq 10, 3, 0, 14, 0, 0), (7, .iload_n 2, 1, 0, 0, 0, 0), (8, .invokestatic 25, 3, 0, 47, 1, 40), (11, .ifCond .ne 5, 3, 0, 16, 0, 0), (14, .iconst (-1), 1, 0, 0, 0, 0), (15, .ireturn, 1, 0, 0, 0, 0), (16, .aload_n 0, 1, 0, 0, 0, 0), (17, .getfield 11, 3, 0, 6, 0, 60), (20, .iload_n 1, 1, 0, 0, 0, 0), (21, .iaload, 1, 0, 0, 0, 0), (22, .iconst (-1), 1, 0, 0, 0, 0), (23, .if_icmp .ne 6, 3, 0, 29, 0, 0), (26, .bipush (-11), 2, 0, 0, 0, 0), (28, .ireturn, 1, 0, 0, 0, 0), (29, .aload_n 0, 1, 0, 0, 0, 0), (30, .getfield 11, 3, 0, 6, 0, 60), (33, .iload_n 1, 1, 0, 0, 0, 0), (34, .iaload, 1, 0, 0, 0, 0), (35, .iload_n 2, 1, 0, 0, 0, 0), (36, .if_icmp .eq 6, 3, 0, 42, 0, 0), (39, .bipush (-12), 2, 0, 0, 0, 0), (41, .ireturn, 1, 0, 0, 0, 0), (42, .aload_n 0, 1, 0, 0, 0, 0), (43, .iload_n 1, 1, 0, 0, 0, 0), (44, .iload_n 3, 1, 0, 0, 0, 0), (45, .iload 4, 2, 0, 0, 0, 0), (47, .invokevirtual 28, 3, 0, 51, 4, 41), (50, .ifCond .eq 7, 3, 0, 57, 0, 0), (53, .iconst 0, 1, 0, 0, 0, 0), (54, .goto 5, 3, 0, 59, 0, 0), (57, .bipush (-13), 2, 0, 0, 0, 0), (59, .ireturn, 1, 0, 0, 0, 0)]
def zm50 : zMI := (⟨"CommaCopies$Sheets", "refusal", "(IIII)I"⟩, prog_8_method_6_code, 5, (Option.some Jvm.ClassFile.FieldType.int), false, 6, (486, 485, 5, 90), zc50)
/-- CommaCopies$Sheets.has(III)Z -/
def zc51 : List zEnt := [(0, .iload_n 2, 1, 0, 0, 0, 0), (1, .ifCond .lt 33, 3, 0, 34, 0, 0), (4, .iload_n 3, 1, 0, 0, 0, 0), (5, .ifCond .lt 29, 3, 0, 34, 0, 0), (8, .iload_n 3, 1, 0, 0, 0, 0), (9, .aload_n 0, 1, 0, 0, 0, 0), (10, .getfield 15, 3, 0, 6, 1, 61), (13, .iload_n 1, 1, 0, 0, 0, 0), (14, .iaload, 1, 0, 0, 0, 0), (15, .if_icmp .gt 19, 3, 0, 34, 0, 0), (18, .iload_n 2, 1, 0, 0, 0, 0), (19, .aload_n 0, 1, 0, 0, 0, 0), (20, .getfield 15, 3, 0, 6, 1, 61), (23, .iload_n 1, 1, 0, 0, 0, 0), (24, .iaload, 1, 0, 0, 0, 0), (25, .iload_n 3, 1, 0, 0, 0, 0), (26, .isub, 1, 0, 0, 0, 0), (27, .if_icmp .gt 7, 3, 0, 34, 0, 0), (30, .iconst 1, 1, 0, 0, 0, 0), (31, .goto 4, 3, 0, 35, 0, 0), (34, .iconst 0, 1, 0, 0, 0, 0), (35, .ireturn, 1, 0, 0, 0, 0)]
def zm51 : zMI := (⟨"CommaCopies$Sheets", "has", "(III)Z"⟩, prog_8_method_7_code, 4, (Option.some Jvm.ClassFile.FieldType.boolean), false, 6, (496, 495, 6, 90), zc51)
/-- CommaCopies$Sheets.narrowed(II)I -/
def zc52 : List zEnt := [(0, .iload_n 0, 1, 0, 0, 0, 0), (1, .ifCond .ne 6, 3, 0, 7, 0, 0), (4, .iload_n 1, 1, 0, 0, 0, 0), (5, .i2b, 1, 0, 0, 0, 0), (6, .ireturn, 1, 0, 0, 0, 0), (7, .iload_n 0, 1, 0, 0, 0, 0), (8, .iconst 1, 1, 0, 0, 0, 0), (9, .if_icmp .ne 8, 3, 0, 17, 0, 0), (12, .iload_n 1, 1, 0, 0, 0, 0), (13, .i2s, 1, 0, 0, 0, 0), (14, .goto 4, 3, 0, 18, 0, 0), (17, .iload_n 1, 1, 0, 0, 0, 0), (18, .ireturn, 1, 0, 0, 0, 0)]
def zm52 : zMI := (⟨"CommaCopies$Sheets", "narrowed", "(II)I"⟩, prog_8_method_8_code, 2, (Option.some Jvm.ClassFile.FieldType.int), true, 6, (885, 884, 0, 90), zc52)
/-- CommaCopies$Sheets.move(IIIII)I -/
def zc53 : List zEnt := [(0, .iload_n 1, 1, 0, 0, 0, 0), (1, .invokestatic 21, 3, 0, 46, 1, 39), (4, .ifCond .eq 10, 3, 0, 14, 0, 0), (7, .iload_n 3, 1, 0, 0, 0, 0), (8, .invokestatic 21, 3, 0, 46, 1, 39), (11, .ifCond .ne 5, 3, 0, 16, 0, 0), (14, .iconst (-1), 1, 0, 0, 0, 0), (15, .ireturn, 1, 0, 0, 0, 0), (16, .aload_n 0, 1, 0, 0, 0, 0), (17, .getfield 11, 3, 0, 6, 0, 60), (20, .iload_n 1, 1, 0, 0, 0, 0), (21, .iaload, 1, 0, 0, 0, 0), (22, .iconst (-1), 1, 0, 0, 0, 0), (23, .if_icmp .eq 13, 3, 0, 36, 0, 0), (26, .aload_n 0, 1, 0, 0, 0, 0), (27, .getfield 11, 3, 0, 6, 0, 60), (30, .iload_n 3, 1, 0, 0, 0, 0), (31, .iaload, 1, 0, 0, 0, 0), (32, .iconst (-1), 1, 0, 0, 0, 0), (33, .if_icmp .ne 6, 3, 0, 39, 0, 0), (36, .bipush (-11), 2, 0, 0, 0, 0), (38, .ireturn, 1, 0, 0, 0, 0), (39, .aload_n 0, 1, 0, 0, 0, 0), (40, .getfield 11, 3, 0, 6, 0, 60), (43, .iload_n 1, 1, 0, 0, 0, 0), (44, .iaload, 1, 0, 0, 0, 0), (45, .aload_n 0, 1, 0, 0, 0, 0), (46, .getfield 11, 3, 0, 6, 0, 60), (49, .iload_n 3, 1, 0, 0, 0, 0), (50, .iaload, 1, 0, 0, 0, 0), (51, .if_icmp .eq 6, 3, 0, 57, 0, 0), (54, .bipush (-12), 2, 0, 0, 0, 0), (56, .ireturn, 1, 0, 0, 0, 0), (57, .aload_n 0, 1, 0, 0, 0, 0), (58, .iload_n 1, 1, 0, 0, 0, 0), (59, .iload_n 2, 1, 0, 0, 0, 0), (60, .iload 5, 2, 0, 0, 0, 0), (62, .invokevirtual 28, 3, 0, 51, 4, 41), (65, .ifCond .eq 15, 3, 0, 80, 0, 0), (68, .aload_n 0, 1, 0, 0, 0, 0), (69, .iload_n 3, 1, 0, 0, 0, 0), (70, .iload 4, 2, 0, 0, 0, 0), (72, .iload 5, 2, 0, 0, 0, 0), (74, .invokevirtual 28, 3, 0, 51, 4, 41), (77, .ifCond .ne 6, 3, 0, 83, 0, 0), (80, .bipush (-13), 2, 0, 0, 0, 0), (82, .ireturn, 1, 0, 0, 0, 0), (83, .aload_n 0, 1, 0, 0, 0, 0), (84, .getfield 18, 3, 0, 6, 2, 62), (87, .iload_n 1, 1, 0, 0, 0, 0), (88, .bipush 12, 2, 0, 0, 0, 0), (90, .imul, 1, 0, 0, 0, 0), (91, .iload_n 2, 1, 0, 0, 0, 0), (92, .iadd, 1, 0, 0, 0, 0), (93, .aload_n 0, 1, 0, 0, 0, 0), (94, .getfield 18, 3, 0, 6, 2, 62), (97, .iload_n 3, 1, 0, 0, 0, 0), (98, .bipush 12, 2, 0, 0, 0, 0), (100, .imul, 1, 0, 0, 0, 0), (101, .iload 4, 2, 0, 0, 0, 0), (103, .iadd, 1, 0, 0, 0, 0), (104, .iload 5, 2, 0, 0, 0, 0), (106, .invokestatic 32, 3, 0, 9999, 5, 42), (109, .iload 5, 2, 0, 0, 0, 0), (111, .ireturn, 1, 0, 0, 0, 0)]
def zm53 : zMI := (⟨"CommaCopies$Sheets", "move", "(IIIII)I"⟩, prog_8_method_9_code, 6, (Option.some Jvm.ClassFile.FieldType.int), false, 6, (893, 892, 58, 90), zc53)
/-- CommaCopies$State.begin(LCommaCopies$Tape;)V -/
def zc54 : List zEnt := [(0, .aload_n 0, 1, 0, 0, 0, 0), (1, .getfield 12, 3, 0, 7, 0, 63), (4, .aload_n 1, 1, 0, 0, 0, 0), (5, .getfield 50, 3, 0, 8, 0, 64), (8, .aload_n 1, 1, 0, 0, 0, 0), (9, .getfield 56, 3, 1, 8, 1, 65), (12, .invokevirtual 59, 3, 0, 32, 3, 43), (15, .aload_n 0, 1, 0, 0, 0, 0), (16, .getfield 18, 3, 0, 7, 1, 66), (19, .iconst 0, 1, 0, 0, 0, 0), (20, .invokestatic 63, 3, 0, 182, 2, 44), (23, .aload_n 0, 1, 0, 0, 0, 0), (24, .getfield 22, 3, 0, 7, 2, 67), (27, .iconst (-1), 1, 0, 0, 0, 0), (28, .invokestatic 63, 3, 0, 182, 2, 44), (31, .aload_n 0, 1, 0, 0, 0, 0), (32, .getfield 28, 3, 0, 7, 4, 68), (35, .iconst 5, 1, 0, 0, 0, 0), (36, .invokestatic 63, 3, 0, 182, 2, 44), (39, .aload_n 0, 1, 0, 0, 0, 0), (40, .iconst 0, 1, 0, 0, 0, 0), (41, .putfield 69, 3, 1, 7, 9, 69), (44, .aload_n 0, 1, 0, 0, 0, 0), (45, .iconst 0, 1, 0, 0, 0, 0), (46, .putfield 72, 3, 1, 7, 10, 70), (49, .return_, 1, 0, 0, 0, 0)]
def zm54 : zMI := (⟨"CommaCopies$State", "begin", "(LCommaCopies$Tape;)V"⟩, prog_9_method_2_code, 2, (Option.none : Option Jvm.ClassFile.FieldType), false, 7, (447, 446, 1, 88), zc54)
/-- CommaCopies$State.takeFrom(LCommaCopies$State;)V -/
def zc55 : List zEnt := [(0, .aload_n 0, 1, 0, 0, 0, 0), (1, .getfield 12, 3, 0, 7, 0, 63), (4, .aload_n 1, 1, 0, 0, 0, 0), (5, .getfield 12, 3, 0, 7, 0, 63), (8, .invokevirtual 75, 3, 0, 33, 2, 45), (11, .aload_n 1, 1, 0, 0, 0, 0), (12, .getfield 18, 3, 0, 7, 1, 66), (15, .iconst 0, 1, 0, 0, 0, 0), (16, .aload_n 0, 1, 0, 0, 0, 0), (17, .getfield 18, 3, 0, 7, 1, 66), (20, .iconst 0, 1, 0, 0, 0, 0), (21, .bipush 24, 2, 0, 0, 0, 0), (23, .invokestatic 79, 3, 0, 9999, 5, 46), (26, .aload_n 1, 1, 0, 0, 0, 0), (27, .getfield 22, 3, 0, 7, 2, 67), (30, .iconst 0, 1, 0, 0, 0, 0), (31, .aload_n 0, 1, 0, 0, 0, 0), (32, .getfield 22, 3, 0, 7, 2, 67), (35, .iconst 0, 1, 0, 0, 0, 0), (36, .bipush 6, 2, 0, 0, 0, 0), (38, .invokestatic 79, 3, 0, 9999, 5, 46), (41, .aload_n 1, 1, 0, 0, 0, 0), (42, .getfield 25, 3, 0, 7, 3, 71), (45, .iconst 0, 1, 0, 0, 0, 0), (46, .aload_n 0, 1, 0, 0, 0, 0), (47, .getfield 25, 3, 0, 7, 3, 71), (50, .iconst 0, 1, 0, 0, 0, 0), (51, .bipush 48, 2, 0, 0, 0, 0), (53, .invokestatic 79, 3, 0, 9999, 5, 46), (56, .aload_n 1, 1, 0, 0, 0, 0), (57, .getfield 28, 3, 0, 7, 4, 68), (60, .iconst 0, 1, 0, 0, 0, 0), (61, .aload_n 0, 1, 0, 0, 0, 0), (62, .getfield 28, 3, 0, 7, 4, 68), (65, .iconst 0, 1, 0, 0, 0, 0), (66, .bipush 6, 2, 0, 0, 0, 0), (68, .invokestatic 79, 3, 0, 9999, 5, 46), (71, .aload_n 1, 1, 0, 0, 0, 0), (72, .getfield 31, 3, 0, 7, 5, 72), (75, .iconst 0, 1, 0, 0, 0, 0), (76, .aload_n 0, 1, 0, 0, 0, 0), (77, .getfield 31, 3, 0, 7, 5, 72), (80, .iconst 0, 1, 0, 0, 0, 0), (81, .bipush 36, 2, 0, 0, 0, 0), (83, .invokestatic 79, 3, 0, 9999, 5, 46), (86, .aload_n 1, 1, 0, 0, 0, 0), (87, .getfield 34, 3, 0, 7, 6, 73), (90, .iconst 0, 1, 0, 0, 0, 0), (91, .aload_n 0, 1, 0, 0, 0, 0), (92, .getfield 34, 3, 0, 7, 6, 73), (95, .iconst 0, 1, 0, 0, 0, 0), (96, .bipush 6, 2, 0, 0, 0, 0), (98, .invokestatic 79, 3, 0, 9999, 5, 46), (101, .aload_n 1, 1, 0, 0, 0, 0), (102, .getfield 37, 3, 0, 7, 7, 74), (105, .iconst 0, 1, 0, 0, 0, 0), (106, .aload_n 0, 1, 0, 0, 0, 0), (107, .getfield 37, 3, 0, 7, 7, 74), (110, .iconst 0, 1, 0, 0, 0, 0), (111, .bipush 6, 2, 0, 0, 0, 0), (113, .invokestatic 79, 3, 0, 9999, 5, 46), (116, .aload_n 0, 1, 0, 0, 0, 0), (117, .aload_n 1, 1, 0, 0, 0, 0), (118, .getfield 69, 3, 1, 7, 9, 69), (121, .putfield 69, 3, 1, 7, 9, 69), (124, .aload_n 0, 1, 0, 0, 0, 0), (125, .aload_n 1, 1, 0, 0, 0, 0), (126, .getfield 72, 3, 1, 7, 10, 70), (129, .putfield 72, 3, 1, 7, 10, 70), (132, .aload_n 0, 1, 0, 0, 0, 0), (133, .aload_n 1, 1, 0, 0, 0, 0), (134, .getfield 43, 3, 1, 7, 11, 75), (137, .putfield 43, 3, 1, 7, 11, 75), (140, .aload_n 0, 1, 0, 0, 0, 0), (141, .aload_n 1, 1, 0, 0, 0, 0), (142, .getfield 47, 3, 1, 7, 12, 76), (145, .putfield 47, 3, 1, 7, 12, 76), (148, .return_, 1, 0, 0, 0, 0)]
def zm55 : zMI := (⟨"CommaCopies$State", "takeFrom", "(LCommaCopies$State;)V"⟩, prog_9_method_3_code, 2, (Option.none : Option Jvm.ClassFile.FieldType), false, 7, (854, 853, 54, 88), zc55)
/-- CommaCopies$State.isCopy(I)Z -/
def zc56 : List zEnt := [(0, .iload_n 1, 1, 0, 0, 0, 0), (1, .ifCond .lt 15, 3, 0, 16, 0, 0), (4, .iload_n 1, 1, 0, 0, 0, 0), (5, .aload_n 0, 1, 0, 0, 0, 0), (6, .getfield 69, 3, 1, 7, 9, 69), (9, .if_icmp .ge 7, 3, 0, 16, 0, 0), (12, .iconst 1, 1, 0, 0, 0, 0), (13, .goto 4, 3, 0, 17, 0, 0), (16, .iconst 0, 1, 0, 0, 0, 0), (17, .ireturn, 1, 0, 0, 0, 0)]
def zm56 : zMI := (⟨"CommaCopies$State", "isCopy", "(I)Z"⟩, prog_9_method_4_code, 2, (Option.some Jvm.ClassFile.FieldType.boolean), false, 7, (510, 509, 8, 88), zc56)
/-- CommaCopies$State.isSet(I)Z -/
def zc57 : List zEnt := [(0, .iload_n 1, 1, 0, 0, 0, 0), (1, .ifCond .le 17, 3, 0, 18, 0, 0), (4, .iload_n 1, 1, 0, 0, 0, 0), (5, .iconst 1, 1, 0, 0, 0, 0), (6, .aload_n 0, 1, 0, 0, 0, 0), (7, .getfield 69, 3, 1, 7, 9, 69), (10, .ishl, 1, 0, 0, 0, 0), (11, .if_icmp .ge 7, 3, 0, 18, 0, 0), (14, .iconst 1, 1, 0, 0, 0, 0), (15, .goto 4, 3, 0, 19, 0, 0), (18, .iconst 0, 1, 0, 0, 0, 0), (19, .ireturn, 1, 0, 0, 0, 0)]
def zm57 : zMI := (⟨"CommaCopies$State", "isSet", "(I)Z"⟩, prog_9_method_5_code, 2, (Option.some Jvm.ClassFile.FieldType.boolean), false, 7, (623, 622, 24, 88), zc57)
/-- CommaCopies$State.addCopy([II)I -/
def zc58 : List zEnt := [(0, .aload_n 0, 1, 0, 0, 0, 0), (1, .getfield 12, 3, 0, 7, 0, 63), (4, .getfield 85, 3, 2, 4, 4, 77), (7, .ifCond .ne 6, 3, 0, 13, 0, 0), (10, .bipush (-2), 2, 0, 0, 0, 0), (12, .ireturn, 1, 0, 0, 0, 0), (13, .iconst 0, 1, 0, 0, 0, 0), (14, .istore_n 3, 1, 0, 0, 0, 0), (15, .iload_n 3, 1, 0, 0, 0, 0), (16, .aload_n 0, 1, 0, 0, 0, 0), (17, .getfield 12, 3, 0, 7, 0, 63), (20, .getfield 89, 3, 1, 4, 6, 78), (23, .if_icmp .ge 28, 3, 0, 51, 0, 0), (26, .aload_n 0, 1, 0, 0, 0, 0), (27, .getfield 12, 3, 0, 7, 0, 63), (30, .iload_n 3, 1, 0, 0, 0, 0), (31, .aload_n 1, 1, 0, 0, 0, 0), (32, .iload_n 2, 1, 0, 0, 0, 0), (33, .iload_n 3, 1, 0, 0, 0, 0), (34, .iadd, 1, 0, 0, 0, 0), (35, .iaload, 1, 0, 0, 0, 0), (36, .invokevirtual 92, 3, 0, 35, 3, 47), (39, .ifCond .ne 6, 3, 0, 45, 0, 0), (42, .bipush (-2), 2, 0, 0, 0, 0), (44, .ireturn, 1, 0, 0, 0, 0), (45, .iinc 3 1, 3, 0, 0, 0, 0), (48, .goto (-33), 3, 0, 15, 0, 0), (51, .aload_n 0, 1, 0, 0, 0, 0), (52, .getfield 69, 3, 1, 7, 9, 69), (55, .bipush 8, 2, 0, 0, 0, 0), (57, .if_icmp .lt 6, 3, 0, 63, 0, 0), (60, .bipush (-3), 2, 0, 0, 0, 0), (62, .ireturn, 1, 0, 0, 0, 0), (63, .aload_n 1, 1, 0, 0, 0, 0), (64, .iload_n 2, 1, 0, 0, 0, 0), (65, .aload_n 0, 1, 0, 0, 0, 0), (66, .getfield 25, 3, 0, 7, 3, 71), (69, .aload_n 0, 1, 0, 0, 0, 0), (70, .getfield 69, 3, 1, 7, 9, 69), (73, .bipush 6, 2, 0, 0, 0, 0), (75, .imul, 1, 0, 0, 0, 0), (76, .aload_n 0, 1, 0, 0, 0, 0), (77, .getfield 12, 3, 0, 7, 0, 63), (80, .getfield 89, 3, 1, 4, 6, 78), (83, .invokestatic 79, 3, 0, 9999, 5, 46), (86, .aload_n 0, 1, 0, 0, 0, 0), (87, .dup, 1, 0, 0, 0, 0), (88, .getfield 69, 3, 1, 7, 9, 69), (91, .iconst 1, 1, 0, 0, 0, 0), (92, .iadd, 1, 0, 0, 0, 0), (93, .putfield 69, 3, 1, 7, 9, 69), (96, .aload_n 0, 1, 0, 0, 0, 0), (97, .getfield 69, 3, 1, 7, 9, 69), (100, .iconst 1, 1, 0, 0, 0, 0), (101, .isub, 1, 0, 0, 0, 0), (102, .ireturn, 1, 0, 0, 0, 0)]
def zm58 : zMI := (⟨"CommaCopies$State", "addCopy", "([II)I"⟩, prog_9_method_6_code, 4, (Option.some Jvm.ClassFile.FieldType.int), false, 7, (500, 499, 7, 88), zc58)
/-- CommaCopies$State.addPast()I -/
def zc59 : List zEnt := [(0, .aload_n 0, 1, 0, 0, 0, 0), (1, .getfield 72, 3, 1, 7, 10, 70), (4, .bipush 6, 2, 0, 0, 0, 0), (6, .if_icmp .lt 6, 3, 0, 12, 0, 0), (9, .bipush (-3), 2, 0, 0, 0, 0), (11, .ireturn, 1, 0, 0, 0, 0), (12, .aload_n 0, 1, 0, 0, 0, 0), (13, .getfield 28, 3, 0, 7, 4, 68), (16, .iconst 0, 1, 0, 0, 0, 0), (17, .aload_n 0, 1, 0, 0, 0, 0), (18, .getfield 31, 3, 0, 7, 5, 72), (21, .aload_n 0, 1, 0, 0, 0, 0), (22, .getfield 72, 3, 1, 7, 10, 70), (25, .bipush 6, 2, 0, 0, 0, 0), (27, .imul, 1, 0, 0, 0, 0), (28, .bipush 6, 2, 0, 0, 0, 0), (30, .invokestatic 79, 3, 0, 9999, 5, 46), (33, .aload_n 0, 1, 0, 0, 0, 0), (34, .getfield 34, 3, 0, 7, 6, 73), (37, .aload_n 0, 1, 0, 0, 0, 0), (38, .getfield 72, 3, 1, 7, 10, 70), (41, .aload_n 0, 1, 0, 0, 0, 0), (42, .getfield 43, 3, 1, 7, 11, 75), (45, .iastore, 1, 0, 0, 0, 0), (46, .aload_n 0, 1, 0, 0, 0, 0), (47, .getfield 37, 3, 0, 7, 7, 74), (50, .aload_n 0, 1, 0, 0, 0, 0), (51, .getfield 72, 3, 1, 7, 10, 70), (54, .aload_n 0, 1, 0, 0, 0, 0), (55, .getfield 47, 3, 1, 7, 12, 76), (58, .iastore, 1, 0, 0, 0, 0), (59, .aload_n 0, 1, 0, 0, 0, 0), (60, .dup, 1, 0, 0, 0, 0), (61, .getfield 72, 3, 1, 7, 10, 70), (64, .iconst 1, 1, 0, 0, 0, 0), (65, .iadd, 1, 0, 0, 0, 0), (66, .putfield 72, 3, 1, 7, 10, 70), (69, .aload_n 0, 1, 0, 0, 0, 0), (70, .getfield 72, 3, 1, 7, 10, 70), (73, .iconst 1, 1, 0, 0, 0, 0), (74, .isub, 1, 0, 0, 0, 0), (75, .ireturn, 1, 0, 0, 0, 0)]
def zm59 : zMI := (⟨"CommaCopies$State", "addPast", "()I"⟩, prog_9_method_7_code, 1, (Option.some Jvm.ClassFile.FieldType.int), false, 7, (842, 841, 53, 88), zc59)
/-- CommaCopies$State.bitsOf([II)I -/
def zc60 : List zEnt := [(0, .iconst 0, 1, 0, 0, 0, 0), (1, .istore_n 3, 1, 0, 0, 0, 0), (2, .iconst 0, 1, 0, 0, 0, 0), (3, .istore 4, 2, 0, 0, 0, 0), (5, .iload 4, 2, 0, 0, 0, 0), (7, .aload_n 0, 1, 0, 0, 0, 0), (8, .getfield 12, 3, 0, 7, 0, 63), (11, .getfield 89, 3, 1, 4, 6, 78), (14, .if_icmp .ge 35, 3, 0, 49, 0, 0), (17, .aload_n 1, 1, 0, 0, 0, 0), (18, .iload_n 2, 1, 0, 0, 0, 0), (19, .iload 4, 2, 0, 0, 0, 0), (21, .iadd, 1, 0, 0, 0, 0), (22, .iaload, 1, 0, 0, 0, 0), (23, .iconst 5, 1, 0, 0, 0, 0), (24, .if_icmp .eq 19, 3, 0, 43, 0, 0), (27, .iload_n 3, 1, 0, 0, 0, 0), (28, .iconst 1, 1, 0, 0, 0, 0), (29, .iconst 5, 1, 0, 0, 0, 0), (30, .iload 4, 2, 0, 0, 0, 0), (32, .imul, 1, 0, 0, 0, 0), (33, .aload_n 1, 1, 0, 0, 0, 0), (34, .iload_n 2, 1, 0, 0, 0, 0), (35, .iload 4, 2, 0, 0, 0, 0), (37, .iadd, 1, 0, 0, 0, 0), (38, .iaload, 1, 0, 0, 0, 0), (39, .iadd, 1, 0, 0, 0, 0), (40, .ishl, 1, 0, 0, 0, 0), (41, .ior, 1, 0, 0, 0, 0), (42, .istore_n 3, 1, 0, 0, 0, 0), (43, .iinc 4 1, 3, 0, 0, 0, 0), (46, .goto (-41), 3, 0, 5, 0, 0), (49, .iload_n 3, 1, 0, 0, 0, 0), (50, .ireturn, 1, 0, 0, 0, 0)]
def zm60 : zMI := (⟨"CommaCopies$State", "bitsOf", "([II)I"⟩, prog_9_method_8_code, 5, (Option.some Jvm.ClassFile.FieldType.int), false, 7, (563, 562, 16, 88), zc60)
/-- CommaCopies$State.countLost()I -/
def zc61 : List zEnt := [(0, .iconst 0, 1, 0, 0, 0, 0), (1, .istore_n 1, 1, 0, 0, 0, 0), (2, .iconst 0, 1, 0, 0, 0, 0), (3, .istore_n 2, 1, 0, 0, 0, 0), (4, .iload_n 2, 1, 0, 0, 0, 0), (5, .aload_n 0, 1, 0, 0, 0, 0), (6, .getfield 12, 3, 0, 7, 0, 63), (9, .getfield 89, 3, 1, 4, 6, 78), (12, .if_icmp .ge 27, 3, 0, 39, 0, 0), (15, .iload_n 1, 1, 0, 0, 0, 0), (16, .aload_n 0, 1, 0, 0, 0, 0), (17, .getfield 28, 3, 0, 7, 4, 68), (20, .iload_n 2, 1, 0, 0, 0, 0), (21, .iaload, 1, 0, 0, 0, 0), (22, .iconst 5, 1, 0, 0, 0, 0), (23, .if_icmp .ne 7, 3, 0, 30, 0, 0), (26, .iconst 1, 1, 0, 0, 0, 0), (27, .goto 4, 3, 0, 31, 0, 0), (30, .iconst 0, 1, 0, 0, 0, 0), (31, .iadd, 1, 0, 0, 0, 0), (32, .istore_n 1, 1, 0, 0, 0, 0), (33, .iinc 2 1, 3, 0, 0, 0, 0), (36, .goto (-32), 3, 0, 4, 0, 0), (39, .iload_n 1, 1, 0, 0, 0, 0), (40, .ireturn, 1, 0, 0, 0, 0)]
def zm61 : zMI := (⟨"CommaCopies$State", "countLost", "()I"⟩, prog_9_method_9_code, 3, (Option.some Jvm.ClassFile.FieldType.int), false, 7, (591, 590, 21, 88), zc61)
/-- CommaCopies$State.matches(I)I -/
def zc62 : List zEnt := [(0, .iconst 0, 1, 0, 0, 0, 0), (1, .istore_n 2, 1, 0, 0, 0, 0), (2, .iconst 0, 1, 0, 0, 0, 0), (3, .istore_n 3, 1, 0, 0, 0, 0), (4, .iload_n 3, 1, 0, 0, 0, 0), (5, .aload_n 0, 1, 0, 0, 0, 0), (6, .getfield 12, 3, 0, 7, 0, 63), (9, .getfield 89, 3, 1, 4, 6, 78), (12, .if_icmp .ge 37, 3, 0, 49, 0, 0), (15, .iload_n 2, 1, 0, 0, 0, 0), (16, .aload_n 0, 1, 0, 0, 0, 0), (17, .getfield 28, 3, 0, 7, 4, 68), (20, .iload_n 3, 1, 0, 0, 0, 0), (21, .iaload, 1, 0, 0, 0, 0), (22, .aload_n 0, 1, 0, 0, 0, 0), (23, .getfield 25, 3, 0, 7, 3, 71), (26, .iload_n 1, 1, 0, 0, 0, 0), (27, .bipush 6, 2, 0, 0, 0, 0), (29, .imul, 1, 0, 0, 0, 0), (30, .iload_n 3, 1, 0, 0, 0, 0), (31, .iadd, 1, 0, 0, 0, 0), (32, .iaload, 1, 0, 0, 0, 0), (33, .if_icmp .ne 7, 3, 0, 40, 0, 0), (36, .iconst 1, 1, 0, 0, 0, 0), (37, .goto 4, 3, 0, 41, 0, 0), (40, .iconst 0, 1, 0, 0, 0, 0), (41, .iadd, 1, 0, 0, 0, 0), (42, .istore_n 2, 1, 0, 0, 0, 0), (43, .iinc 3 1, 3, 0, 0, 0, 0), (46, .goto (-42), 3, 0, 4, 0, 0), (49, .iload_n 2, 1, 0, 0, 0, 0), (50, .ireturn, 1, 0, 0, 0, 0)]
def zm62 : zMI := (⟨"CommaCopies$State", "matches", "(I)I"⟩, prog_9_method_10_code, 4, (Option.some Jvm.ClassFile.FieldType.int), false, 7, (755, 754, 42, 88), zc62)
/-- CommaCopies$State.sumCosts(I)I -/
def zc63 : List zEnt := [(0, .iconst 0, 1, 0, 0, 0, 0), (1, .istore_n 2, 1, 0, 0, 0, 0), (2, .iconst 0, 1, 0, 0, 0, 0), (3, .istore_n 3, 1, 0, 0, 0, 0), (4, .iload_n 3, 1, 0, 0, 0, 0), (5, .aload_n 0, 1, 0, 0, 0, 0), (6, .getfield 12, 3, 0, 7, 0, 63), (9, .getfield 89, 3, 1, 4, 6, 78), (12, .if_icmp .ge 32, 3, 0, 44, 0, 0), (15, .iload_n 2, 1, 0, 0, 0, 0), (16, .aload_n 0, 1, 0, 0, 0, 0), (17, .getfield 18, 3, 0, 7, 1, 66), (20, .iload_n 3, 1, 0, 0, 0, 0), (21, .iconst 4, 1, 0, 0, 0, 0), (22, .imul, 1, 0, 0, 0, 0), (23, .aload_n 0, 1, 0, 0, 0, 0), (24, .getfield 25, 3, 0, 7, 3, 71), (27, .iload_n 1, 1, 0, 0, 0, 0), (28, .bipush 6, 2, 0, 0, 0, 0), (30, .imul, 1, 0, 0, 0, 0), (31, .iload_n 3, 1, 0, 0, 0, 0), (32, .iadd, 1, 0, 0, 0, 0), (33, .iaload, 1, 0, 0, 0, 0), (34, .iadd, 1, 0, 0, 0, 0), (35, .iaload, 1, 0, 0, 0, 0), (36, .iadd, 1, 0, 0, 0, 0), (37, .istore_n 2, 1, 0, 0, 0, 0), (38, .iinc 3 1, 3, 0, 0, 0, 0), (41, .goto (-37), 3, 0, 4, 0, 0), (44, .iload_n 2, 1, 0, 0, 0, 0), (45, .ireturn, 1, 0, 0, 0, 0)]
def zm63 : zMI := (⟨"CommaCopies$State", "sumCosts", "(I)I"⟩, prog_9_method_11_code, 4, (Option.some Jvm.ClassFile.FieldType.int), false, 7, (539, 538, 12, 88), zc63)
/-- CommaCopies$State.bestOrder(I)I -/
def zc64 : List zEnt := [(0, .aload_n 0, 1, 0, 0, 0, 0), (1, .getfield 40, 3, 0, 7, 8, 79), (4, .iconst 0, 1, 0, 0, 0, 0), (5, .invokestatic 63, 3, 0, 182, 2, 44), (8, .iconst 0, 1, 0, 0, 0, 0), (9, .istore_n 2, 1, 0, 0, 0, 0), (10, .iload_n 2, 1, 0, 0, 0, 0), (11, .aload_n 0, 1, 0, 0, 0, 0), (12, .getfield 69, 3, 1, 7, 9, 69), (15, .if_icmp .ge 29, 3, 0, 44, 0, 0), (18, .aload_n 0, 1, 0, 0, 0, 0), (19, .getfield 40, 3, 0, 7, 8, 79), (22, .aload_n 0, 1, 0, 0, 0, 0), (23, .getfield 25, 3, 0, 7, 3, 71), (26, .iload_n 2, 1, 0, 0, 0, 0), (27, .bipush 6, 2, 0, 0, 0, 0), (29, .imul, 1, 0, 0, 0, 0), (30, .iload_n 1, 1, 0, 0, 0, 0), (31, .iadd, 1, 0, 0, 0, 0), (32, .iaload, 1, 0, 0, 0, 0), (33, .dup2, 1, 0, 0, 0, 0), (34, .iaload, 1, 0, 0, 0, 0), (35, .iconst 1, 1, 0, 0, 0, 0), (36, .iadd, 1, 0, 0, 0, 0), (37, .iastore, 1, 0, 0, 0, 0), (38, .iinc 2 1, 3, 0, 0, 0, 0), (41, .goto (-31), 3, 0, 10, 0, 0), (44, .iconst 0, 1, 0, 0, 0, 0), (45, .istore_n 2, 1, 0, 0, 0, 0), (46, .ldc 98, 2, 2147483647, 0, 0, 792), (48, .istore_n 3, 1, 0, 0, 0, 0), (49, .iconst 0, 1, 0, 0, 0, 0), (50, .istore 4, 2, 0, 0, 0, 0), (52, .iload 4, 2, 0, 0, 0, 0), (54, .sipush 256, 3, 0, 0, 0, 0), (57, .if_icmp .ge 47, 3, 0, 104, 0, 0), (60, .iload 4, 2, 0, 0, 0, 0), (62, .aload_n 0, 1, 0, 0, 0, 0), (63, .getfield 12, 3, 0, 7, 0, 63), (66, .getfield 99, 3, 0, 4, 1, 80), (69, .iload_n 1, 1, 0, 0, 0, 0), (70, .iaload, 1, 0, 0, 0, 0), (71, .invokestatic 102, 3, 0, 68, 2, 48), (74, .ifCond .eq 24, 3, 0, 98, 0, 0), (77, .aload_n 0, 1, 0, 0, 0, 0), (78, .iload 4, 2, 0, 0, 0, 0), (80, .iload_n 1, 1, 0, 0, 0, 0), (81, .invokevirtual 105, 3, 0, 65, 3, 49), (84, .istore 5, 2, 0, 0, 0, 0), (86, .iload 5, 2, 0, 0, 0, 0), (88, .iload_n 3, 1, 0, 0, 0, 0), (89, .if_icmp .ge 9, 3, 0, 98, 0, 0), (92, .iload 5, 2, 0, 0, 0, 0), (94, .istore_n 3, 1, 0, 0, 0, 0), (95, .iload 4, 2, 0, 0, 0, 0), (97, .istore_n 2, 1, 0, 0, 0, 0), (98, .iinc 4 1, 3, 0, 0, 0, 0), (101, .goto (-49), 3, 0, 52, 0, 0), (104, .iload_n 2, 1, 0, 0, 0, 0), (105, .ireturn, 1, 0, 0, 0, 0)]
def zm64 : zMI := (⟨"CommaCopies$State", "bestOrder", "(I)I"⟩, prog_9_method_12_code, 6, (Option.some Jvm.ClassFile.FieldType.int), false, 7, (791, 790, 47, 88), zc64)
/-- CommaCopies$State.costBy(II)I -/
def zc65 : List zEnt := [(0, .iconst 0, 1, 0, 0, 0, 0), (1, .istore_n 3, 1, 0, 0, 0, 0), (2, .iconst 0, 1, 0, 0, 0, 0), (3, .istore 4, 2, 0, 0, 0, 0), (5, .iload 4, 2, 0, 0, 0, 0), (7, .iconst 4, 1, 0, 0, 0, 0), (8, .if_icmp .ge 35, 3, 0, 43, 0, 0), (11, .iload_n 3, 1, 0, 0, 0, 0), (12, .aload_n 0, 1, 0, 0, 0, 0), (13, .getfield 40, 3, 0, 7, 8, 79), (16, .iload 4, 2, 0, 0, 0, 0), (18, .iaload, 1, 0, 0, 0, 0), (19, .aload_n 0, 1, 0, 0, 0, 0), (20, .getfield 18, 3, 0, 7, 1, 66), (23, .iload_n 2, 1, 0, 0, 0, 0), (24, .iconst 4, 1, 0, 0, 0, 0), (25, .imul, 1, 0, 0, 0, 0), (26, .iload_n 1, 1, 0, 0, 0, 0), (27, .iload 4, 2, 0, 0, 0, 0), (29, .invokestatic 109, 3, 0, 67, 2, 50), (32, .iadd, 1, 0, 0, 0, 0), (33, .iaload, 1, 0, 0, 0, 0), (34, .imul, 1, 0, 0, 0, 0), (35, .iadd, 1, 0, 0, 0, 0), (36, .istore_n 3, 1, 0, 0, 0, 0), (37, .iinc 4 1, 3, 0, 0, 0, 0), (40, .goto (-35), 3, 0, 5, 0, 0), (43, .iload_n 3, 1, 0, 0, 0, 0), (44, .ireturn, 1, 0, 0, 0, 0)]
def zm65 : zMI := (⟨"CommaCopies$State", "costBy", "(II)I"⟩, prog_9_method_13_code, 5, (Option.some Jvm.ClassFile.FieldType.int), false, 7, (802, 801, 48, 88), zc65)
/-- CommaCopies$State.reorder(II)V -/
def zc66 : List zEnt := [(0, .iconst 0, 1, 0, 0, 0, 0), (1, .istore_n 3, 1, 0, 0, 0, 0), (2, .iload_n 3, 1, 0, 0, 0, 0), (3, .aload_n 0, 1, 0, 0, 0, 0), (4, .getfield 69, 3, 1, 7, 9, 69), (7, .if_icmp .ge 35, 3, 0, 42, 0, 0), (10, .iload_n 3, 1, 0, 0, 0, 0), (11, .bipush 6, 2, 0, 0, 0, 0), (13, .imul, 1, 0, 0, 0, 0), (14, .iload_n 1, 1, 0, 0, 0, 0), (15, .iadd, 1, 0, 0, 0, 0), (16, .istore 4, 2, 0, 0, 0, 0), (18, .aload_n 0, 1, 0, 0, 0, 0), (19, .getfield 25, 3, 0, 7, 3, 71), (22, .iload 4, 2, 0, 0, 0, 0), (24, .iload_n 2, 1, 0, 0, 0, 0), (25, .aload_n 0, 1, 0, 0, 0, 0), (26, .getfield 25, 3, 0, 7, 3, 71), (29, .iload 4, 2, 0, 0, 0, 0), (31, .iaload, 1, 0, 0, 0, 0), (32, .invokestatic 109, 3, 0, 67, 2, 50), (35, .iastore, 1, 0, 0, 0, 0), (36, .iinc 3 1, 3, 0, 0, 0, 0), (39, .goto (-37), 3, 0, 2, 0, 0), (42, .return_, 1, 0, 0, 0, 0)]
def zm66 : zMI := (⟨"CommaCopies$State", "reorder", "(II)V"⟩, prog_9_method_14_code, 5, (Option.none : Option Jvm.ClassFile.FieldType), false, 7, (811, 810, 49, 88), zc66)
/-- CommaCopies$State.standsFor(II)I -/
def zc67 : List zEnt := [(0, .iload_n 0, 1, 0, 0, 0, 0), (1, .iconst 2, 1, 0, 0, 0, 0), (2, .iconst 3, 1, 0, 0, 0, 0), (3, .iload_n 1, 1, 0, 0, 0, 0), (4, .isub, 1, 0, 0, 0, 0), (5, .imul, 1, 0, 0, 0, 0), (6, .ishr, 1, 0, 0, 0, 0), (7, .iconst 3, 1, 0, 0, 0, 0), (8, .iand, 1, 0, 0, 0, 0), (9, .ireturn, 1, 0, 0, 0, 0)]
def zm67 : zMI := (⟨"CommaCopies$State", "standsFor", "(II)I"⟩, prog_9_method_15_code, 2, (Option.some Jvm.ClassFile.FieldType.int), true, 7, (798, 797, 0, 88), zc67)
/-- CommaCopies$State.isOrder(II)Z -/
def zc68 : List zEnt := [(0, .iconst 0, 1, 0, 0, 0, 0), (1, .istore_n 2, 1, 0, 0, 0, 0), (2, .iconst 0, 1, 0, 0, 0, 0), (3, .istore_n 3, 1, 0, 0, 0, 0), (4, .iload_n 3, 1, 0, 0, 0, 0), (5, .iconst 4, 1, 0, 0, 0, 0), (6, .if_icmp .ge 36, 3, 0, 42, 0, 0), (9, .iload_n 0, 1, 0, 0, 0, 0), (10, .iload_n 3, 1, 0, 0, 0, 0), (11, .invokestatic 109, 3, 0, 67, 2, 50), (14, .istore 4, 2, 0, 0, 0, 0), (16, .iload_n 3, 1, 0, 0, 0, 0), (17, .iload_n 1, 1, 0, 0, 0, 0), (18, .if_icmp .lt 11, 3, 0, 29, 0, 0), (21, .iload 4, 2, 0, 0, 0, 0), (23, .iload_n 3, 1, 0, 0, 0, 0), (24, .if_icmp .eq 5, 3, 0, 29, 0, 0), (27, .iconst 0, 1, 0, 0, 0, 0), (28, .ireturn, 1, 0, 0, 0, 0), (29, .iload_n 2, 1, 0, 0, 0, 0), (30, .iconst 1, 1, 0, 0, 0, 0), (31, .iload 4, 2, 0, 0, 0, 0), (33, .ishl, 1, 0, 0, 0, 0), (34, .ior, 1, 0, 0, 0, 0), (35, .istore_n 2, 1, 0, 0, 0, 0), (36, .iinc 3 1, 3, 0, 0, 0, 0), (39, .goto (-35), 3, 0, 4, 0, 0), (42, .iload_n 2, 1, 0, 0, 0, 0), (43, .bipush 15, 2, 0, 0, 0, 0), (45, .if_icmp .ne 7, 3, 0, 52, 0, 0), (48, .iconst 1, 1, 0, 0, 0, 0), (49, .goto 4, 3, 0, 53, 0, 0), (52, .iconst 0, 1, 0, 0, 0, 0), (53, .ireturn, 1, 0, 0, 0, 0)]
def zm68 : zMI := (⟨"CommaCopies$State", "isOrder", "(II)Z"⟩, prog_9_method_16_code, 5, (Option.some Jvm.ClassFile.FieldType.boolean), true, 7, (795, 794, 0, 88), zc68)
/-- CommaCopies$Tape.append(JI)I -/
def zc69 : List zEnt := [(0, .iload_n 3, 1, 0, 0, 0, 0), (1, .iconst 1, 1, 0, 0, 0, 0), (2, .if_icmp .lt 9, 3, 0, 11, 0, 0), (5, .iload_n 3, 1, 0, 0, 0, 0), (6, .bipush 8, 2, 0, 0, 0, 0), (8, .if_icmp .le 5, 3, 0, 13, 0, 0), (11, .iconst (-1), 1, 0, 0, 0, 0), (12, .ireturn, 1, 0, 0, 0, 0), (13, .iconst 0, 1, 0, 0, 0, 0), (14, .istore 4, 2, 0, 0, 0, 0), (16, .iload 4, 2, 0, 0, 0, 0), (18, .iload_n 3, 1, 0, 0, 0, 0), (19, .if_icmp .ge 33, 3, 0, 52, 0, 0), (22, .lload_n 1, 1, 0, 0, 0, 0), (23, .iload 4, 2, 0, 0, 0, 0), (25, .invokestatic 15, 3, 0, 70, 2, 51), (28, .bipush 32, 2, 0, 0, 0, 0), (30, .if_icmp .lt 14, 3, 0, 44, 0, 0), (33, .lload_n 1, 1, 0, 0, 0, 0), (34, .iload 4, 2, 0, 0, 0, 0), (36, .invokestatic 15, 3, 0, 70, 2, 51), (39, .bipush 126, 2, 0, 0, 0, 0), (41, .if_icmp .le 5, 3, 0, 46, 0, 0), (44, .iconst (-1), 1, 0, 0, 0, 0), (45, .ireturn, 1, 0, 0, 0, 0), (46, .iinc 4 1, 3, 0, 0, 0, 0), (49, .goto (-33), 3, 0, 16, 0, 0), (52, .aload_n 0, 1, 0, 0, 0, 0), (53, .getfield 19, 3, 1, 8, 1, 81), (56, .bipush 120, 2, 0, 0, 0, 0), (58, .iload_n 3, 1, 0, 0, 0, 0), (59, .isub, 1, 0, 0, 0, 0), (60, .if_icmp .le 6, 3, 0, 66, 0, 0), (63, .bipush (-3), 2, 0, 0, 0, 0), (65, .ireturn, 1, 0, 0, 0, 0), (66, .iload_n 3, 1, 0, 0, 0, 0), (67, .iconst 1, 1, 0, 0, 0, 0), (68, .isub, 1, 0, 0, 0, 0), (69, .istore 4, 2, 0, 0, 0, 0), (71, .iload 4, 2, 0, 0, 0, 0), (73, .ifCond .lt 35, 3, 0, 108, 0, 0), (76, .aload_n 0, 1, 0, 0, 0, 0), (77, .getfield 9, 3, 0, 8, 0, 82), (80, .aload_n 0, 1, 0, 0, 0, 0), (81, .getfield 19, 3, 1, 8, 1, 81), (84, .lload_n 1, 1, 0, 0, 0, 0), (85, .iload 4, 2, 0, 0, 0, 0), (87, .invokestatic 15, 3, 0, 70, 2, 51), (90, .i2b, 1, 0, 0, 0, 0), (91, .bastore, 1, 0, 0, 0, 0), (92, .aload_n 0, 1, 0, 0, 0, 0), (93, .dup, 1, 0, 0, 0, 0), (94, .getfield 19, 3, 1, 8, 1, 81), (97, .iconst 1, 1, 0, 0, 0, 0), (98, .iadd, 1, 0, 0, 0, 0), (99, .putfield 19, 3, 1, 8, 1, 81), (102, .iinc 4 (-1), 3, 0, 0, 0, 0), (105, .goto (-34), 3, 0, 71, 0, 0), (108, .aload_n 0, 1, 0, 0, 0, 0), (109, .getfield 19, 3, 1, 8, 1, 81), (112, .ireturn, 1, 0, 0, 0, 0)]
def zm69 : zMI := (⟨"CommaCopies$Tape", "append", "(JI)I"⟩, prog_10_method_2_code, 5, (Option.some Jvm.ClassFile.FieldType.int), false, 8, (433, 432, 0, 87), zc69)
/-- CommaCopies$Tape.byteOf(JI)I -/
def zc70 : List zEnt := [(0, .lload_n 0, 1, 0, 0, 0, 0), (1, .bipush 8, 2, 0, 0, 0, 0), (3, .iload_n 2, 1, 0, 0, 0, 0), (4, .imul, 1, 0, 0, 0, 0), (5, .lushr, 1, 0, 0, 0, 0), (6, .l2i, 1, 0, 0, 0, 0), (7, .sipush 255, 3, 0, 0, 0, 0), (10, .iand, 1, 0, 0, 0, 0), (11, .ireturn, 1, 0, 0, 0, 0)]
def zm70 : zMI := (⟨"CommaCopies$Tape", "byteOf", "(JI)I"⟩, prog_10_method_3_code, 3, (Option.some Jvm.ClassFile.FieldType.int), true, 8, (436, 435, 0, 87), zc70)
/-- CommaCopies.type(JI)I -/
def zc71 : List zEnt := [(0, .aload_n 0, 1, 0, 0, 0, 0), (1, .getfield 12, 3, 0, 9, 0, 83), (4, .lload_n 1, 1, 0, 0, 0, 0), (5, .iload_n 3, 1, 0, 0, 0, 0), (6, .invokevirtual 74, 3, 0, 69, 3, 52), (9, .ireturn, 1, 0, 0, 0, 0)]
def zm71 : zMI := (⟨"CommaCopies", "type", "(JI)I"⟩, prog_1_method_2_code, 4, (Option.some Jvm.ClassFile.FieldType.int), false, 9, (429, 427, 428, 86), zc71)
/-- CommaCopies.letter()I -/
def zc72 : List zEnt := [(0, .aload_n 0, 1, 0, 0, 0, 0), (1, .getfield 12, 3, 0, 9, 0, 83), (4, .getfield 78, 3, 0, 8, 0, 84), (7, .aload_n 0, 1, 0, 0, 0, 0), (8, .getfield 12, 3, 0, 9, 0, 83), (11, .getfield 82, 3, 1, 8, 1, 85), (14, .invokestatic 86, 3, 0, 31, 2, 53), (17, .istore_n 1, 1, 0, 0, 0, 0), (18, .iload_n 1, 1, 0, 0, 0, 0), (19, .ifCond .ge 14, 3, 0, 33, 0, 0), (22, .aload_n 0, 1, 0, 0, 0, 0), (23, .getfield 19, 3, 0, 9, 1, 86), (26, .aload_n 0, 1, 0, 0, 0, 0), (27, .getfield 12, 3, 0, 9, 0, 83), (30, .invokevirtual 92, 3, 0, 54, 2, 54), (33, .aload_n 0, 1, 0, 0, 0, 0), (34, .getfield 12, 3, 0, 9, 0, 83), (37, .iconst 0, 1, 0, 0, 0, 0), (38, .putfield 82, 3, 1, 8, 1, 85), (41, .iload_n 1, 1, 0, 0, 0, 0), (42, .ifCond .ge 16, 3, 0, 58, 0, 0), (45, .aload_n 0, 1, 0, 0, 0, 0), (46, .getfield 19, 3, 0, 9, 1, 86), (49, .getfield 96, 3, 0, 7, 0, 87), (52, .getfield 100, 3, 1, 4, 6, 88), (55, .goto 7, 3, 0, 62, 0, 0), (58, .bipush (-20), 2, 0, 0, 0, 0), (60, .iload_n 1, 1, 0, 0, 0, 0), (61, .isub, 1, 0, 0, 0, 0), (62, .ireturn, 1, 0, 0, 0, 0)]
def zm72 : zMI := (⟨"CommaCopies", "letter", "()I"⟩, prog_1_method_3_code, 2, (Option.some Jvm.ClassFile.FieldType.int), false, 9, (440, 438, 439, 86), zc72)
/-- CommaCopies.choices(I)I -/
def zc73 : List zEnt := [(0, .aload_n 0, 1, 0, 0, 0, 0), (1, .getfield 19, 3, 0, 9, 1, 86), (4, .getfield 96, 3, 0, 7, 0, 87), (7, .iload_n 1, 1, 0, 0, 0, 0), (8, .invokevirtual 103, 3, 0, 34, 2, 55), (11, .ifCond .eq 18, 3, 0, 29, 0, 0), (14, .aload_n 0, 1, 0, 0, 0, 0), (15, .getfield 19, 3, 0, 9, 1, 86), (18, .getfield 96, 3, 0, 7, 0, 87), (21, .getfield 107, 3, 0, 4, 1, 89), (24, .iload_n 1, 1, 0, 0, 0, 0), (25, .iaload, 1, 0, 0, 0, 0), (26, .goto 4, 3, 0, 30, 0, 0), (29, .iconst (-1), 1, 0, 0, 0, 0), (30, .ireturn, 1, 0, 0, 0, 0)]
def zm73 : zMI := (⟨"CommaCopies", "choices", "(I)I"⟩, prog_1_method_4_code, 2, (Option.some Jvm.ClassFile.FieldType.int), false, 9, (461, 459, 460, 86), zc73)
/-- CommaCopies.cost(III)I -/
def zc74 : List zEnt := [(0, .aload_n 0, 1, 0, 0, 0, 0), (1, .getfield 19, 3, 0, 9, 1, 86), (4, .getfield 96, 3, 0, 7, 0, 87), (7, .iload_n 1, 1, 0, 0, 0, 0), (8, .iload_n 2, 1, 0, 0, 0, 0), (9, .invokevirtual 110, 3, 0, 35, 3, 56), (12, .ifCond .eq 13, 3, 0, 25, 0, 0), (15, .iload_n 3, 1, 0, 0, 0, 0), (16, .ifCond .lt 9, 3, 0, 25, 0, 0), (19, .iload_n 3, 1, 0, 0, 0, 0), (20, .bipush 9, 2, 0, 0, 0, 0), (22, .if_icmp .le 5, 3, 0, 27, 0, 0), (25, .iconst (-1), 1, 0, 0, 0, 0), (26, .ireturn, 1, 0, 0, 0, 0), (27, .iload_n 1, 1, 0, 0, 0, 0), (28, .iconst 4, 1, 0, 0, 0, 0), (29, .imul, 1, 0, 0, 0, 0), (30, .iload_n 2, 1, 0, 0, 0, 0), (31, .iadd, 1, 0, 0, 0, 0), (32, .istore 4, 2, 0, 0, 0, 0), (34, .aload_n 0, 1, 0, 0, 0, 0), (35, .getfield 19, 3, 0, 9, 1, 86), (38, .getfield 114, 3, 0, 7, 1, 90), (41, .iload 4, 2, 0, 0, 0, 0), (43, .iaload, 1, 0, 0, 0, 0), (44, .istore 5, 2, 0, 0, 0, 0), (46, .aload_n 0, 1, 0, 0, 0, 0), (47, .getfield 19, 3, 0, 9, 1, 86), (50, .getfield 114, 3, 0, 7, 1, 90), (53, .iload 4, 2, 0, 0, 0, 0), (55, .iload_n 3, 1, 0, 0, 0, 0), (56, .iastore, 1, 0, 0, 0, 0), (57, .iload 5, 2, 0, 0, 0, 0), (59, .ireturn, 1, 0, 0, 0, 0)]
def zm74 : zMI := (⟨"CommaCopies", "cost", "(III)I"⟩, prog_1_method_5_code, 6, (Option.some Jvm.ClassFile.FieldType.int), false, 9, (469, 467, 468, 86), zc74)
/-- CommaCopies.mended(II)I -/
def zc75 : List zEnt := [(0, .aload_n 0, 1, 0, 0, 0, 0), (1, .getfield 19, 3, 0, 9, 1, 86), (4, .getfield 96, 3, 0, 7, 0, 87), (7, .iload_n 1, 1, 0, 0, 0, 0), (8, .invokevirtual 103, 3, 0, 34, 2, 55), (11, .ifCond .eq 23, 3, 0, 34, 0, 0), (14, .iload_n 2, 1, 0, 0, 0, 0), (15, .iconst (-1), 1, 0, 0, 0, 0), (16, .if_icmp .eq 21, 3, 0, 37, 0, 0), (19, .aload_n 0, 1, 0, 0, 0, 0), (20, .getfield 19, 3, 0, 9, 1, 86), (23, .getfield 96, 3, 0, 7, 0, 87), (26, .iload_n 1, 1, 0, 0, 0, 0), (27, .iload_n 2, 1, 0, 0, 0, 0), (28, .invokevirtual 110, 3, 0, 35, 3, 56), (31, .ifCond .ne 6, 3, 0, 37, 0, 0), (34, .bipush (-101), 2, 0, 0, 0, 0), (36, .ireturn, 1, 0, 0, 0, 0), (37, .aload_n 0, 1, 0, 0, 0, 0), (38, .getfield 19, 3, 0, 9, 1, 86), (41, .getfield 117, 3, 0, 7, 2, 91), (44, .iload_n 1, 1, 0, 0, 0, 0), (45, .iaload, 1, 0, 0, 0, 0), (46, .istore_n 3, 1, 0, 0, 0, 0), (47, .aload_n 0, 1, 0, 0, 0, 0), (48, .getfield 19, 3, 0, 9, 1, 86), (51, .getfield 117, 3, 0, 7, 2, 91), (54, .iload_n 1, 1, 0, 0, 0, 0), (55, .iload_n 2, 1, 0, 0, 0, 0), (56, .iastore, 1, 0, 0, 0, 0), (57, .iload_n 3, 1, 0, 0, 0, 0), (58, .ireturn, 1, 0, 0, 0, 0)]
def zm75 : zMI := (⟨"CommaCopies", "mended", "(II)I"⟩, prog_1_method_6_code, 4, (Option.some Jvm.ClassFile.FieldType.int), false, 9, (478, 476, 477, 86), zc75)
/-- CommaCopies.copyOf(III)I -/
def zc76 : List zEnt := [(0, .aload_n 0, 1, 0, 0, 0, 0), (1, .getfield 29, 3, 0, 9, 3, 92), (4, .iload_n 1, 1, 0, 0, 0, 0), (5, .iload_n 2, 1, 0, 0, 0, 0), (6, .iload_n 3, 1, 0, 0, 0, 0), (7, .aload_n 0, 1, 0, 0, 0, 0), (8, .getfield 19, 3, 0, 9, 1, 86), (11, .getfield 96, 3, 0, 7, 0, 87), (14, .getfield 100, 3, 1, 4, 6, 88), (17, .invokevirtual 120, 3, 0, 50, 5, 57), (20, .istore 4, 2, 0, 0, 0, 0), (22, .iload 4, 2, 0, 0, 0, 0), (24, .ifCond .ge 6, 3, 0, 30, 0, 0), (27, .iload 4, 2, 0, 0, 0, 0), (29, .ireturn, 1, 0, 0, 0, 0), (30, .aload_n 0, 1, 0, 0, 0, 0), (31, .getfield 19, 3, 0, 9, 1, 86), (34, .aload_n 0, 1, 0, 0, 0, 0), (35, .getfield 29, 3, 0, 9, 3, 92), (38, .getfield 124, 3, 0, 6, 2, 93), (41, .iload_n 1, 1, 0, 0, 0, 0), (42, .bipush 12, 2, 0, 0, 0, 0), (44, .imul, 1, 0, 0, 0, 0), (45, .iload_n 3, 1, 0, 0, 0, 0), (46, .iadd, 1, 0, 0, 0, 0), (47, .invokevirtual 127, 3, 0, 58, 3, 58), (50, .ireturn, 1, 0, 0, 0, 0)]
def zm76 : zMI := (⟨"CommaCopies", "copyOf", "(III)I"⟩, prog_1_method_7_code, 5, (Option.some Jvm.ClassFile.FieldType.int), false, 9, (482, 480, 481, 86), zc76)
/-- CommaCopies.choice(II)I -/
def zc77 : List zEnt := [(0, .aload_n 0, 1, 0, 0, 0, 0), (1, .getfield 19, 3, 0, 9, 1, 86), (4, .iload_n 1, 1, 0, 0, 0, 0), (5, .invokevirtual 131, 3, 0, 56, 2, 59), (8, .ifCond .eq 17, 3, 0, 25, 0, 0), (11, .aload_n 0, 1, 0, 0, 0, 0), (12, .getfield 19, 3, 0, 9, 1, 86), (15, .getfield 96, 3, 0, 7, 0, 87), (18, .iload_n 2, 1, 0, 0, 0, 0), (19, .invokevirtual 103, 3, 0, 34, 2, 55), (22, .ifCond .ne 5, 3, 0, 27, 0, 0), (25, .iconst (-1), 1, 0, 0, 0, 0), (26, .ireturn, 1, 0, 0, 0, 0), (27, .aload_n 0, 1, 0, 0, 0, 0), (28, .getfield 19, 3, 0, 9, 1, 86), (31, .getfield 134, 3, 0, 7, 3, 94), (34, .iload_n 1, 1, 0, 0, 0, 0), (35, .bipush 6, 2, 0, 0, 0, 0), (37, .imul, 1, 0, 0, 0, 0), (38, .iload_n 2, 1, 0, 0, 0, 0), (39, .iadd, 1, 0, 0, 0, 0), (40, .iaload, 1, 0, 0, 0, 0), (41, .ireturn, 1, 0, 0, 0, 0)]
def zm77 : zMI := (⟨"CommaCopies", "choice", "(II)I"⟩, prog_1_method_8_code, 3, (Option.some Jvm.ClassFile.FieldType.int), false, 9, (506, 504, 505, 86), zc77)
/-- CommaCopies.burn(I)I -/
def zc78 : List zEnt := [(0, .aload_n 0, 1, 0, 0, 0, 0), (1, .getfield 19, 3, 0, 9, 1, 86), (4, .iload_n 1, 1, 0, 0, 0, 0), (5, .invokevirtual 131, 3, 0, 56, 2, 59), (8, .ifCond .ne 5, 3, 0, 13, 0, 0), (11, .iconst (-1), 1, 0, 0, 0, 0), (12, .ireturn, 1, 0, 0, 0, 0), (13, .aload_n 0, 1, 0, 0, 0, 0), (14, .getfield 19, 3, 0, 9, 1, 86), (17, .getfield 137, 3, 1, 7, 9, 95), (20, .iload_n 1, 1, 0, 0, 0, 0), (21, .isub, 1, 0, 0, 0, 0), (22, .iconst 1, 1, 0, 0, 0, 0), (23, .isub, 1, 0, 0, 0, 0), (24, .istore_n 2, 1, 0, 0, 0, 0), (25, .aload_n 0, 1, 0, 0, 0, 0), (26, .getfield 19, 3, 0, 9, 1, 86), (29, .getfield 134, 3, 0, 7, 3, 94), (32, .iload_n 1, 1, 0, 0, 0, 0), (33, .iconst 1, 1, 0, 0, 0, 0), (34, .iadd, 1, 0, 0, 0, 0), (35, .bipush 6, 2, 0, 0, 0, 0), (37, .imul, 1, 0, 0, 0, 0), (38, .aload_n 0, 1, 0, 0, 0, 0), (39, .getfield 19, 3, 0, 9, 1, 86), (42, .getfield 134, 3, 0, 7, 3, 94), (45, .iload_n 1, 1, 0, 0, 0, 0), (46, .bipush 6, 2, 0, 0, 0, 0), (48, .imul, 1, 0, 0, 0, 0), (49, .iload_n 2, 1, 0, 0, 0, 0), (50, .bipush 6, 2, 0, 0, 0, 0), (52, .imul, 1, 0, 0, 0, 0), (53, .invokestatic 140, 3, 0, 9999, 5, 60), (56, .aload_n 0, 1, 0, 0, 0, 0), (57, .getfield 19, 3, 0, 9, 1, 86), (60, .dup, 1, 0, 0, 0, 0), (61, .getfield 137, 3, 1, 7, 9, 95), (64, .iconst 1, 1, 0, 0, 0, 0), (65, .isub, 1, 0, 0, 0, 0), (66, .putfield 137, 3, 1, 7, 9, 95), (69, .aload_n 0, 1, 0, 0, 0, 0), (70, .getfield 19, 3, 0, 9, 1, 86), (73, .getfield 137, 3, 1, 7, 9, 95), (76, .ireturn, 1, 0, 0, 0, 0)]
def zm78 : zMI := (⟨"CommaCopies", "burn", "(I)I"⟩, prog_1_method_9_code, 3, (Option.some Jvm.ClassFile.FieldType.int), false, 9, (514, 512, 513, 86), zc78)
/-- CommaCopies.reads(II)I -/
def zc79 : List zEnt := [(0, .aload_n 0, 1, 0, 0, 0, 0), (1, .getfield 19, 3, 0, 9, 1, 86), (4, .iload_n 1, 1, 0, 0, 0, 0), (5, .invokevirtual 131, 3, 0, 56, 2, 59), (8, .ifCond .eq 7, 3, 0, 15, 0, 0), (11, .iload_n 2, 1, 0, 0, 0, 0), (12, .ifCond .ge 5, 3, 0, 17, 0, 0), (15, .iconst (-1), 1, 0, 0, 0, 0), (16, .ireturn, 1, 0, 0, 0, 0), (17, .aload_n 0, 1, 0, 0, 0, 0), (18, .getfield 19, 3, 0, 9, 1, 86), (21, .getfield 96, 3, 0, 7, 0, 87), (24, .aload_n 0, 1, 0, 0, 0, 0), (25, .getfield 19, 3, 0, 9, 1, 86), (28, .getfield 134, 3, 0, 7, 3, 94), (31, .iload_n 1, 1, 0, 0, 0, 0), (32, .bipush 6, 2, 0, 0, 0, 0), (34, .imul, 1, 0, 0, 0, 0), (35, .iload_n 2, 1, 0, 0, 0, 0), (36, .invokevirtual 146, 3, 0, 39, 4, 61), (39, .ireturn, 1, 0, 0, 0, 0)]
def zm79 : zMI := (⟨"CommaCopies", "reads", "(II)I"⟩, prog_1_method_10_code, 3, (Option.some Jvm.ClassFile.FieldType.int), false, 9, (519, 517, 518, 86), zc79)
/-- CommaCopies.costOf(I)I -/
def zc80 : List zEnt := [(0, .aload_n 0, 1, 0, 0, 0, 0), (1, .getfield 19, 3, 0, 9, 1, 86), (4, .iload_n 1, 1, 0, 0, 0, 0), (5, .invokevirtual 131, 3, 0, 56, 2, 59), (8, .ifCond .eq 14, 3, 0, 22, 0, 0), (11, .aload_n 0, 1, 0, 0, 0, 0), (12, .getfield 19, 3, 0, 9, 1, 86), (15, .iload_n 1, 1, 0, 0, 0, 0), (16, .invokevirtual 150, 3, 0, 63, 2, 62), (19, .goto 4, 3, 0, 23, 0, 0), (22, .iconst (-1), 1, 0, 0, 0, 0), (23, .ireturn, 1, 0, 0, 0, 0)]
def zm80 : zMI := (⟨"CommaCopies", "costOf", "(I)I"⟩, prog_1_method_11_code, 2, (Option.some Jvm.ClassFile.FieldType.int), false, 9, (535, 533, 534, 86), zc80)
/-- CommaCopies.set(II)I -/
def zc81 : List zEnt := [(0, .iload_n 1, 1, 0, 0, 0, 0), (1, .ifCond .ne 31, 3, 0, 32, 0, 0), (4, .iload_n 2, 1, 0, 0, 0, 0), (5, .iconst 1, 1, 0, 0, 0, 0), (6, .if_icmp .lt 26, 3, 0, 32, 0, 0), (9, .iload_n 2, 1, 0, 0, 0, 0), (10, .iconst 3, 1, 0, 0, 0, 0), (11, .if_icmp .gt 21, 3, 0, 32, 0, 0), (14, .aload_n 0, 1, 0, 0, 0, 0), (15, .getfield 19, 3, 0, 9, 1, 86), (18, .getfield 154, 3, 1, 7, 11, 96), (21, .istore_n 3, 1, 0, 0, 0, 0), (22, .aload_n 0, 1, 0, 0, 0, 0), (23, .getfield 19, 3, 0, 9, 1, 86), (26, .iload_n 2, 1, 0, 0, 0, 0), (27, .putfield 154, 3, 1, 7, 11, 96), (30, .iload_n 3, 1, 0, 0, 0, 0), (31, .ireturn, 1, 0, 0, 0, 0), (32, .iload_n 1, 1, 0, 0, 0, 0), (33, .iconst 1, 1, 0, 0, 0, 0), (34, .if_icmp .ne 30, 3, 0, 64, 0, 0), (37, .iload_n 2, 1, 0, 0, 0, 0), (38, .ifCond .lt 26, 3, 0, 64, 0, 0), (41, .iload_n 2, 1, 0, 0, 0, 0), (42, .iconst 2, 1, 0, 0, 0, 0), (43, .if_icmp .gt 21, 3, 0, 64, 0, 0), (46, .aload_n 0, 1, 0, 0, 0, 0), (47, .getfield 19, 3, 0, 9, 1, 86), (50, .getfield 157, 3, 1, 7, 12, 97), (53, .istore_n 3, 1, 0, 0, 0, 0), (54, .aload_n 0, 1, 0, 0, 0, 0), (55, .getfield 19, 3, 0, 9, 1, 86), (58, .iload_n 2, 1, 0, 0, 0, 0), (59, .putfield 157, 3, 1, 7, 12, 97), (62, .iload_n 3, 1, 0, 0, 0, 0), (63, .ireturn, 1, 0, 0, 0, 0), (64, .iconst (-1), 1, 0, 0, 0, 0), (65, .ireturn, 1, 0, 0, 0, 0)]
def zm81 : zMI := (⟨"CommaCopies", "set", "(II)I"⟩, prog_1_method_12_code, 4, (Option.some Jvm.ClassFile.FieldType.int), false, 9, (543, 541, 542, 86), zc81)
/-- CommaCopies.count(I)I -/
def zc82 : List zEnt := [(0, .iload_n 1, 1, 0, 0, 0, 0), (1, .tableswitch 93 0 5 #[39, 50, 58, 66, 77, 85], 39, 0, 0, 0, 0), (40, .aload_n 0, 1, 0, 0, 0, 0), (41, .getfield 19, 3, 0, 9, 1, 86), (44, .getfield 96, 3, 0, 7, 0, 87), (47, .getfield 100, 3, 1, 4, 6, 88), (50, .ireturn, 1, 0, 0, 0, 0), (51, .aload_n 0, 1, 0, 0, 0, 0), (52, .getfield 19, 3, 0, 9, 1, 86), (55, .getfield 137, 3, 1, 7, 9, 95), (58, .ireturn, 1, 0, 0, 0, 0), (59, .aload_n 0, 1, 0, 0, 0, 0), (60, .getfield 19, 3, 0, 9, 1, 86), (63, .getfield 160, 3, 1, 7, 10, 98), (66, .ireturn, 1, 0, 0, 0, 0), (67, .aload_n 0, 1, 0, 0, 0, 0), (68, .getfield 19, 3, 0, 9, 1, 86), (71, .getfield 96, 3, 0, 7, 0, 87), (74, .getfield 163, 3, 1, 4, 5, 99), (77, .ireturn, 1, 0, 0, 0, 0), (78, .aload_n 0, 1, 0, 0, 0, 0), (79, .invokevirtual 164, 3, 0, 108, 1, 63), (82, .getfield 168, 3, 1, 2, 13, 100), (85, .ireturn, 1, 0, 0, 0, 0), (86, .aload_n 0, 1, 0, 0, 0, 0), (87, .getfield 19, 3, 0, 9, 1, 86), (90, .invokevirtual 173, 3, 0, 61, 1, 64), (93, .ireturn, 1, 0, 0, 0, 0), (94, .iconst (-1), 1, 0, 0, 0, 0), (95, .ireturn, 1, 0, 0, 0, 0)]
def zm82 : zMI := (⟨"CommaCopies", "count", "(I)I"⟩, prog_1_method_13_code, 2, (Option.some Jvm.ClassFile.FieldType.int), false, 9, (547, 545, 546, 86), zc82)
/-- CommaCopies.print(II)I -/
def zc83 : List zEnt := [(0, .aload_n 0, 1, 0, 0, 0, 0), (1, .getfield 19, 3, 0, 9, 1, 86), (4, .getfield 96, 3, 0, 7, 0, 87), (7, .iload_n 1, 1, 0, 0, 0, 0), (8, .iload_n 2, 1, 0, 0, 0, 0), (9, .invokevirtual 110, 3, 0, 35, 3, 56), (12, .ifCond .ne 29, 3, 0, 41, 0, 0), (15, .aload_n 0, 1, 0, 0, 0, 0), (16, .getfield 19, 3, 0, 9, 1, 86), (19, .getfield 96, 3, 0, 7, 0, 87), (22, .iload_n 1, 1, 0, 0, 0, 0), (23, .invokevirtual 103, 3, 0, 34, 2, 55), (26, .ifCond .eq 13, 3, 0, 39, 0, 0), (29, .iload_n 2, 1, 0, 0, 0, 0), (30, .iconst 4, 1, 0, 0, 0, 0), (31, .if_icmp .eq 10, 3, 0, 41, 0, 0), (34, .iload_n 2, 1, 0, 0, 0, 0), (35, .iconst 5, 1, 0, 0, 0, 0), (36, .if_icmp .eq 5, 3, 0, 41, 0, 0), (39, .iconst (-1), 1, 0, 0, 0, 0), (40, .ireturn, 1, 0, 0, 0, 0), (41, .aload_n 0, 1, 0, 0, 0, 0), (42, .getfield 19, 3, 0, 9, 1, 86), (45, .getfield 177, 3, 0, 7, 4, 101), (48, .iload_n 1, 1, 0, 0, 0, 0), (49, .iaload, 1, 0, 0, 0, 0), (50, .istore_n 3, 1, 0, 0, 0, 0), (51, .aload_n 0, 1, 0, 0, 0, 0), (52, .getfield 19, 3, 0, 9, 1, 86), (55, .getfield 177, 3, 0, 7, 4, 101), (58, .iload_n 1, 1, 0, 0, 0, 0), (59, .iload_n 2, 1, 0, 0, 0, 0), (60, .iastore, 1, 0, 0, 0, 0), (61, .iload_n 3, 1, 0, 0, 0, 0), (62, .ireturn, 1, 0, 0, 0, 0)]
def zm83 : zMI := (⟨"CommaCopies", "print", "(II)I"⟩, prog_1_method_14_code, 4, (Option.some Jvm.ClassFile.FieldType.int), false, 9, (595, 593, 594, 86), zc83)
/-- CommaCopies.printed()I -/
def zc84 : List zEnt := [(0, .aload_n 0, 1, 0, 0, 0, 0), (1, .getfield 12, 3, 0, 9, 0, 83), (4, .getfield 82, 3, 1, 8, 1, 85), (7, .istore_n 1, 1, 0, 0, 0, 0), (8, .aload_n 0, 1, 0, 0, 0, 0), (9, .getfield 12, 3, 0, 9, 0, 83), (12, .iconst 0, 1, 0, 0, 0, 0), (13, .putfield 82, 3, 1, 8, 1, 85), (16, .aload_n 0, 1, 0, 0, 0, 0), (17, .getfield 19, 3, 0, 9, 1, 86), (20, .getfield 96, 3, 0, 7, 0, 87), (23, .getfield 180, 3, 2, 4, 4, 102), (26, .ifCond .ne 6, 3, 0, 32, 0, 0), (29, .bipush (-2), 2, 0, 0, 0, 0), (31, .ireturn, 1, 0, 0, 0, 0), (32, .aload_n 0, 1, 0, 0, 0, 0), (33, .getfield 48, 3, 0, 9, 6, 103), (36, .aload_n 0, 1, 0, 0, 0, 0), (37, .getfield 19, 3, 0, 9, 1, 86), (40, .getfield 96, 3, 0, 7, 0, 87), (43, .aload_n 0, 1, 0, 0, 0, 0), (44, .getfield 12, 3, 0, 9, 0, 83), (47, .getfield 78, 3, 0, 8, 0, 84), (50, .iload_n 1, 1, 0, 0, 0, 0), (51, .aload_n 0, 1, 0, 0, 0, 0), (52, .getfield 19, 3, 0, 9, 1, 86), (55, .getfield 177, 3, 0, 7, 4, 101), (58, .invokevirtual 183, 3, 0, 42, 5, 65), (61, .ifCond .eq 7, 3, 0, 68, 0, 0), (64, .iconst 1, 1, 0, 0, 0, 0), (65, .goto 5, 3, 0, 70, 0, 0), (68, .bipush (-4), 2, 0, 0, 0, 0), (70, .ireturn, 1, 0, 0, 0, 0)]
def zm84 : zMI := (⟨"CommaCopies", "printed", "()I"⟩, prog_1_method_15_code, 2, (Option.some Jvm.ClassFile.FieldType.int), false, 9, (599, 597, 598, 86), zc84)
/-- CommaCopies.could(I)I -/
def zc85 : List zEnt := [(0, .aload_n 0, 1, 0, 0, 0, 0), (1, .getfield 19, 3, 0, 9, 1, 86), (4, .iload_n 1, 1, 0, 0, 0, 0), (5, .invokevirtual 187, 3, 0, 57, 2, 66), (8, .ifCond .ne 5, 3, 0, 13, 0, 0), (11, .iconst (-1), 1, 0, 0, 0, 0), (12, .ireturn, 1, 0, 0, 0, 0), (13, .aload_n 0, 1, 0, 0, 0, 0), (14, .getfield 19, 3, 0, 9, 1, 86), (17, .aload_n 0, 1, 0, 0, 0, 0), (18, .getfield 19, 3, 0, 9, 1, 86), (21, .getfield 177, 3, 0, 7, 4, 101), (24, .iconst 0, 1, 0, 0, 0, 0), (25, .invokevirtual 190, 3, 0, 60, 3, 67), (28, .istore_n 2, 1, 0, 0, 0, 0), (29, .iload_n 2, 1, 0, 0, 0, 0), (30, .aload_n 0, 1, 0, 0, 0, 0), (31, .invokevirtual 193, 3, 0, 107, 1, 68), (34, .iload_n 1, 1, 0, 0, 0, 0), (35, .invokevirtual 196, 3, 0, 12, 2, 69), (38, .iconst (-1), 1, 0, 0, 0, 0), (39, .ixor, 1, 0, 0, 0, 0), (40, .iand, 1, 0, 0, 0, 0), (41, .ifCond .ne 7, 3, 0, 48, 0, 0), (44, .iconst 1, 1, 0, 0, 0, 0), (45, .goto 4, 3, 0, 49, 0, 0), (48, .iconst 0, 1, 0, 0, 0, 0), (49, .ireturn, 1, 0, 0, 0, 0)]
def zm85 : zMI := (⟨"CommaCopies", "could", "(I)I"⟩, prog_1_method_16_code, 3, (Option.some Jvm.ClassFile.FieldType.int), false, 9, (619, 617, 618, 86), zc85)
/-- CommaCopies.maker(I)I -/
def zc86 : List zEnt := [(0, .iload_n 1, 1, 0, 0, 0, 0), (1, .ifCond .ge 5, 3, 0, 6, 0, 0), (4, .iconst (-1), 1, 0, 0, 0, 0), (5, .ireturn, 1, 0, 0, 0, 0), (6, .aload_n 0, 1, 0, 0, 0, 0), (7, .invokevirtual 193, 3, 0, 107, 1, 68), (10, .invokevirtual 199, 3, 0, 10, 1, 70), (13, .aload_n 0, 1, 0, 0, 0, 0), (14, .getfield 44, 3, 0, 9, 5, 104), (17, .aload_n 0, 1, 0, 0, 0, 0), (18, .getfield 19, 3, 0, 9, 1, 86), (21, .aload_n 0, 1, 0, 0, 0, 0), (22, .getfield 19, 3, 0, 9, 1, 86), (25, .getfield 177, 3, 0, 7, 4, 101), (28, .iconst 0, 1, 0, 0, 0, 0), (29, .invokevirtual 190, 3, 0, 60, 3, 67), (32, .iload_n 1, 1, 0, 0, 0, 0), (33, .invokevirtual 202, 3, 0, 14, 3, 71), (36, .ireturn, 1, 0, 0, 0, 0)]
def zm86 : zMI := (⟨"CommaCopies", "maker", "(I)I"⟩, prog_1_method_17_code, 2, (Option.some Jvm.ClassFile.FieldType.int), false, 9, (631, 629, 630, 86), zc86)
/-- CommaCopies.blamed(I)I -/
def zc87 : List zEnt := [(0, .iload_n 1, 1, 0, 0, 0, 0), (1, .ifCond .eq 10, 3, 0, 11, 0, 0), (4, .iload_n 1, 1, 0, 0, 0, 0), (5, .iconst 1, 1, 0, 0, 0, 0), (6, .if_icmp .eq 5, 3, 0, 11, 0, 0), (9, .iconst (-1), 1, 0, 0, 0, 0), (10, .ireturn, 1, 0, 0, 0, 0), (11, .aload_n 0, 1, 0, 0, 0, 0), (12, .invokevirtual 164, 3, 0, 108, 1, 63), (15, .astore_n 2, 1, 0, 0, 0, 0), (16, .iload_n 1, 1, 0, 0, 0, 0), (17, .ifCond .ne 10, 3, 0, 27, 0, 0), (20, .aload_n 2, 1, 0, 0, 0, 0), (21, .getfield 206, 3, 1, 2, 11, 105), (24, .goto 7, 3, 0, 31, 0, 0), (27, .aload_n 2, 1, 0, 0, 0, 0), (28, .getfield 209, 3, 1, 2, 12, 106), (31, .ireturn, 1, 0, 0, 0, 0)]
def zm87 : zMI := (⟨"CommaCopies", "blamed", "(I)I"⟩, prog_1_method_18_code, 3, (Option.some Jvm.ClassFile.FieldType.int), false, 9, (639, 637, 638, 86), zc87)
/-- CommaCopies.unjust(I)I -/
def zc88 : List zEnt := [(0, .aload_n 0, 1, 0, 0, 0, 0), (1, .getfield 19, 3, 0, 9, 1, 86), (4, .iload_n 1, 1, 0, 0, 0, 0), (5, .invokevirtual 187, 3, 0, 57, 2, 66), (8, .ifCond .ne 5, 3, 0, 13, 0, 0), (11, .iconst (-1), 1, 0, 0, 0, 0), (12, .ireturn, 1, 0, 0, 0, 0), (13, .aload_n 0, 1, 0, 0, 0, 0), (14, .invokevirtual 164, 3, 0, 108, 1, 63), (17, .astore_n 2, 1, 0, 0, 0, 0), (18, .aload_n 2, 1, 0, 0, 0, 0), (19, .getfield 168, 3, 1, 2, 13, 100), (22, .ifCond .ne 6, 3, 0, 28, 0, 0), (25, .bipush (-2), 2, 0, 0, 0, 0), (27, .ireturn, 1, 0, 0, 0, 0), (28, .iload_n 1, 1, 0, 0, 0, 0), (29, .aload_n 2, 1, 0, 0, 0, 0), (30, .getfield 206, 3, 1, 2, 11, 105), (33, .iconst (-1), 1, 0, 0, 0, 0), (34, .ixor, 1, 0, 0, 0, 0), (35, .iand, 1, 0, 0, 0, 0), (36, .istore_n 3, 1, 0, 0, 0, 0), (37, .iload_n 3, 1, 0, 0, 0, 0), (38, .ifCond .ne 8, 3, 0, 46, 0, 0), (41, .bipush (-4), 2, 0, 0, 0, 0), (43, .goto 7, 3, 0, 50, 0, 0), (46, .iload_n 3, 1, 0, 0, 0, 0), (47, .invokestatic 212, 3, 0, 179, 1, 72), (50, .ireturn, 1, 0, 0, 0, 0)]
def zm88 : zMI := (⟨"CommaCopies", "unjust", "(I)I"⟩, prog_1_method_19_code, 4, (Option.some Jvm.ClassFile.FieldType.int), false, 9, (643, 641, 642, 86), zc88)
/-- CommaCopies.holds(I)I -/
def zc89 : List zEnt := [(0, .iload_n 1, 1, 0, 0, 0, 0), (1, .ifCond .lt 8, 3, 0, 9, 0, 0), (4, .iload_n 1, 1, 0, 0, 0, 0), (5, .iconst 2, 1, 0, 0, 0, 0), (6, .if_icmp .le 5, 3, 0, 11, 0, 0), (9, .iconst (-1), 1, 0, 0, 0, 0), (10, .ireturn, 1, 0, 0, 0, 0), (11, .aload_n 0, 1, 0, 0, 0, 0), (12, .iload_n 1, 1, 0, 0, 0, 0), (13, .invokevirtual 217, 3, 0, 109, 2, 73), (16, .ifCond .eq 7, 3, 0, 23, 0, 0), (19, .iconst 0, 1, 0, 0, 0, 0), (20, .goto 4, 3, 0, 24, 0, 0), (23, .iconst 1, 1, 0, 0, 0, 0), (24, .ireturn, 1, 0, 0, 0, 0)]
def zm89 : zMI := (⟨"CommaCopies", "holds", "(I)I"⟩, prog_1_method_20_code, 2, (Option.some Jvm.ClassFile.FieldType.int), false, 9, (651, 649, 650, 86), zc89)
/-- CommaCopies.breach(II)I -/
def zc90 : List zEnt := [(0, .iload_n 1, 1, 0, 0, 0, 0), (1, .iconst 2, 1, 0, 0, 0, 0), (2, .if_icmp .ne 17, 3, 0, 19, 0, 0), (5, .aload_n 0, 1, 0, 0, 0, 0), (6, .getfield 19, 3, 0, 9, 1, 86), (9, .getfield 96, 3, 0, 7, 0, 87), (12, .iload_n 2, 1, 0, 0, 0, 0), (13, .invokevirtual 103, 3, 0, 34, 2, 55), (16, .goto 26, 3, 0, 42, 0, 0), (19, .iload_n 1, 1, 0, 0, 0, 0), (20, .ifCond .eq 8, 3, 0, 28, 0, 0), (23, .iload_n 1, 1, 0, 0, 0, 0), (24, .iconst 1, 1, 0, 0, 0, 0), (25, .if_icmp .ne 16, 3, 0, 41, 0, 0), (28, .iload_n 2, 1, 0, 0, 0, 0), (29, .ifCond .eq 8, 3, 0, 37, 0, 0), (32, .iload_n 2, 1, 0, 0, 0, 0), (33, .iconst 1, 1, 0, 0, 0, 0), (34, .if_icmp .ne 7, 3, 0, 41, 0, 0), (37, .iconst 1, 1, 0, 0, 0, 0), (38, .goto 4, 3, 0, 42, 0, 0), (41, .iconst 0, 1, 0, 0, 0, 0), (42, .istore_n 3, 1, 0, 0, 0, 0), (43, .iload_n 3, 1, 0, 0, 0, 0), (44, .ifCond .ne 5, 3, 0, 49, 0, 0), (47, .iconst (-1), 1, 0, 0, 0, 0), (48, .ireturn, 1, 0, 0, 0, 0), (49, .aload_n 0, 1, 0, 0, 0, 0), (50, .iload_n 1, 1, 0, 0, 0, 0), (51, .invokevirtual 217, 3, 0, 109, 2, 73), (54, .ifCond .ne 6, 3, 0, 60, 0, 0), (57, .bipush (-4), 2, 0, 0, 0, 0), (59, .ireturn, 1, 0, 0, 0, 0), (60, .iload_n 1, 1, 0, 0, 0, 0), (61, .iconst 2, 1, 0, 0, 0, 0), (62, .if_icmp .ne 13, 3, 0, 75, 0, 0), (65, .aload_n 0, 1, 0, 0, 0, 0), (66, .getfield 36, 3, 0, 9, 4, 107), (69, .getfield 220, 3, 0, 3, 1, 108), (72, .iload_n 2, 1, 0, 0, 0, 0), (73, .iaload, 1, 0, 0, 0, 0), (74, .ireturn, 1, 0, 0, 0, 0), (75, .iload_n 2, 1, 0, 0, 0, 0), (76, .ifCond .ne 13, 3, 0, 89, 0, 0), (79, .aload_n 0, 1, 0, 0, 0, 0), (80, .getfield 36, 3, 0, 9, 4, 107), (83, .getfield 223, 3, 1, 3, 6, 109), (86, .goto 10, 3, 0, 96, 0, 0), (89, .aload_n 0, 1, 0, 0, 0, 0), (90, .getfield 36, 3, 0, 9, 4, 107), (93, .getfield 226, 3, 1, 3, 7, 110), (96, .ireturn, 1, 0, 0, 0, 0)]
def zm90 : zMI := (⟨"CommaCopies", "breach", "(II)I"⟩, prog_1_method_21_code, 4, (Option.some Jvm.ClassFile.FieldType.int), false, 9, (713, 711, 712, 86), zc90)
/-- CommaCopies.fewest(I)I -/
def zc91 : List zEnt := [(0, .iload_n 1, 1, 0, 0, 0, 0), (1, .ifCond .lt 8, 3, 0, 9, 0, 0), (4, .iload_n 1, 1, 0, 0, 0, 0), (5, .iconst 2, 1, 0, 0, 0, 0), (6, .if_icmp .le 5, 3, 0, 11, 0, 0), (9, .iconst (-1), 1, 0, 0, 0, 0), (10, .ireturn, 1, 0, 0, 0, 0), (11, .aload_n 0, 1, 0, 0, 0, 0), (12, .iload_n 1, 1, 0, 0, 0, 0), (13, .invokevirtual 217, 3, 0, 109, 2, 73), (16, .ifCond .eq 6, 3, 0, 22, 0, 0), (19, .bipush (-4), 2, 0, 0, 0, 0), (21, .ireturn, 1, 0, 0, 0, 0), (22, .aload_n 0, 1, 0, 0, 0, 0), (23, .getfield 19, 3, 0, 9, 1, 86), (26, .getfield 96, 3, 0, 7, 0, 87), (29, .invokevirtual 229, 3, 0, 36, 1, 74), (32, .istore_n 2, 1, 0, 0, 0, 0), (33, .iconst 0, 1, 0, 0, 0, 0), (34, .istore_n 3, 1, 0, 0, 0, 0), (35, .iload_n 3, 1, 0, 0, 0, 0), (36, .aload_n 0, 1, 0, 0, 0, 0), (37, .getfield 19, 3, 0, 9, 1, 86), (40, .getfield 96, 3, 0, 7, 0, 87), (43, .getfield 100, 3, 1, 4, 6, 88), (46, .if_icmp .gt 49, 3, 0, 95, 0, 0), (49, .iconst 0, 1, 0, 0, 0, 0), (50, .istore 4, 2, 0, 0, 0, 0), (52, .iload 4, 2, 0, 0, 0, 0), (54, .iload_n 2, 1, 0, 0, 0, 0), (55, .if_icmp .gt 34, 3, 0, 89, 0, 0), (58, .iload 4, 2, 0, 0, 0, 0), (60, .invokestatic 232, 3, 0, 180, 1, 75), (63, .iload_n 3, 1, 0, 0, 0, 0), (64, .if_icmp .ne 19, 3, 0, 83, 0, 0), (67, .aload_n 0, 1, 0, 0, 0, 0), (68, .getfield 36, 3, 0, 9, 4, 107), (71, .iload_n 1, 1, 0, 0, 0, 0), (72, .iload 4, 2, 0, 0, 0, 0), (74, .invokevirtual 235, 3, 0, 16, 3, 76), (77, .ifCond .ne 6, 3, 0, 83, 0, 0), (80, .iload 4, 2, 0, 0, 0, 0), (82, .ireturn, 1, 0, 0, 0, 0), (83, .iinc 4 1, 3, 0, 0, 0, 0), (86, .goto (-34), 3, 0, 52, 0, 0), (89, .iinc 3 1, 3, 0, 0, 0, 0), (92, .goto (-57), 3, 0, 35, 0, 0), (95, .bipush (-4), 2, 0, 0, 0, 0), (97, .ireturn, 1, 0, 0, 0, 0)]
def zm91 : zMI := (⟨"CommaCopies", "fewest", "(I)I"⟩, prog_1_method_22_code, 5, (Option.some Jvm.ClassFile.FieldType.int), false, 9, (717, 715, 716, 86), zc91)
/-- CommaCopies.more(II)I -/
def zc92 : List zEnt := [(0, .iload_n 1, 1, 0, 0, 0, 0), (1, .ifCond .eq 8, 3, 0, 9, 0, 0), (4, .iload_n 1, 1, 0, 0, 0, 0), (5, .iconst 1, 1, 0, 0, 0, 0), (6, .if_icmp .ne 17, 3, 0, 23, 0, 0), (9, .aload_n 0, 1, 0, 0, 0, 0), (10, .getfield 19, 3, 0, 9, 1, 86), (13, .getfield 96, 3, 0, 7, 0, 87), (16, .iload_n 2, 1, 0, 0, 0, 0), (17, .invokevirtual 103, 3, 0, 34, 2, 55), (20, .ifCond .ne 5, 3, 0, 25, 0, 0), (23, .iconst (-1), 1, 0, 0, 0, 0), (24, .ireturn, 1, 0, 0, 0, 0), (25, .aload_n 0, 1, 0, 0, 0, 0), (26, .getfield 19, 3, 0, 9, 1, 86), (29, .getfield 137, 3, 1, 7, 9, 95), (32, .bipush 8, 2, 0, 0, 0, 0), (34, .if_icmp .lt 6, 3, 0, 40, 0, 0), (37, .bipush (-3), 2, 0, 0, 0, 0), (39, .ireturn, 1, 0, 0, 0, 0), (40, .aload_n 0, 1, 0, 0, 0, 0), (41, .iload_n 1, 1, 0, 0, 0, 0), (42, .invokevirtual 217, 3, 0, 109, 2, 73), (45, .ifCond .eq 6, 3, 0, 51, 0, 0), (48, .bipush (-4), 2, 0, 0, 0, 0), (50, .ireturn, 1, 0, 0, 0, 0), (51, .aload_n 0, 1, 0, 0, 0, 0), (52, .getfield 19, 3, 0, 9, 1, 86), (55, .getfield 96, 3, 0, 7, 0, 87), (58, .invokevirtual 238, 3, 0, 40, 1, 77), (61, .istore_n 3, 1, 0, 0, 0, 0), (62, .iconst 0, 1, 0, 0, 0, 0), (63, .istore 4, 2, 0, 0, 0, 0), (65, .iload 4, 2, 0, 0, 0, 0), (67, .iload_n 3, 1, 0, 0, 0, 0), (68, .if_icmp .ge 55, 3, 0, 123, 0, 0), (71, .aload_n 0, 1, 0, 0, 0, 0), (72, .getfield 19, 3, 0, 9, 1, 86), (75, .getfield 96, 3, 0, 7, 0, 87), (78, .iload 4, 2, 0, 0, 0, 0), (80, .aload_n 0, 1, 0, 0, 0, 0), (81, .getfield 66, 3, 0, 9, 9, 111), (84, .invokevirtual 241, 3, 0, 41, 3, 78), (87, .aload_n 0, 1, 0, 0, 0, 0), (88, .getfield 36, 3, 0, 9, 4, 107), (91, .iload_n 1, 1, 0, 0, 0, 0), (92, .aload_n 0, 1, 0, 0, 0, 0), (93, .getfield 19, 3, 0, 9, 1, 86), (96, .aload_n 0, 1, 0, 0, 0, 0), (97, .getfield 66, 3, 0, 9, 9, 111), (100, .iconst 0, 1, 0, 0, 0, 0), (101, .invokevirtual 190, 3, 0, 60, 3, 67), (104, .invokevirtual 245, 3, 0, 28, 3, 79), (107, .ifCond .eq 10, 3, 0, 117, 0, 0), (110, .aload_n 0, 1, 0, 0, 0, 0), (111, .getfield 66, 3, 0, 9, 9, 111), (114, .iload_n 2, 1, 0, 0, 0, 0), (115, .iaload, 1, 0, 0, 0, 0), (116, .ireturn, 1, 0, 0, 0, 0), (117, .iinc 4 1, 3, 0, 0, 0, 0), (120, .goto (-55), 3, 0, 65, 0, 0), (123, .bipush (-4), 2, 0, 0, 0, 0), (125, .ireturn, 1, 0, 0, 0, 0)]
def zm92 : zMI := (⟨"CommaCopies", "more", "(II)I"⟩, prog_1_method_23_code, 5, (Option.some Jvm.ClassFile.FieldType.int), false, 9, (722, 720, 721, 86), zc92)
/-- CommaCopies.score(I)I -/
def zc93 : List zEnt := [(0, .aload_n 0, 1, 0, 0, 0, 0), (1, .getfield 19, 3, 0, 9, 1, 86), (4, .iload_n 1, 1, 0, 0, 0, 0), (5, .invokevirtual 131, 3, 0, 56, 2, 59), (8, .ifCond .eq 14, 3, 0, 22, 0, 0), (11, .aload_n 0, 1, 0, 0, 0, 0), (12, .getfield 19, 3, 0, 9, 1, 86), (15, .iload_n 1, 1, 0, 0, 0, 0), (16, .invokevirtual 248, 3, 0, 62, 2, 80), (19, .goto 4, 3, 0, 23, 0, 0), (22, .iconst (-1), 1, 0, 0, 0, 0), (23, .ireturn, 1, 0, 0, 0, 0)]
def zm93 : zMI := (⟨"CommaCopies", "score", "(I)I"⟩, prog_1_method_24_code, 2, (Option.some Jvm.ClassFile.FieldType.int), false, 9, (751, 749, 750, 86), zc93)
/-- CommaCopies.wrong(II)I -/
def zc94 : List zEnt := [(0, .iload_n 1, 1, 0, 0, 0, 0), (1, .ifCond .lt 18, 3, 0, 19, 0, 0), (4, .iload_n 1, 1, 0, 0, 0, 0), (5, .bipush 6, 2, 0, 0, 0, 0), (7, .if_icmp .gt 12, 3, 0, 19, 0, 0), (10, .iload_n 2, 1, 0, 0, 0, 0), (11, .ifCond .eq 10, 3, 0, 21, 0, 0), (14, .iload_n 2, 1, 0, 0, 0, 0), (15, .iconst 1, 1, 0, 0, 0, 0), (16, .if_icmp .eq 5, 3, 0, 21, 0, 0), (19, .iconst (-1), 1, 0, 0, 0, 0), (20, .ireturn, 1, 0, 0, 0, 0), (21, .aload_n 0, 1, 0, 0, 0, 0), (22, .getfield 19, 3, 0, 9, 1, 86), (25, .getfield 96, 3, 0, 7, 0, 87), (28, .getfield 180, 3, 2, 4, 4, 102), (31, .ifCond .ne 6, 3, 0, 37, 0, 0), (34, .bipush (-2), 2, 0, 0, 0, 0), (36, .ireturn, 1, 0, 0, 0, 0), (37, .aload_n 0, 1, 0, 0, 0, 0), (38, .getfield 55, 3, 0, 9, 7, 112), (41, .aload_n 0, 1, 0, 0, 0, 0), (42, .getfield 19, 3, 0, 9, 1, 86), (45, .invokevirtual 251, 3, 0, 0, 2, 81), (48, .aload_n 0, 1, 0, 0, 0, 0), (49, .getfield 55, 3, 0, 9, 7, 112), (52, .iload_n 1, 1, 0, 0, 0, 0), (53, .iload_n 2, 1, 0, 0, 0, 0), (54, .invokevirtual 255, 3, 0, 2, 3, 82), (57, .ireturn, 1, 0, 0, 0, 0)]
def zm94 : zMI := (⟨"CommaCopies", "wrong", "(II)I"⟩, prog_1_method_25_code, 3, (Option.some Jvm.ClassFile.FieldType.int), false, 9, (759, 757, 758, 86), zc94)
/-- CommaCopies.bar(I)I -/
def zc95 : List zEnt := [(0, .iload_n 1, 1, 0, 0, 0, 0), (1, .iconst 1, 1, 0, 0, 0, 0), (2, .if_icmp .lt 10, 3, 0, 12, 0, 0), (5, .iload_n 1, 1, 0, 0, 0, 0), (6, .sipush 9999, 3, 0, 0, 0, 0), (9, .if_icmp .le 5, 3, 0, 14, 0, 0), (12, .iconst (-1), 1, 0, 0, 0, 0), (13, .ireturn, 1, 0, 0, 0, 0), (14, .aload_n 0, 1, 0, 0, 0, 0), (15, .getfield 19, 3, 0, 9, 1, 86), (18, .getfield 96, 3, 0, 7, 0, 87), (21, .getfield 180, 3, 2, 4, 4, 102), (24, .ifCond .ne 6, 3, 0, 30, 0, 0), (27, .bipush (-2), 2, 0, 0, 0, 0), (29, .ireturn, 1, 0, 0, 0, 0), (30, .aload_n 0, 1, 0, 0, 0, 0), (31, .getfield 55, 3, 0, 9, 7, 112), (34, .aload_n 0, 1, 0, 0, 0, 0), (35, .getfield 19, 3, 0, 9, 1, 86), (38, .invokevirtual 251, 3, 0, 0, 2, 81), (41, .aload_n 0, 1, 0, 0, 0, 0), (42, .getfield 55, 3, 0, 9, 7, 112), (45, .iload_n 1, 1, 0, 0, 0, 0), (46, .invokevirtual 258, 3, 0, 4, 2, 83), (49, .ireturn, 1, 0, 0, 0, 0)]
def zm95 : zMI := (⟨"CommaCopies", "bar", "(I)I"⟩, prog_1_method_26_code, 2, (Option.some Jvm.ClassFile.FieldType.int), false, 9, (779, 777, 778, 86), zc95)
/-- CommaCopies.put(II)I -/
def zc96 : List zEnt := [(0, .aload_n 0, 1, 0, 0, 0, 0), (1, .getfield 19, 3, 0, 9, 1, 86), (4, .getfield 96, 3, 0, 7, 0, 87), (7, .iload_n 1, 1, 0, 0, 0, 0), (8, .iload_n 2, 1, 0, 0, 0, 0), (9, .invokevirtual 110, 3, 0, 35, 3, 56), (12, .ifCond .ne 5, 3, 0, 17, 0, 0), (15, .iconst (-1), 1, 0, 0, 0, 0), (16, .ireturn, 1, 0, 0, 0, 0), (17, .aload_n 0, 1, 0, 0, 0, 0), (18, .getfield 19, 3, 0, 9, 1, 86), (21, .iload_n 1, 1, 0, 0, 0, 0), (22, .invokevirtual 261, 3, 0, 64, 2, 84), (25, .iload_n 2, 1, 0, 0, 0, 0), (26, .invokestatic 264, 3, 0, 67, 2, 85), (29, .ireturn, 1, 0, 0, 0, 0)]
def zm96 : zMI := (⟨"CommaCopies", "put", "(II)I"⟩, prog_1_method_27_code, 3, (Option.some Jvm.ClassFile.FieldType.int), false, 9, (787, 785, 786, 86), zc96)
/-- CommaCopies.putAll()I -/
def zc97 : List zEnt := [(0, .aload_n 0, 1, 0, 0, 0, 0), (1, .getfield 19, 3, 0, 9, 1, 86), (4, .getfield 96, 3, 0, 7, 0, 87), (7, .getfield 180, 3, 2, 4, 4, 102), (10, .ifCond .ne 6, 3, 0, 16, 0, 0), (13, .bipush (-2), 2, 0, 0, 0, 0), (15, .ireturn, 1, 0, 0, 0, 0), (16, .iconst 0, 1, 0, 0, 0, 0), (17, .istore_n 1, 1, 0, 0, 0, 0), (18, .iload_n 1, 1, 0, 0, 0, 0), (19, .aload_n 0, 1, 0, 0, 0, 0), (20, .getfield 19, 3, 0, 9, 1, 86), (23, .getfield 96, 3, 0, 7, 0, 87), (26, .getfield 100, 3, 1, 4, 6, 88), (29, .if_icmp .ge 25, 3, 0, 54, 0, 0), (32, .aload_n 0, 1, 0, 0, 0, 0), (33, .getfield 19, 3, 0, 9, 1, 86), (36, .iload_n 1, 1, 0, 0, 0, 0), (37, .aload_n 0, 1, 0, 0, 0, 0), (38, .getfield 19, 3, 0, 9, 1, 86), (41, .iload_n 1, 1, 0, 0, 0, 0), (42, .invokevirtual 261, 3, 0, 64, 2, 84), (45, .invokevirtual 267, 3, 0, 66, 3, 86), (48, .iinc 1 1, 3, 0, 0, 0, 0), (51, .goto (-33), 3, 0, 18, 0, 0), (54, .iconst 0, 1, 0, 0, 0, 0), (55, .istore_n 1, 1, 0, 0, 0, 0), (56, .iconst 0, 1, 0, 0, 0, 0), (57, .istore_n 2, 1, 0, 0, 0, 0), (58, .iload_n 2, 1, 0, 0, 0, 0), (59, .aload_n 0, 1, 0, 0, 0, 0), (60, .getfield 19, 3, 0, 9, 1, 86), (63, .getfield 137, 3, 1, 7, 9, 95), (66, .if_icmp .ge 20, 3, 0, 86, 0, 0), (69, .iload_n 1, 1, 0, 0, 0, 0), (70, .aload_n 0, 1, 0, 0, 0, 0), (71, .getfield 19, 3, 0, 9, 1, 86), (74, .iload_n 2, 1, 0, 0, 0, 0), (75, .invokevirtual 150, 3, 0, 63, 2, 62), (78, .iadd, 1, 0, 0, 0, 0), (79, .istore_n 1, 1, 0, 0, 0, 0), (80, .iinc 2 1, 3, 0, 0, 0, 0), (83, .goto (-25), 3, 0, 58, 0, 0), (86, .iload_n 1, 1, 0, 0, 0, 0), (87, .ireturn, 1, 0, 0, 0, 0)]
def zm97 : zMI := (⟨"CommaCopies", "putAll", "()I"⟩, prog_1_method_28_code, 3, (Option.some Jvm.ClassFile.FieldType.int), false, 9, (807, 805, 806, 86), zc97)
/-- CommaCopies.hidden(II)I -/
def zc98 : List zEnt := [(0, .aload_n 0, 1, 0, 0, 0, 0), (1, .getfield 19, 3, 0, 9, 1, 86), (4, .iload_n 1, 1, 0, 0, 0, 0), (5, .invokevirtual 187, 3, 0, 57, 2, 66), (8, .ifCond .eq 22, 3, 0, 30, 0, 0), (11, .iload_n 2, 1, 0, 0, 0, 0), (12, .iconst (-1), 1, 0, 0, 0, 0), (13, .if_icmp .eq 19, 3, 0, 32, 0, 0), (16, .aload_n 0, 1, 0, 0, 0, 0), (17, .getfield 19, 3, 0, 9, 1, 86), (20, .getfield 96, 3, 0, 7, 0, 87), (23, .iload_n 2, 1, 0, 0, 0, 0), (24, .invokevirtual 103, 3, 0, 34, 2, 55), (27, .ifCond .ne 5, 3, 0, 32, 0, 0), (30, .iconst (-1), 1, 0, 0, 0, 0), (31, .ireturn, 1, 0, 0, 0, 0), (32, .aload_n 0, 1, 0, 0, 0, 0), (33, .getfield 62, 3, 0, 9, 8, 113), (36, .aload_n 0, 1, 0, 0, 0, 0), (37, .invokevirtual 193, 3, 0, 107, 1, 68), (40, .iload_n 1, 1, 0, 0, 0, 0), (41, .aload_n 0, 1, 0, 0, 0, 0), (42, .getfield 19, 3, 0, 9, 1, 86), (45, .getfield 96, 3, 0, 7, 0, 87), (48, .getfield 100, 3, 1, 4, 6, 88), (51, .invokevirtual 271, 3, 0, 5, 4, 87), (54, .iload_n 2, 1, 0, 0, 0, 0), (55, .iconst (-1), 1, 0, 0, 0, 0), (56, .if_icmp .ne 13, 3, 0, 69, 0, 0), (59, .aload_n 0, 1, 0, 0, 0, 0), (60, .getfield 62, 3, 0, 9, 8, 113), (63, .getfield 275, 3, 1, 1, 3, 114), (66, .goto 12, 3, 0, 78, 0, 0), (69, .aload_n 0, 1, 0, 0, 0, 0), (70, .getfield 62, 3, 0, 9, 8, 113), (73, .getfield 278, 3, 0, 1, 2, 115), (76, .iload_n 2, 1, 0, 0, 0, 0), (77, .iaload, 1, 0, 0, 0, 0), (78, .ireturn, 1, 0, 0, 0, 0)]
def zm98 : zMI := (⟨"CommaCopies", "hidden", "(II)I"⟩, prog_1_method_29_code, 3, (Option.some Jvm.ClassFile.FieldType.int), false, 9, (815, 813, 814, 86), zc98)
/-- CommaCopies.keep()I -/
def zc99 : List zEnt := [(0, .aload_n 0, 1, 0, 0, 0, 0), (1, .getfield 19, 3, 0, 9, 1, 86), (4, .getfield 96, 3, 0, 7, 0, 87), (7, .getfield 180, 3, 2, 4, 4, 102), (10, .ifCond .eq 13, 3, 0, 23, 0, 0), (13, .aload_n 0, 1, 0, 0, 0, 0), (14, .getfield 19, 3, 0, 9, 1, 86), (17, .invokevirtual 281, 3, 0, 59, 1, 88), (20, .goto 5, 3, 0, 25, 0, 0), (23, .bipush (-2), 2, 0, 0, 0, 0), (25, .ireturn, 1, 0, 0, 0, 0)]
def zm99 : zMI := (⟨"CommaCopies", "keep", "()I"⟩, prog_1_method_30_code, 1, (Option.some Jvm.ClassFile.FieldType.int), false, 9, (838, 836, 837, 86), zc99)
/-- CommaCopies.past(II)I -/
def zc100 : List zEnt := [(0, .aload_n 0, 1, 0, 0, 0, 0), (1, .getfield 19, 3, 0, 9, 1, 86), (4, .iload_n 1, 1, 0, 0, 0, 0), (5, .invokevirtual 131, 3, 0, 56, 2, 59), (8, .ifCond .eq 12, 3, 0, 20, 0, 0), (11, .iload_n 2, 1, 0, 0, 0, 0), (12, .ifCond .eq 10, 3, 0, 22, 0, 0), (15, .iload_n 2, 1, 0, 0, 0, 0), (16, .iconst 1, 1, 0, 0, 0, 0), (17, .if_icmp .eq 5, 3, 0, 22, 0, 0), (20, .iconst (-1), 1, 0, 0, 0, 0), (21, .ireturn, 1, 0, 0, 0, 0), (22, .iconst 0, 1, 0, 0, 0, 0), (23, .istore_n 3, 1, 0, 0, 0, 0), (24, .iconst 0, 1, 0, 0, 0, 0), (25, .istore 4, 2, 0, 0, 0, 0), (27, .iload 4, 2, 0, 0, 0, 0), (29, .aload_n 0, 1, 0, 0, 0, 0), (30, .getfield 19, 3, 0, 9, 1, 86), (33, .getfield 160, 3, 1, 7, 10, 98), (36, .if_icmp .ge 105, 3, 0, 141, 0, 0), (39, .aload_n 0, 1, 0, 0, 0, 0), (40, .getfield 44, 3, 0, 9, 5, 104), (43, .aload_n 0, 1, 0, 0, 0, 0), (44, .getfield 19, 3, 0, 9, 1, 86), (47, .aload_n 0, 1, 0, 0, 0, 0), (48, .getfield 19, 3, 0, 9, 1, 86), (51, .getfield 284, 3, 0, 7, 6, 116), (54, .iload 4, 2, 0, 0, 0, 0), (56, .iaload, 1, 0, 0, 0, 0), (57, .aload_n 0, 1, 0, 0, 0, 0), (58, .getfield 19, 3, 0, 9, 1, 86), (61, .getfield 287, 3, 0, 7, 7, 117), (64, .iload 4, 2, 0, 0, 0, 0), (66, .iaload, 1, 0, 0, 0, 0), (67, .invokevirtual 290, 3, 0, 9, 4, 89), (70, .aload_n 0, 1, 0, 0, 0, 0), (71, .getfield 44, 3, 0, 9, 5, 104), (74, .invokevirtual 199, 3, 0, 10, 1, 70), (77, .aload_n 0, 1, 0, 0, 0, 0), (78, .getfield 44, 3, 0, 9, 5, 104), (81, .aload_n 0, 1, 0, 0, 0, 0), (82, .getfield 19, 3, 0, 9, 1, 86), (85, .aload_n 0, 1, 0, 0, 0, 0), (86, .getfield 19, 3, 0, 9, 1, 86), (89, .getfield 294, 3, 0, 7, 5, 118), (92, .iload 4, 2, 0, 0, 0, 0), (94, .bipush 6, 2, 0, 0, 0, 0), (96, .imul, 1, 0, 0, 0, 0), (97, .invokevirtual 190, 3, 0, 60, 3, 67), (100, .invokevirtual 297, 3, 0, 15, 2, 90), (103, .iload_n 2, 1, 0, 0, 0, 0), (104, .ifCond .ne 13, 3, 0, 117, 0, 0), (107, .aload_n 0, 1, 0, 0, 0, 0), (108, .getfield 44, 3, 0, 9, 5, 104), (111, .getfield 206, 3, 1, 2, 11, 105), (114, .goto 10, 3, 0, 124, 0, 0), (117, .aload_n 0, 1, 0, 0, 0, 0), (118, .getfield 44, 3, 0, 9, 5, 104), (121, .getfield 209, 3, 1, 2, 12, 106), (124, .istore 5, 2, 0, 0, 0, 0), (126, .iload_n 3, 1, 0, 0, 0, 0), (127, .iload 5, 2, 0, 0, 0, 0), (129, .iload_n 1, 1, 0, 0, 0, 0), (130, .ishr, 1, 0, 0, 0, 0), (131, .iconst 1, 1, 0, 0, 0, 0), (132, .iand, 1, 0, 0, 0, 0), (133, .iadd, 1, 0, 0, 0, 0), (134, .istore_n 3, 1, 0, 0, 0, 0), (135, .iinc 4 1, 3, 0, 0, 0, 0), (138, .goto (-111), 3, 0, 27, 0, 0), (141, .iload_n 3, 1, 0, 0, 0, 0), (142, .ireturn, 1, 0, 0, 0, 0)]
def zm100 : zMI := (⟨"CommaCopies", "past", "(II)I"⟩, prog_1_method_31_code, 6, (Option.some Jvm.ClassFile.FieldType.int), false, 9, (846, 844, 845, 86), zc100)
/-- CommaCopies.image()I -/
def zc101 : List zEnt := [(0, .aload_n 0, 1, 0, 0, 0, 0), (1, .getfield 23, 3, 0, 9, 2, 119), (4, .aload_n 0, 1, 0, 0, 0, 0), (5, .getfield 19, 3, 0, 9, 1, 86), (8, .invokevirtual 301, 3, 0, 55, 2, 91), (11, .aload_n 0, 1, 0, 0, 0, 0), (12, .iconst 1, 1, 0, 0, 0, 0), (13, .putfield 70, 3, 2, 9, 10, 120), (16, .iconst 1, 1, 0, 0, 0, 0), (17, .ireturn, 1, 0, 0, 0, 0)]
def zm101 : zMI := (⟨"CommaCopies", "image", "()I"⟩, prog_1_method_32_code, 1, (Option.some Jvm.ClassFile.FieldType.int), false, 9, (850, 848, 849, 86), zc101)
/-- CommaCopies.restore()I -/
def zc102 : List zEnt := [(0, .aload_n 0, 1, 0, 0, 0, 0), (1, .getfield 70, 3, 2, 9, 10, 120), (4, .ifCond .ne 6, 3, 0, 10, 0, 0), (7, .bipush (-4), 2, 0, 0, 0, 0), (9, .ireturn, 1, 0, 0, 0, 0), (10, .aload_n 0, 1, 0, 0, 0, 0), (11, .getfield 19, 3, 0, 9, 1, 86), (14, .aload_n 0, 1, 0, 0, 0, 0), (15, .getfield 23, 3, 0, 9, 2, 119), (18, .invokevirtual 301, 3, 0, 55, 2, 91), (21, .iconst 1, 1, 0, 0, 0, 0), (22, .ireturn, 1, 0, 0, 0, 0)]
def zm102 : zMI := (⟨"CommaCopies", "restore", "()I"⟩, prog_1_method_33_code, 1, (Option.some Jvm.ClassFile.FieldType.int), false, 9, (862, 860, 861, 86), zc102)
/-- CommaCopies.sheet(III)I -/
def zc103 : List zEnt := [(0, .aload_n 0, 1, 0, 0, 0, 0), (1, .getfield 29, 3, 0, 9, 3, 92), (4, .iload_n 1, 1, 0, 0, 0, 0), (5, .iload_n 2, 1, 0, 0, 0, 0), (6, .iload_n 3, 1, 0, 0, 0, 0), (7, .invokevirtual 304, 3, 0, 48, 4, 92), (10, .ireturn, 1, 0, 0, 0, 0)]
def zm103 : zMI := (⟨"CommaCopies", "sheet", "(III)I"⟩, prog_1_method_34_code, 4, (Option.some Jvm.ClassFile.FieldType.int), false, 9, (866, 864, 865, 86), zc103)
/-- CommaCopies.drop(I)I -/
def zc104 : List zEnt := [(0, .aload_n 0, 1, 0, 0, 0, 0), (1, .getfield 29, 3, 0, 9, 3, 92), (4, .iload_n 1, 1, 0, 0, 0, 0), (5, .invokevirtual 308, 3, 0, 49, 2, 93), (8, .ireturn, 1, 0, 0, 0, 0)]
def zm104 : zMI := (⟨"CommaCopies", "drop", "(I)I"⟩, prog_1_method_35_code, 2, (Option.some Jvm.ClassFile.FieldType.int), false, 9, (874, 872, 873, 86), zc104)
/-- CommaCopies.item(IIII)I -/
def zc105 : List zEnt := [(0, .aload_n 0, 1, 0, 0, 0, 0), (1, .getfield 29, 3, 0, 9, 3, 92), (4, .iload_n 1, 1, 0, 0, 0, 0), (5, .iload_n 2, 1, 0, 0, 0, 0), (6, .iload_n 3, 1, 0, 0, 0, 0), (7, .iconst 1, 1, 0, 0, 0, 0), (8, .invokevirtual 120, 3, 0, 50, 5, 57), (11, .istore 5, 2, 0, 0, 0, 0), (13, .iload 5, 2, 0, 0, 0, 0), (15, .ifCond .ge 6, 3, 0, 21, 0, 0), (18, .iload 5, 2, 0, 0, 0, 0), (20, .ireturn, 1, 0, 0, 0, 0), (21, .aload_n 0, 1, 0, 0, 0, 0), (22, .getfield 29, 3, 0, 9, 3, 92), (25, .getfield 124, 3, 0, 6, 2, 93), (28, .iload_n 1, 1, 0, 0, 0, 0), (29, .bipush 12, 2, 0, 0, 0, 0), (31, .imul, 1, 0, 0, 0, 0), (32, .iload_n 3, 1, 0, 0, 0, 0), (33, .iadd, 1, 0, 0, 0, 0), (34, .iload_n 2, 1, 0, 0, 0, 0), (35, .iload 4, 2, 0, 0, 0, 0), (37, .invokestatic 311, 3, 0, 52, 2, 94), (40, .iastore, 1, 0, 0, 0, 0), (41, .iconst 1, 1, 0, 0, 0, 0), (42, .ireturn, 1, 0, 0, 0, 0)]
def zm105 : zMI := (⟨"CommaCopies", "item", "(IIII)I"⟩, prog_1_method_36_code, 6, (Option.some Jvm.ClassFile.FieldType.int), false, 9, (882, 880, 881, 86), zc105)
/-- CommaCopies.copy(IIIII)I -/
def zc106 : List zEnt := [(0, .aload_n 0, 1, 0, 0, 0, 0), (1, .getfield 29, 3, 0, 9, 3, 92), (4, .iload_n 1, 1, 0, 0, 0, 0), (5, .iload_n 2, 1, 0, 0, 0, 0), (6, .iload_n 3, 1, 0, 0, 0, 0), (7, .iload 4, 2, 0, 0, 0, 0), (9, .iload 5, 2, 0, 0, 0, 0), (11, .invokevirtual 314, 3, 0, 53, 6, 95), (14, .ireturn, 1, 0, 0, 0, 0)]
def zm106 : zMI := (⟨"CommaCopies", "copy", "(IIIII)I"⟩, prog_1_method_37_code, 6, (Option.some Jvm.ClassFile.FieldType.int), false, 9, (889, 887, 888, 86), zc106)
/-- CommaCopies.lookNow()LCommaCopies$Joins; -/
def zc107 : List zEnt := [(0, .aload_n 0, 1, 0, 0, 0, 0), (1, .getfield 44, 3, 0, 9, 5, 104), (4, .aload_n 0, 1, 0, 0, 0, 0), (5, .getfield 19, 3, 0, 9, 1, 86), (8, .aload_n 0, 1, 0, 0, 0, 0), (9, .getfield 19, 3, 0, 9, 1, 86), (12, .getfield 154, 3, 1, 7, 11, 96), (15, .aload_n 0, 1, 0, 0, 0, 0), (16, .getfield 19, 3, 0, 9, 1, 86), (19, .getfield 157, 3, 1, 7, 12, 97), (22, .invokevirtual 290, 3, 0, 9, 4, 89), (25, .aload_n 0, 1, 0, 0, 0, 0), (26, .getfield 44, 3, 0, 9, 5, 104), (29, .areturn, 1, 0, 0, 0, 0)]
def zm107 : zMI := (⟨"CommaCopies", "lookNow", "()LCommaCopies$Joins;"⟩, prog_1_method_38_code, 1, (Option.some (Jvm.ClassFile.FieldType.object "CommaCopies$Joins")), false, 9, (555, 554, 14, 86), zc107)
/-- CommaCopies.tryPrint()LCommaCopies$Joins; -/
def zc108 : List zEnt := [(0, .aload_n 0, 1, 0, 0, 0, 0), (1, .invokevirtual 193, 3, 0, 107, 1, 68), (4, .invokevirtual 199, 3, 0, 10, 1, 70), (7, .aload_n 0, 1, 0, 0, 0, 0), (8, .getfield 44, 3, 0, 9, 5, 104), (11, .aload_n 0, 1, 0, 0, 0, 0), (12, .getfield 19, 3, 0, 9, 1, 86), (15, .aload_n 0, 1, 0, 0, 0, 0), (16, .getfield 19, 3, 0, 9, 1, 86), (19, .getfield 177, 3, 0, 7, 4, 101), (22, .iconst 0, 1, 0, 0, 0, 0), (23, .invokevirtual 190, 3, 0, 60, 3, 67), (26, .invokevirtual 297, 3, 0, 15, 2, 90), (29, .aload_n 0, 1, 0, 0, 0, 0), (30, .getfield 44, 3, 0, 9, 5, 104), (33, .areturn, 1, 0, 0, 0, 0)]
def zm108 : zMI := (⟨"CommaCopies", "tryPrint", "()LCommaCopies$Joins;"⟩, prog_1_method_39_code, 1, (Option.some (Jvm.ClassFile.FieldType.object "CommaCopies$Joins")), false, 9, (551, 550, 13, 86), zc108)
/-- CommaCopies.breaks(I)Z -/
def zc109 : List zEnt := [(0, .aload_n 0, 1, 0, 0, 0, 0), (1, .invokevirtual 193, 3, 0, 107, 1, 68), (4, .invokevirtual 199, 3, 0, 10, 1, 70), (7, .iload_n 1, 1, 0, 0, 0, 0), (8, .iconst 2, 1, 0, 0, 0, 0), (9, .if_icmp .ne 10, 3, 0, 19, 0, 0), (12, .aload_n 0, 1, 0, 0, 0, 0), (13, .getfield 36, 3, 0, 9, 4, 107), (16, .invokevirtual 318, 3, 0, 24, 1, 96), (19, .aload_n 0, 1, 0, 0, 0, 0), (20, .getfield 36, 3, 0, 9, 4, 107), (23, .iload_n 1, 1, 0, 0, 0, 0), (24, .aload_n 0, 1, 0, 0, 0, 0), (25, .getfield 19, 3, 0, 9, 1, 86), (28, .getfield 96, 3, 0, 7, 0, 87), (31, .invokevirtual 229, 3, 0, 36, 1, 74), (34, .invokevirtual 235, 3, 0, 16, 3, 76), (37, .ireturn, 1, 0, 0, 0, 0)]
def zm109 : zMI := (⟨"CommaCopies", "breaks", "(I)Z"⟩, prog_1_method_40_code, 2, (Option.some Jvm.ClassFile.FieldType.boolean), false, 9, (655, 654, 27, 86), zc109)
/-- CommaCopiesModel.in(JJJ)Z -/
def zc110 : List zEnt := [(0, .lload_n 0, 1, 0, 0, 0, 0), (1, .lload_n 2, 1, 0, 0, 0, 0), (2, .lcmp, 1, 0, 0, 0, 0), (3, .ifCond .lt 14, 3, 0, 17, 0, 0), (6, .lload_n 0, 1, 0, 0, 0, 0), (7, .lload 4, 2, 0, 0, 0, 0), (9, .lcmp, 1, 0, 0, 0, 0), (10, .ifCond .gt 7, 3, 0, 17, 0, 0), (13, .iconst 1, 1, 0, 0, 0, 0), (14, .goto 4, 3, 0, 18, 0, 0), (17, .iconst 0, 1, 0, 0, 0, 0), (18, .ireturn, 1, 0, 0, 0, 0)]
def zm110 : zMI := (⟨"CommaCopiesModel", "in", "(JJJ)Z"⟩, prog_12_method_2_code, 6, (Option.some Jvm.ClassFile.FieldType.boolean), true, 10, (1017, 1016, 0, 96), zc110)
/-- CommaCopiesModel.type(JI)I -/
def zc111 : List zEnt := [(0, .iload_n 3, 1, 0, 0, 0, 0), (1, .i2l, 1, 0, 0, 0, 0), (2, .lconst 1, 1, 0, 0, 0, 0), (3, .ldc2_w 86, 3, 8, 0, 0, 1014), (6, .invokestatic 88, 3, 0, 110, 3, 97), (9, .ifCond .ne 5, 3, 0, 14, 0, 0), (12, .iconst (-1), 1, 0, 0, 0, 0), (13, .ireturn, 1, 0, 0, 0, 0), (14, .iconst 0, 1, 0, 0, 0, 0), (15, .istore 4, 2, 0, 0, 0, 0), (17, .iload 4, 2, 0, 0, 0, 0), (19, .iload_n 3, 1, 0, 0, 0, 0), (20, .if_icmp .ge 34, 3, 0, 54, 0, 0), (23, .lload_n 1, 1, 0, 0, 0, 0), (24, .bipush 8, 2, 0, 0, 0, 0), (26, .iload 4, 2, 0, 0, 0, 0), (28, .imul, 1, 0, 0, 0, 0), (29, .lshr, 1, 0, 0, 0, 0), (30, .ldc2_w 92, 3, 255, 0, 0, 1018), (33, .land, 1, 0, 0, 0, 0), (34, .ldc2_w 94, 3, 32, 0, 0, 1019), (37, .ldc2_w 96, 3, 126, 0, 0, 1020), (40, .invokestatic 88, 3, 0, 110, 3, 97), (43, .ifCond .ne 5, 3, 0, 48, 0, 0), (46, .iconst (-1), 1, 0, 0, 0, 0), (47, .ireturn, 1, 0, 0, 0, 0), (48, .iinc 4 1, 3, 0, 0, 0, 0), (51, .goto (-34), 3, 0, 17, 0, 0), (54, .aload_n 0, 1, 0, 0, 0, 0), (55, .getfield 98, 3, 1, 10, 1, 121), (58, .iload_n 3, 1, 0, 0, 0, 0), (59, .iadd, 1, 0, 0, 0, 0), (60, .bipush 120, 2, 0, 0, 0, 0), (62, .if_icmp .le 6, 3, 0, 68, 0, 0), (65, .bipush (-3), 2, 0, 0, 0, 0), (67, .ireturn, 1, 0, 0, 0, 0), (68, .iload_n 3, 1, 0, 0, 0, 0), (69, .iconst 1, 1, 0, 0, 0, 0), (70, .isub, 1, 0, 0, 0, 0), (71, .istore 4, 2, 0, 0, 0, 0), (73, .iload 4, 2, 0, 0, 0, 0), (75, .ifCond .lt 40, 3, 0, 115, 0, 0), (78, .aload_n 0, 1, 0, 0, 0, 0), (79, .getfield 7, 3, 0, 10, 0, 122), (82, .aload_n 0, 1, 0, 0, 0, 0), (83, .getfield 98, 3, 1, 10, 1, 121), (86, .lload_n 1, 1, 0, 0, 0, 0), (87, .bipush 8, 2, 0, 0, 0, 0), (89, .iload 4, 2, 0, 0, 0, 0), (91, .imul, 1, 0, 0, 0, 0), (92, .lshr, 1, 0, 0, 0, 0), (93, .ldc2_w 92, 3, 255, 0, 0, 1018), (96, .land, 1, 0, 0, 0, 0), (97, .l2i, 1, 0, 0, 0, 0), (98, .iastore, 1, 0, 0, 0, 0), (99, .aload_n 0, 1, 0, 0, 0, 0), (100, .dup, 1, 0, 0, 0, 0), (101, .getfield 98, 3, 1, 10, 1, 121), (104, .iconst 1, 1, 0, 0, 0, 0), (105, .iadd, 1, 0, 0, 0, 0), (106, .putfield 98, 3, 1, 10, 1, 121), (109, .iinc 4 (-1), 3, 0, 0, 0, 0), (112, .goto (-39), 3, 0, 73, 0, 0), (115, .aload_n 0, 1, 0, 0, 0, 0), (116, .getfield 98, 3, 1, 10, 1, 121), (119, .ireturn, 1, 0, 0, 0, 0)]
def zm111 : zMI := (⟨"CommaCopiesModel", "type", "(JI)I"⟩, prog_12_method_4_code, 5, (Option.some Jvm.ClassFile.FieldType.int), false, 10, (1013, 1011, 1012, 96), zc111)
/-- CommaCopiesModel.fault()I -/
def zc112 : List zEnt := [(0, .iconst 0, 1, 0, 0, 0, 0), (1, .istore_n 1, 1, 0, 0, 0, 0), (2, .iconst 0, 1, 0, 0, 0, 0), (3, .istore_n 2, 1, 0, 0, 0, 0), (4, .iconst 0, 1, 0, 0, 0, 0), (5, .istore_n 3, 1, 0, 0, 0, 0), (6, .iconst 0, 1, 0, 0, 0, 0), (7, .istore 4, 2, 0, 0, 0, 0), (9, .iconst 0, 1, 0, 0, 0, 0), (10, .istore 5, 2, 0, 0, 0, 0), (12, .iload 5, 2, 0, 0, 0, 0), (14, .aload_n 0, 1, 0, 0, 0, 0), (15, .getfield 98, 3, 1, 10, 1, 121), (18, .if_icmp .ge 147, 3, 0, 165, 0, 0), (21, .aload_n 0, 1, 0, 0, 0, 0), (22, .getfield 7, 3, 0, 10, 0, 122), (25, .iload 5, 2, 0, 0, 0, 0), (27, .iaload, 1, 0, 0, 0, 0), (28, .istore 6, 2, 0, 0, 0, 0), (30, .iload 6, 2, 0, 0, 0, 0), (32, .bipush 91, 2, 0, 0, 0, 0), (34, .if_icmp .ne 34, 3, 0, 68, 0, 0), (37, .iload 4, 2, 0, 0, 0, 0), (39, .ifCond .ne 9, 3, 0, 48, 0, 0), (42, .iload_n 1, 1, 0, 0, 0, 0), (43, .bipush 6, 2, 0, 0, 0, 0), (45, .if_icmp .ne 7, 3, 0, 52, 0, 0), (48, .iconst 1, 1, 0, 0, 0, 0), (49, .goto 4, 3, 0, 53, 0, 0), (52, .iconst 0, 1, 0, 0, 0, 0), (53, .istore 7, 2, 0, 0, 0, 0), (55, .iconst 1, 1, 0, 0, 0, 0), (56, .istore 4, 2, 0, 0, 0, 0), (58, .iinc 1 1, 3, 0, 0, 0, 0), (61, .iconst 1, 1, 0, 0, 0, 0), (62, .istore_n 2, 1, 0, 0, 0, 0), (63, .iconst 0, 1, 0, 0, 0, 0), (64, .istore_n 3, 1, 0, 0, 0, 0), (65, .goto 86, 3, 0, 151, 0, 0), (68, .iload 6, 2, 0, 0, 0, 0), (70, .bipush 47, 2, 0, 0, 0, 0), (72, .if_icmp .ne 28, 3, 0, 100, 0, 0), (75, .iload 4, 2, 0, 0, 0, 0), (77, .ifCond .eq 8, 3, 0, 85, 0, 0), (80, .iload_n 2, 1, 0, 0, 0, 0), (81, .iconst 4, 1, 0, 0, 0, 0), (82, .if_icmp .ne 7, 3, 0, 89, 0, 0), (85, .iconst 1, 1, 0, 0, 0, 0), (86, .goto 4, 3, 0, 90, 0, 0), (89, .iconst 0, 1, 0, 0, 0, 0), (90, .istore 7, 2, 0, 0, 0, 0), (92, .iinc 2 1, 3, 0, 0, 0, 0), (95, .iconst 0, 1, 0, 0, 0, 0), (96, .istore_n 3, 1, 0, 0, 0, 0), (97, .goto 54, 3, 0, 151, 0, 0), (100, .iload 6, 2, 0, 0, 0, 0), (102, .bipush 93, 2, 0, 0, 0, 0), (104, .if_icmp .ne 26, 3, 0, 130, 0, 0), (107, .iload 4, 2, 0, 0, 0, 0), (109, .ifCond .eq 8, 3, 0, 117, 0, 0), (112, .iload_n 2, 1, 0, 0, 0, 0), (113, .iconst 2, 1, 0, 0, 0, 0), (114, .if_icmp .ge 7, 3, 0, 121, 0, 0), (117, .iconst 1, 1, 0, 0, 0, 0), (118, .goto 4, 3, 0, 122, 0, 0), (121, .iconst 0, 1, 0, 0, 0, 0), (122, .istore 7, 2, 0, 0, 0, 0), (124, .iconst 0, 1, 0, 0, 0, 0), (125, .istore 4, 2, 0, 0, 0, 0), (127, .goto 24, 3, 0, 151, 0, 0), (130, .iload 4, 2, 0, 0, 0, 0), (132, .ifCond .eq 13, 3, 0, 145, 0, 0), (135, .iload_n 3, 1, 0, 0, 0, 0), (136, .bipush 8, 2, 0, 0, 0, 0), (138, .if_icmp .ne 7, 3, 0, 145, 0, 0), (141, .iconst 1, 1, 0, 0, 0, 0), (142, .goto 4, 3, 0, 146, 0, 0), (145, .iconst 0, 1, 0, 0, 0, 0), (146, .istore 7, 2, 0, 0, 0, 0), (148, .iinc 3 1, 3, 0, 0, 0, 0), (151, .iload 7, 2, 0, 0, 0, 0), (153, .ifCond .eq 6, 3, 0, 159, 0, 0), (156, .iload 5, 2, 0, 0, 0, 0), (158, .ireturn, 1, 0, 0, 0, 0), (159, .iinc 5 1, 3, 0, 0, 0, 0), (162, .goto (-150), 3, 0, 12, 0, 0), (165, .iload 4, 2, 0, 0, 0, 0), (167, .ifCond .ne 10, 3, 0, 177, 0, 0), (170, .aload_n 0, 1, 0, 0, 0, 0), (171, .getfield 98, 3, 1, 10, 1, 121), (174, .ifCond .ne 10, 3, 0, 184, 0, 0), (177, .aload_n 0, 1, 0, 0, 0, 0), (178, .getfield 98, 3, 1, 10, 1, 121), (181, .goto 5, 3, 0, 186, 0, 0), (184, .bipush (-4), 2, 0, 0, 0, 0), (186, .ireturn, 1, 0, 0, 0, 0)]
def zm112 : zMI := (⟨"CommaCopiesModel", "fault", "()I"⟩, prog_12_method_5_code, 8, (Option.some Jvm.ClassFile.FieldType.int), false, 10, (1028, 1027, 59, 96), zc112)
/-- CommaCopiesModel.lays()V -/
def zc113 : List zEnt := [(0, .aload_n 0, 1, 0, 0, 0, 0), (1, .aload_n 0, 1, 0, 0, 0, 0), (2, .getfield 98, 3, 1, 10, 1, 121), (5, .putfield 101, 3, 1, 10, 2, 123), (8, .aload_n 0, 1, 0, 0, 0, 0), (9, .iconst 0, 1, 0, 0, 0, 0), (10, .putfield 104, 3, 1, 10, 4, 124), (13, .iconst 0, 1, 0, 0, 0, 0), (14, .istore_n 1, 1, 0, 0, 0, 0), (15, .iload_n 1, 1, 0, 0, 0, 0), (16, .aload_n 0, 1, 0, 0, 0, 0), (17, .getfield 98, 3, 1, 10, 1, 121), (20, .if_icmp .ge 170, 3, 0, 190, 0, 0), (23, .aload_n 0, 1, 0, 0, 0, 0), (24, .getfield 13, 3, 0, 10, 3, 125), (27, .iload_n 1, 1, 0, 0, 0, 0), (28, .aload_n 0, 1, 0, 0, 0, 0), (29, .getfield 7, 3, 0, 10, 0, 122), (32, .iload_n 1, 1, 0, 0, 0, 0), (33, .iaload, 1, 0, 0, 0, 0), (34, .iastore, 1, 0, 0, 0, 0), (35, .aload_n 0, 1, 0, 0, 0, 0), (36, .getfield 7, 3, 0, 10, 0, 122), (39, .iload_n 1, 1, 0, 0, 0, 0), (40, .iaload, 1, 0, 0, 0, 0), (41, .bipush 91, 2, 0, 0, 0, 0), (43, .if_icmp .ne 37, 3, 0, 80, 0, 0), (46, .aload_n 0, 1, 0, 0, 0, 0), (47, .getfield 16, 3, 0, 10, 5, 126), (50, .aload_n 0, 1, 0, 0, 0, 0), (51, .getfield 104, 3, 1, 10, 4, 124), (54, .iload_n 1, 1, 0, 0, 0, 0), (55, .iastore, 1, 0, 0, 0, 0), (56, .aload_n 0, 1, 0, 0, 0, 0), (57, .getfield 22, 3, 0, 10, 7, 127), (60, .aload_n 0, 1, 0, 0, 0, 0), (61, .getfield 104, 3, 1, 10, 4, 124), (64, .iconst 1, 1, 0, 0, 0, 0), (65, .iastore, 1, 0, 0, 0, 0), (66, .aload_n 0, 1, 0, 0, 0, 0), (67, .getfield 25, 3, 0, 10, 8, 128), (70, .iconst 4, 1, 0, 0, 0, 0), (71, .aload_n 0, 1, 0, 0, 0, 0), (72, .getfield 104, 3, 1, 10, 4, 124), (75, .imul, 1, 0, 0, 0, 0), (76, .iload_n 1, 1, 0, 0, 0, 0), (77, .iconst 1, 1, 0, 0, 0, 0), (78, .iadd, 1, 0, 0, 0, 0), (79, .iastore, 1, 0, 0, 0, 0), (80, .aload_n 0, 1, 0, 0, 0, 0), (81, .getfield 7, 3, 0, 10, 0, 122), (84, .iload_n 1, 1, 0, 0, 0, 0), (85, .iaload, 1, 0, 0, 0, 0), (86, .bipush 47, 2, 0, 0, 0, 0), (88, .if_icmp .eq 14, 3, 0, 102, 0, 0), (91, .aload_n 0, 1, 0, 0, 0, 0), (92, .getfield 7, 3, 0, 10, 0, 122), (95, .iload_n 1, 1, 0, 0, 0, 0), (96, .iaload, 1, 0, 0, 0, 0), (97, .bipush 93, 2, 0, 0, 0, 0), (99, .if_icmp .ne 85, 3, 0, 184, 0, 0), (102, .iconst 4, 1, 0, 0, 0, 0), (103, .aload_n 0, 1, 0, 0, 0, 0), (104, .getfield 104, 3, 1, 10, 4, 124), (107, .imul, 1, 0, 0, 0, 0), (108, .aload_n 0, 1, 0, 0, 0, 0), (109, .getfield 22, 3, 0, 10, 7, 127), (112, .aload_n 0, 1, 0, 0, 0, 0), (113, .getfield 104, 3, 1, 10, 4, 124), (116, .iaload, 1, 0, 0, 0, 0), (117, .iadd, 1, 0, 0, 0, 0), (118, .istore_n 2, 1, 0, 0, 0, 0), (119, .aload_n 0, 1, 0, 0, 0, 0), (120, .getfield 28, 3, 0, 10, 9, 129), (123, .iload_n 2, 1, 0, 0, 0, 0), (124, .iconst 1, 1, 0, 0, 0, 0), (125, .isub, 1, 0, 0, 0, 0), (126, .iload_n 1, 1, 0, 0, 0, 0), (127, .iastore, 1, 0, 0, 0, 0), (128, .aload_n 0, 1, 0, 0, 0, 0), (129, .getfield 7, 3, 0, 10, 0, 122), (132, .iload_n 1, 1, 0, 0, 0, 0), (133, .iaload, 1, 0, 0, 0, 0), (134, .bipush 47, 2, 0, 0, 0, 0), (136, .if_icmp .ne 28, 3, 0, 164, 0, 0), (139, .aload_n 0, 1, 0, 0, 0, 0), (140, .getfield 25, 3, 0, 10, 8, 128), (143, .iload_n 2, 1, 0, 0, 0, 0), (144, .iload_n 1, 1, 0, 0, 0, 0), (145, .iconst 1, 1, 0, 0, 0, 0), (146, .iadd, 1, 0, 0, 0, 0), (147, .iastore, 1, 0, 0, 0, 0), (148, .aload_n 0, 1, 0, 0, 0, 0), (149, .getfield 22, 3, 0, 10, 7, 127), (152, .aload_n 0, 1, 0, 0, 0, 0), (153, .getfield 104, 3, 1, 10, 4, 124), (156, .dup2, 1, 0, 0, 0, 0), (157, .iaload, 1, 0, 0, 0, 0), (158, .iconst 1, 1, 0, 0, 0, 0), (159, .iadd, 1, 0, 0, 0, 0), (160, .iastore, 1, 0, 0, 0, 0), (161, .goto 23, 3, 0, 184, 0, 0), (164, .aload_n 0, 1, 0, 0, 0, 0), (165, .getfield 19, 3, 0, 10, 6, 130), (168, .aload_n 0, 1, 0, 0, 0, 0), (169, .getfield 104, 3, 1, 10, 4, 124), (172, .iload_n 1, 1, 0, 0, 0, 0), (173, .iastore, 1, 0, 0, 0, 0), (174, .aload_n 0, 1, 0, 0, 0, 0), (175, .dup, 1, 0, 0, 0, 0), (176, .getfield 104, 3, 1, 10, 4, 124), (179, .iconst 1, 1, 0, 0, 0, 0), (180, .iadd, 1, 0, 0, 0, 0), (181, .putfield 104, 3, 1, 10, 4, 124), (184, .iinc 1 1, 3, 0, 0, 0, 0), (187, .goto (-172), 3, 0, 15, 0, 0), (190, .return_, 1, 0, 0, 0, 0)]
def zm113 : zMI := (⟨"CommaCopiesModel", "lays", "()V"⟩, prog_12_method_6_code, 3, (Option.none : Option Jvm.ClassFile.FieldType), false, 10, (1032, 1031, 60, 96), zc113)
/-- CommaCopiesModel.letter()I -/
def zc114 : List zEnt := [(0, .aload_n 0, 1, 0, 0, 0, 0), (1, .invokevirtual 107, 3, 0, 112, 1, 98), (4, .istore_n 1, 1, 0, 0, 0, 0), (5, .iload_n 1, 1, 0, 0, 0, 0), (6, .ifCond .lt 13, 3, 0, 19, 0, 0), (9, .aload_n 0, 1, 0, 0, 0, 0), (10, .iconst 0, 1, 0, 0, 0, 0), (11, .putfield 98, 3, 1, 10, 1, 121), (14, .bipush (-20), 2, 0, 0, 0, 0), (16, .iload_n 1, 1, 0, 0, 0, 0), (17, .isub, 1, 0, 0, 0, 0), (18, .ireturn, 1, 0, 0, 0, 0), (19, .aload_n 0, 1, 0, 0, 0, 0), (20, .invokevirtual 111, 3, 0, 113, 1, 99), (23, .aload_n 0, 1, 0, 0, 0, 0), (24, .iconst 0, 1, 0, 0, 0, 0), (25, .putfield 98, 3, 1, 10, 1, 121), (28, .iconst 0, 1, 0, 0, 0, 0), (29, .istore_n 2, 1, 0, 0, 0, 0), (30, .iload_n 2, 1, 0, 0, 0, 0), (31, .bipush 24, 2, 0, 0, 0, 0), (33, .if_icmp .ge 16, 3, 0, 49, 0, 0), (36, .aload_n 0, 1, 0, 0, 0, 0), (37, .getfield 31, 3, 0, 10, 10, 131), (40, .iload_n 2, 1, 0, 0, 0, 0), (41, .iconst 0, 1, 0, 0, 0, 0), (42, .iastore, 1, 0, 0, 0, 0), (43, .iinc 2 1, 3, 0, 0, 0, 0), (46, .goto (-16), 3, 0, 30, 0, 0), (49, .iconst 0, 1, 0, 0, 0, 0), (50, .istore_n 2, 1, 0, 0, 0, 0), (51, .iload_n 2, 1, 0, 0, 0, 0), (52, .bipush 6, 2, 0, 0, 0, 0), (54, .if_icmp .ge 23, 3, 0, 77, 0, 0), (57, .aload_n 0, 1, 0, 0, 0, 0), (58, .getfield 44, 3, 0, 10, 16, 132), (61, .iload_n 2, 1, 0, 0, 0, 0), (62, .iconst 5, 1, 0, 0, 0, 0), (63, .iastore, 1, 0, 0, 0, 0), (64, .aload_n 0, 1, 0, 0, 0, 0), (65, .getfield 34, 3, 0, 10, 11, 133), (68, .iload_n 2, 1, 0, 0, 0, 0), (69, .iconst (-1), 1, 0, 0, 0, 0), (70, .iastore, 1, 0, 0, 0, 0), (71, .iinc 2 1, 3, 0, 0, 0, 0), (74, .goto (-23), 3, 0, 51, 0, 0), (77, .aload_n 0, 1, 0, 0, 0, 0), (78, .iconst 0, 1, 0, 0, 0, 0), (79, .putfield 114, 3, 1, 10, 12, 134), (82, .aload_n 0, 1, 0, 0, 0, 0), (83, .iconst 0, 1, 0, 0, 0, 0), (84, .putfield 117, 3, 1, 10, 17, 135), (87, .aload_n 0, 1, 0, 0, 0, 0), (88, .getfield 104, 3, 1, 10, 4, 124), (91, .ireturn, 1, 0, 0, 0, 0)]
def zm114 : zMI := (⟨"CommaCopiesModel", "letter", "()I"⟩, prog_12_method_7_code, 3, (Option.some Jvm.ClassFile.FieldType.int), false, 10, (1024, 1022, 1023, 96), zc114)
/-- CommaCopiesModel.isPlace(I)Z -/
def zc115 : List zEnt := [(0, .iload_n 1, 1, 0, 0, 0, 0), (1, .i2l, 1, 0, 0, 0, 0), (2, .lconst 0, 1, 0, 0, 0, 0), (3, .aload_n 0, 1, 0, 0, 0, 0), (4, .getfield 104, 3, 1, 10, 4, 124), (7, .iconst 1, 1, 0, 0, 0, 0), (8, .isub, 1, 0, 0, 0, 0), (9, .i2l, 1, 0, 0, 0, 0), (10, .invokestatic 88, 3, 0, 110, 3, 97), (13, .ireturn, 1, 0, 0, 0, 0)]
def zm115 : zMI := (⟨"CommaCopiesModel", "isPlace", "(I)Z"⟩, prog_12_method_8_code, 2, (Option.some Jvm.ClassFile.FieldType.boolean), false, 10, (1040, 1039, 61, 96), zc115)
/-- CommaCopiesModel.isChoice(II)Z -/
def zc116 : List zEnt := [(0, .aload_n 0, 1, 0, 0, 0, 0), (1, .iload_n 1, 1, 0, 0, 0, 0), (2, .invokevirtual 120, 3, 0, 115, 2, 100), (5, .ifCond .eq 25, 3, 0, 30, 0, 0), (8, .iload_n 2, 1, 0, 0, 0, 0), (9, .i2l, 1, 0, 0, 0, 0), (10, .lconst 0, 1, 0, 0, 0, 0), (11, .aload_n 0, 1, 0, 0, 0, 0), (12, .getfield 22, 3, 0, 10, 7, 127), (15, .iload_n 1, 1, 0, 0, 0, 0), (16, .iaload, 1, 0, 0, 0, 0), (17, .iconst 1, 1, 0, 0, 0, 0), (18, .isub, 1, 0, 0, 0, 0), (19, .i2l, 1, 0, 0, 0, 0), (20, .invokestatic 88, 3, 0, 110, 3, 97), (23, .ifCond .eq 7, 3, 0, 30, 0, 0), (26, .iconst 1, 1, 0, 0, 0, 0), (27, .goto 4, 3, 0, 31, 0, 0), (30, .iconst 0, 1, 0, 0, 0, 0), (31, .ireturn, 1, 0, 0, 0, 0)]
def zm116 : zMI := (⟨"CommaCopiesModel", "isChoice", "(II)Z"⟩, prog_12_method_9_code, 3, (Option.some Jvm.ClassFile.FieldType.boolean), false, 10, (1048, 1047, 62, 96), zc116)
/-- CommaCopiesModel.choices(I)I -/
def zc117 : List zEnt := [(0, .aload_n 0, 1, 0, 0, 0, 0), (1, .iload_n 1, 1, 0, 0, 0, 0), (2, .invokevirtual 120, 3, 0, 115, 2, 100), (5, .ifCond .eq 12, 3, 0, 17, 0, 0), (8, .aload_n 0, 1, 0, 0, 0, 0), (9, .getfield 22, 3, 0, 10, 7, 127), (12, .iload_n 1, 1, 0, 0, 0, 0), (13, .iaload, 1, 0, 0, 0, 0), (14, .goto 4, 3, 0, 18, 0, 0), (17, .iconst (-1), 1, 0, 0, 0, 0), (18, .ireturn, 1, 0, 0, 0, 0)]
def zm117 : zMI := (⟨"CommaCopiesModel", "choices", "(I)I"⟩, prog_12_method_10_code, 2, (Option.some Jvm.ClassFile.FieldType.int), false, 10, (1036, 1034, 1035, 96), zc117)
/-- CommaCopiesModel.cost(III)I -/
def zc118 : List zEnt := [(0, .aload_n 0, 1, 0, 0, 0, 0), (1, .iload_n 1, 1, 0, 0, 0, 0), (2, .iload_n 2, 1, 0, 0, 0, 0), (3, .invokevirtual 124, 3, 0, 116, 3, 101), (6, .ifCond .eq 15, 3, 0, 21, 0, 0), (9, .iload_n 3, 1, 0, 0, 0, 0), (10, .i2l, 1, 0, 0, 0, 0), (11, .lconst 0, 1, 0, 0, 0, 0), (12, .ldc2_w 128, 3, 9, 0, 0, 1049), (15, .invokestatic 88, 3, 0, 110, 3, 97), (18, .ifCond .ne 5, 3, 0, 23, 0, 0), (21, .iconst (-1), 1, 0, 0, 0, 0), (22, .ireturn, 1, 0, 0, 0, 0), (23, .aload_n 0, 1, 0, 0, 0, 0), (24, .getfield 31, 3, 0, 10, 10, 131), (27, .iconst 4, 1, 0, 0, 0, 0), (28, .iload_n 1, 1, 0, 0, 0, 0), (29, .imul, 1, 0, 0, 0, 0), (30, .iload_n 2, 1, 0, 0, 0, 0), (31, .iadd, 1, 0, 0, 0, 0), (32, .iaload, 1, 0, 0, 0, 0), (33, .istore 4, 2, 0, 0, 0, 0), (35, .aload_n 0, 1, 0, 0, 0, 0), (36, .getfield 31, 3, 0, 10, 10, 131), (39, .iconst 4, 1, 0, 0, 0, 0), (40, .iload_n 1, 1, 0, 0, 0, 0), (41, .imul, 1, 0, 0, 0, 0), (42, .iload_n 2, 1, 0, 0, 0, 0), (43, .iadd, 1, 0, 0, 0, 0), (44, .iload_n 3, 1, 0, 0, 0, 0), (45, .iastore, 1, 0, 0, 0, 0), (46, .iload 4, 2, 0, 0, 0, 0), (48, .ireturn, 1, 0, 0, 0, 0)]
def zm118 : zMI := (⟨"CommaCopiesModel", "cost", "(III)I"⟩, prog_12_method_11_code, 5, (Option.some Jvm.ClassFile.FieldType.int), false, 10, (1044, 1042, 1043, 96), zc118)
/-- CommaCopiesModel.mended(II)I -/
def zc119 : List zEnt := [(0, .aload_n 0, 1, 0, 0, 0, 0), (1, .iload_n 1, 1, 0, 0, 0, 0), (2, .invokevirtual 120, 3, 0, 115, 2, 100), (5, .ifCond .eq 17, 3, 0, 22, 0, 0), (8, .iload_n 2, 1, 0, 0, 0, 0), (9, .iconst (-1), 1, 0, 0, 0, 0), (10, .if_icmp .eq 15, 3, 0, 25, 0, 0), (13, .aload_n 0, 1, 0, 0, 0, 0), (14, .iload_n 1, 1, 0, 0, 0, 0), (15, .iload_n 2, 1, 0, 0, 0, 0), (16, .invokevirtual 124, 3, 0, 116, 3, 101), (19, .ifCond .ne 6, 3, 0, 25, 0, 0), (22, .bipush (-101), 2, 0, 0, 0, 0), (24, .ireturn, 1, 0, 0, 0, 0), (25, .aload_n 0, 1, 0, 0, 0, 0), (26, .getfield 34, 3, 0, 10, 11, 133), (29, .iload_n 1, 1, 0, 0, 0, 0), (30, .iaload, 1, 0, 0, 0, 0), (31, .istore_n 3, 1, 0, 0, 0, 0), (32, .aload_n 0, 1, 0, 0, 0, 0), (33, .getfield 34, 3, 0, 10, 11, 133), (36, .iload_n 1, 1, 0, 0, 0, 0), (37, .iload_n 2, 1, 0, 0, 0, 0), (38, .iastore, 1, 0, 0, 0, 0), (39, .iload_n 3, 1, 0, 0, 0, 0), (40, .ireturn, 1, 0, 0, 0, 0)]
def zm119 : zMI := (⟨"CommaCopiesModel", "mended", "(II)I"⟩, prog_12_method_12_code, 4, (Option.some Jvm.ClassFile.FieldType.int), false, 10, (1053, 1051, 1052, 96), zc119)
/-- CommaCopiesModel.copyOf(III)I -/
def zc120 : List zEnt := [(0, .iload_n 1, 1, 0, 0, 0, 0), (1, .invokestatic 130, 3, 0, 172, 1, 102), (4, .ifCond .eq 10, 3, 0, 14, 0, 0), (7, .iload_n 2, 1, 0, 0, 0, 0), (8, .invokestatic 133, 3, 0, 173, 1, 103), (11, .ifCond .ne 5, 3, 0, 16, 0, 0), (14, .iconst (-1), 1, 0, 0, 0, 0), (15, .ireturn, 1, 0, 0, 0, 0), (16, .aload_n 0, 1, 0, 0, 0, 0), (17, .iload_n 1, 1, 0, 0, 0, 0), (18, .iload_n 2, 1, 0, 0, 0, 0), (19, .iload_n 3, 1, 0, 0, 0, 0), (20, .aload_n 0, 1, 0, 0, 0, 0), (21, .getfield 104, 3, 1, 10, 4, 124), (24, .invokevirtual 136, 3, 0, 174, 5, 104), (27, .istore 4, 2, 0, 0, 0, 0), (29, .iload 4, 2, 0, 0, 0, 0), (31, .ifCond .ge 6, 3, 0, 37, 0, 0), (34, .iload 4, 2, 0, 0, 0, 0), (36, .ireturn, 1, 0, 0, 0, 0), (37, .aload_n 0, 1, 0, 0, 0, 0), (38, .getfield 101, 3, 1, 10, 2, 123), (41, .ifCond .le 7, 3, 0, 48, 0, 0), (44, .iconst 1, 1, 0, 0, 0, 0), (45, .goto 4, 3, 0, 49, 0, 0), (48, .iconst 0, 1, 0, 0, 0, 0), (49, .istore 5, 2, 0, 0, 0, 0), (51, .iconst 0, 1, 0, 0, 0, 0), (52, .istore 6, 2, 0, 0, 0, 0), (54, .iload 6, 2, 0, 0, 0, 0), (56, .aload_n 0, 1, 0, 0, 0, 0), (57, .getfield 104, 3, 1, 10, 4, 124), (60, .if_icmp .ge 44, 3, 0, 104, 0, 0), (63, .iload 5, 2, 0, 0, 0, 0), (65, .ifCond .eq 30, 3, 0, 95, 0, 0), (68, .aload_n 0, 1, 0, 0, 0, 0), (69, .iload 6, 2, 0, 0, 0, 0), (71, .aload_n 0, 1, 0, 0, 0, 0), (72, .getfield 80, 3, 0, 10, 34, 136), (75, .bipush 12, 2, 0, 0, 0, 0), (77, .iload_n 1, 1, 0, 0, 0, 0), (78, .imul, 1, 0, 0, 0, 0), (79, .iload_n 3, 1, 0, 0, 0, 0), (80, .iadd, 1, 0, 0, 0, 0), (81, .iload 6, 2, 0, 0, 0, 0), (83, .iadd, 1, 0, 0, 0, 0), (84, .iaload, 1, 0, 0, 0, 0), (85, .invokevirtual 124, 3, 0, 116, 3, 101), (88, .ifCond .eq 7, 3, 0, 95, 0, 0), (91, .iconst 1, 1, 0, 0, 0, 0), (92, .goto 4, 3, 0, 96, 0, 0), (95, .iconst 0, 1, 0, 0, 0, 0), (96, .istore 5, 2, 0, 0, 0, 0), (98, .iinc 6 1, 3, 0, 0, 0, 0), (101, .goto (-47), 3, 0, 54, 0, 0), (104, .iload 5, 2, 0, 0, 0, 0), (106, .ifCond .ne 6, 3, 0, 112, 0, 0), (109, .bipush (-2), 2, 0, 0, 0, 0), (111, .ireturn, 1, 0, 0, 0, 0), (112, .aload_n 0, 1, 0, 0, 0, 0), (113, .getfield 114, 3, 1, 10, 12, 134), (116, .bipush 8, 2, 0, 0, 0, 0), (118, .if_icmp .ne 6, 3, 0, 124, 0, 0), (121, .bipush (-3), 2, 0, 0, 0, 0), (123, .ireturn, 1, 0, 0, 0, 0), (124, .iconst 0, 1, 0, 0, 0, 0), (125, .istore 6, 2, 0, 0, 0, 0), (127, .iload 6, 2, 0, 0, 0, 0), (129, .aload_n 0, 1, 0, 0, 0, 0), (130, .getfield 104, 3, 1, 10, 4, 124), (133, .if_icmp .ge 38, 3, 0, 171, 0, 0), (136, .aload_n 0, 1, 0, 0, 0, 0), (137, .getfield 37, 3, 0, 10, 13, 137), (140, .bipush 6, 2, 0, 0, 0, 0), (142, .aload_n 0, 1, 0, 0, 0, 0), (143, .getfield 114, 3, 1, 10, 12, 134), (146, .imul, 1, 0, 0, 0, 0), (147, .iload 6, 2, 0, 0, 0, 0), (149, .iadd, 1, 0, 0, 0, 0), (150, .aload_n 0, 1, 0, 0, 0, 0), (151, .getfield 80, 3, 0, 10, 34, 136), (154, .bipush 12, 2, 0, 0, 0, 0), (156, .iload_n 1, 1, 0, 0, 0, 0), (157, .imul, 1, 0, 0, 0, 0), (158, .iload_n 3, 1, 0, 0, 0, 0), (159, .iadd, 1, 0, 0, 0, 0), (160, .iload 6, 2, 0, 0, 0, 0), (162, .iadd, 1, 0, 0, 0, 0), (163, .iaload, 1, 0, 0, 0, 0), (164, .iastore, 1, 0, 0, 0, 0), (165, .iinc 6 1, 3, 0, 0, 0, 0), (168, .goto (-41), 3, 0, 127, 0, 0), (171, .aload_n 0, 1, 0, 0, 0, 0), (172, .dup, 1, 0, 0, 0, 0), (173, .getfield 114, 3, 1, 10, 12, 134), (176, .iconst 1, 1, 0, 0, 0, 0), (177, .iadd, 1, 0, 0, 0, 0), (178, .putfield 114, 3, 1, 10, 12, 134), (181, .aload_n 0, 1, 0, 0, 0, 0), (182, .getfield 114, 3, 1, 10, 12, 134), (185, .iconst 1, 1, 0, 0, 0, 0), (186, .isub, 1, 0, 0, 0, 0), (187, .ireturn, 1, 0, 0, 0, 0)]
def zm120 : zMI := (⟨"CommaCopiesModel", "copyOf", "(III)I"⟩, prog_12_method_13_code, 7, (Option.some Jvm.ClassFile.FieldType.int), false, 10, (1057, 1055, 1056, 96), zc120)
/-- CommaCopiesModel.isCopy(I)Z -/
def zc121 : List zEnt := [(0, .iload_n 1, 1, 0, 0, 0, 0), (1, .i2l, 1, 0, 0, 0, 0), (2, .lconst 0, 1, 0, 0, 0, 0), (3, .aload_n 0, 1, 0, 0, 0, 0), (4, .getfield 114, 3, 1, 10, 12, 134), (7, .iconst 1, 1, 0, 0, 0, 0), (8, .isub, 1, 0, 0, 0, 0), (9, .i2l, 1, 0, 0, 0, 0), (10, .invokestatic 88, 3, 0, 110, 3, 97), (13, .ireturn, 1, 0, 0, 0, 0)]
def zm121 : zMI := (⟨"CommaCopiesModel", "isCopy", "(I)Z"⟩, prog_12_method_14_code, 2, (Option.some Jvm.ClassFile.FieldType.boolean), false, 10, (1077, 1076, 64, 96), zc121)
/-- CommaCopiesModel.choice(II)I -/
def zc122 : List zEnt := [(0, .aload_n 0, 1, 0, 0, 0, 0), (1, .iload_n 1, 1, 0, 0, 0, 0), (2, .invokevirtual 140, 3, 0, 121, 2, 105), (5, .ifCond .eq 25, 3, 0, 30, 0, 0), (8, .aload_n 0, 1, 0, 0, 0, 0), (9, .iload_n 2, 1, 0, 0, 0, 0), (10, .invokevirtual 120, 3, 0, 115, 2, 100), (13, .ifCond .eq 17, 3, 0, 30, 0, 0), (16, .aload_n 0, 1, 0, 0, 0, 0), (17, .getfield 37, 3, 0, 10, 13, 137), (20, .bipush 6, 2, 0, 0, 0, 0), (22, .iload_n 1, 1, 0, 0, 0, 0), (23, .imul, 1, 0, 0, 0, 0), (24, .iload_n 2, 1, 0, 0, 0, 0), (25, .iadd, 1, 0, 0, 0, 0), (26, .iaload, 1, 0, 0, 0, 0), (27, .goto 4, 3, 0, 31, 0, 0), (30, .iconst (-1), 1, 0, 0, 0, 0), (31, .ireturn, 1, 0, 0, 0, 0)]
def zm122 : zMI := (⟨"CommaCopiesModel", "choice", "(II)I"⟩, prog_12_method_15_code, 3, (Option.some Jvm.ClassFile.FieldType.int), false, 10, (1073, 1071, 1072, 96), zc122)
/-- CommaCopiesModel.burn(I)I -/
def zc123 : List zEnt := [(0, .aload_n 0, 1, 0, 0, 0, 0), (1, .iload_n 1, 1, 0, 0, 0, 0), (2, .invokevirtual 140, 3, 0, 121, 2, 105), (5, .ifCond .ne 5, 3, 0, 10, 0, 0), (8, .iconst (-1), 1, 0, 0, 0, 0), (9, .ireturn, 1, 0, 0, 0, 0), (10, .aload_n 0, 1, 0, 0, 0, 0), (11, .dup, 1, 0, 0, 0, 0), (12, .getfield 114, 3, 1, 10, 12, 134), (15, .iconst 1, 1, 0, 0, 0, 0), (16, .isub, 1, 0, 0, 0, 0), (17, .putfield 114, 3, 1, 10, 12, 134), (20, .bipush 6, 2, 0, 0, 0, 0), (22, .iload_n 1, 1, 0, 0, 0, 0), (23, .imul, 1, 0, 0, 0, 0), (24, .istore_n 2, 1, 0, 0, 0, 0), (25, .iload_n 2, 1, 0, 0, 0, 0), (26, .bipush 6, 2, 0, 0, 0, 0), (28, .aload_n 0, 1, 0, 0, 0, 0), (29, .getfield 114, 3, 1, 10, 12, 134), (32, .imul, 1, 0, 0, 0, 0), (33, .if_icmp .ge 24, 3, 0, 57, 0, 0), (36, .aload_n 0, 1, 0, 0, 0, 0), (37, .getfield 37, 3, 0, 10, 13, 137), (40, .iload_n 2, 1, 0, 0, 0, 0), (41, .aload_n 0, 1, 0, 0, 0, 0), (42, .getfield 37, 3, 0, 10, 13, 137), (45, .iload_n 2, 1, 0, 0, 0, 0), (46, .bipush 6, 2, 0, 0, 0, 0), (48, .iadd, 1, 0, 0, 0, 0), (49, .iaload, 1, 0, 0, 0, 0), (50, .iastore, 1, 0, 0, 0, 0), (51, .iinc 2 1, 3, 0, 0, 0, 0), (54, .goto (-29), 3, 0, 25, 0, 0), (57, .aload_n 0, 1, 0, 0, 0, 0), (58, .getfield 114, 3, 1, 10, 12, 134), (61, .ireturn, 1, 0, 0, 0, 0)]
def zm123 : zMI := (⟨"CommaCopiesModel", "burn", "(I)I"⟩, prog_12_method_16_code, 3, (Option.some Jvm.ClassFile.FieldType.int), false, 10, (1081, 1079, 1080, 96), zc123)
/-- CommaCopiesModel.readsAs([II)I -/
def zc124 : List zEnt := [(0, .iconst 0, 1, 0, 0, 0, 0), (1, .istore_n 3, 1, 0, 0, 0, 0), (2, .iconst 0, 1, 0, 0, 0, 0), (3, .istore 4, 2, 0, 0, 0, 0), (5, .iconst 0, 1, 0, 0, 0, 0), (6, .istore 5, 2, 0, 0, 0, 0), (8, .iload 5, 2, 0, 0, 0, 0), (10, .aload_n 0, 1, 0, 0, 0, 0), (11, .getfield 101, 3, 1, 10, 2, 123), (14, .if_icmp .ge 131, 3, 0, 145, 0, 0), (17, .aload_n 0, 1, 0, 0, 0, 0), (18, .getfield 13, 3, 0, 10, 3, 125), (21, .iload 5, 2, 0, 0, 0, 0), (23, .iaload, 1, 0, 0, 0, 0), (24, .bipush 91, 2, 0, 0, 0, 0), (26, .if_icmp .ne 97, 3, 0, 123, 0, 0), (29, .aload_n 1, 1, 0, 0, 0, 0), (30, .iload_n 2, 1, 0, 0, 0, 0), (31, .iload 4, 2, 0, 0, 0, 0), (33, .iadd, 1, 0, 0, 0, 0), (34, .iaload, 1, 0, 0, 0, 0), (35, .istore 6, 2, 0, 0, 0, 0), (37, .iload 6, 2, 0, 0, 0, 0), (39, .iconst 4, 1, 0, 0, 0, 0), (40, .if_icmp .ne 7, 3, 0, 47, 0, 0), (43, .iconst 0, 1, 0, 0, 0, 0), (44, .goto 15, 3, 0, 59, 0, 0), (47, .aload_n 0, 1, 0, 0, 0, 0), (48, .getfield 25, 3, 0, 10, 8, 128), (51, .iconst 4, 1, 0, 0, 0, 0), (52, .iload 4, 2, 0, 0, 0, 0), (54, .imul, 1, 0, 0, 0, 0), (55, .iload 6, 2, 0, 0, 0, 0), (57, .iadd, 1, 0, 0, 0, 0), (58, .iaload, 1, 0, 0, 0, 0), (59, .istore 7, 2, 0, 0, 0, 0), (61, .iload 6, 2, 0, 0, 0, 0), (63, .iconst 4, 1, 0, 0, 0, 0), (64, .if_icmp .ge 42, 3, 0, 106, 0, 0), (67, .iload 7, 2, 0, 0, 0, 0), (69, .aload_n 0, 1, 0, 0, 0, 0), (70, .getfield 28, 3, 0, 10, 9, 129), (73, .iconst 4, 1, 0, 0, 0, 0), (74, .iload 4, 2, 0, 0, 0, 0), (76, .imul, 1, 0, 0, 0, 0), (77, .iload 6, 2, 0, 0, 0, 0), (79, .iadd, 1, 0, 0, 0, 0), (80, .iaload, 1, 0, 0, 0, 0), (81, .if_icmp .ge 25, 3, 0, 106, 0, 0), (84, .aload_n 0, 1, 0, 0, 0, 0), (85, .getfield 50, 3, 0, 10, 19, 138), (88, .iload_n 3, 1, 0, 0, 0, 0), (89, .aload_n 0, 1, 0, 0, 0, 0), (90, .getfield 13, 3, 0, 10, 3, 125), (93, .iload 7, 2, 0, 0, 0, 0), (95, .iaload, 1, 0, 0, 0, 0), (96, .iastore, 1, 0, 0, 0, 0), (97, .iinc 3 1, 3, 0, 0, 0, 0), (100, .iinc 7 1, 3, 0, 0, 0, 0), (103, .goto (-42), 3, 0, 61, 0, 0), (106, .aload_n 0, 1, 0, 0, 0, 0), (107, .getfield 19, 3, 0, 10, 6, 130), (110, .iload 4, 2, 0, 0, 0, 0), (112, .iaload, 1, 0, 0, 0, 0), (113, .iconst 1, 1, 0, 0, 0, 0), (114, .iadd, 1, 0, 0, 0, 0), (115, .istore 5, 2, 0, 0, 0, 0), (117, .iinc 4 1, 3, 0, 0, 0, 0), (120, .goto (-112), 3, 0, 8, 0, 0), (123, .aload_n 0, 1, 0, 0, 0, 0), (124, .getfield 50, 3, 0, 10, 19, 138), (127, .iload_n 3, 1, 0, 0, 0, 0), (128, .aload_n 0, 1, 0, 0, 0, 0), (129, .getfield 13, 3, 0, 10, 3, 125), (132, .iload 5, 2, 0, 0, 0, 0), (134, .iaload, 1, 0, 0, 0, 0), (135, .iastore, 1, 0, 0, 0, 0), (136, .iinc 3 1, 3, 0, 0, 0, 0), (139, .iinc 5 1, 3, 0, 0, 0, 0), (142, .goto (-134), 3, 0, 8, 0, 0), (145, .iload_n 3, 1, 0, 0, 0, 0), (146, .ireturn, 1, 0, 0, 0, 0)]
def zm124 : zMI := (⟨"CommaCopiesModel", "readsAs", "([II)I"⟩, prog_12_method_17_code, 8, (Option.some Jvm.ClassFile.FieldType.int), false, 10, (1089, 1088, 65, 96), zc124)
/-- CommaCopiesModel.reads(II)I -/
def zc125 : List zEnt := [(0, .aload_n 0, 1, 0, 0, 0, 0), (1, .iload_n 1, 1, 0, 0, 0, 0), (2, .invokevirtual 140, 3, 0, 121, 2, 105), (5, .ifCond .eq 7, 3, 0, 12, 0, 0), (8, .iload_n 2, 1, 0, 0, 0, 0), (9, .ifCond .ge 5, 3, 0, 14, 0, 0), (12, .iconst (-1), 1, 0, 0, 0, 0), (13, .ireturn, 1, 0, 0, 0, 0), (14, .aload_n 0, 1, 0, 0, 0, 0), (15, .aload_n 0, 1, 0, 0, 0, 0), (16, .getfield 37, 3, 0, 10, 13, 137), (19, .bipush 6, 2, 0, 0, 0, 0), (21, .iload_n 1, 1, 0, 0, 0, 0), (22, .imul, 1, 0, 0, 0, 0), (23, .invokevirtual 143, 3, 0, 124, 3, 106), (26, .istore_n 3, 1, 0, 0, 0, 0), (27, .iload_n 2, 1, 0, 0, 0, 0), (28, .iload_n 3, 1, 0, 0, 0, 0), (29, .if_icmp .ge 12, 3, 0, 41, 0, 0), (32, .aload_n 0, 1, 0, 0, 0, 0), (33, .getfield 50, 3, 0, 10, 19, 138), (36, .iload_n 2, 1, 0, 0, 0, 0), (37, .iaload, 1, 0, 0, 0, 0), (38, .goto 5, 3, 0, 43, 0, 0), (41, .bipush (-4), 2, 0, 0, 0, 0), (43, .ireturn, 1, 0, 0, 0, 0)]
def zm125 : zMI := (⟨"CommaCopiesModel", "reads", "(II)I"⟩, prog_12_method_18_code, 4, (Option.some Jvm.ClassFile.FieldType.int), false, 10, (1085, 1083, 1084, 96), zc125)
/-- CommaCopiesModel.costAll(I)I -/
def zc126 : List zEnt := [(0, .iconst 0, 1, 0, 0, 0, 0), (1, .istore_n 2, 1, 0, 0, 0, 0), (2, .iconst 0, 1, 0, 0, 0, 0), (3, .istore_n 3, 1, 0, 0, 0, 0), (4, .iload_n 3, 1, 0, 0, 0, 0), (5, .aload_n 0, 1, 0, 0, 0, 0), (6, .getfield 104, 3, 1, 10, 4, 124), (9, .if_icmp .ge 32, 3, 0, 41, 0, 0), (12, .iload_n 2, 1, 0, 0, 0, 0), (13, .aload_n 0, 1, 0, 0, 0, 0), (14, .getfield 31, 3, 0, 10, 10, 131), (17, .iconst 4, 1, 0, 0, 0, 0), (18, .iload_n 3, 1, 0, 0, 0, 0), (19, .imul, 1, 0, 0, 0, 0), (20, .aload_n 0, 1, 0, 0, 0, 0), (21, .getfield 37, 3, 0, 10, 13, 137), (24, .bipush 6, 2, 0, 0, 0, 0), (26, .iload_n 1, 1, 0, 0, 0, 0), (27, .imul, 1, 0, 0, 0, 0), (28, .iload_n 3, 1, 0, 0, 0, 0), (29, .iadd, 1, 0, 0, 0, 0), (30, .iaload, 1, 0, 0, 0, 0), (31, .iadd, 1, 0, 0, 0, 0), (32, .iaload, 1, 0, 0, 0, 0), (33, .iadd, 1, 0, 0, 0, 0), (34, .istore_n 2, 1, 0, 0, 0, 0), (35, .iinc 3 1, 3, 0, 0, 0, 0), (38, .goto (-34), 3, 0, 4, 0, 0), (41, .iload_n 2, 1, 0, 0, 0, 0), (42, .ireturn, 1, 0, 0, 0, 0)]
def zm126 : zMI := (⟨"CommaCopiesModel", "costAll", "(I)I"⟩, prog_12_method_19_code, 4, (Option.some Jvm.ClassFile.FieldType.int), false, 10, (1097, 1096, 66, 96), zc126)
/-- CommaCopiesModel.costOf(I)I -/
def zc127 : List zEnt := [(0, .aload_n 0, 1, 0, 0, 0, 0), (1, .iload_n 1, 1, 0, 0, 0, 0), (2, .invokevirtual 140, 3, 0, 121, 2, 105), (5, .ifCond .eq 11, 3, 0, 16, 0, 0), (8, .aload_n 0, 1, 0, 0, 0, 0), (9, .iload_n 1, 1, 0, 0, 0, 0), (10, .invokevirtual 147, 3, 0, 126, 2, 107), (13, .goto 4, 3, 0, 17, 0, 0), (16, .iconst (-1), 1, 0, 0, 0, 0), (17, .ireturn, 1, 0, 0, 0, 0)]
def zm127 : zMI := (⟨"CommaCopiesModel", "costOf", "(I)I"⟩, prog_12_method_20_code, 2, (Option.some Jvm.ClassFile.FieldType.int), false, 10, (1093, 1091, 1092, 96), zc127)
/-- CommaCopiesModel.set(II)I -/
def zc128 : List zEnt := [(0, .iload_n 1, 1, 0, 0, 0, 0), (1, .i2l, 1, 0, 0, 0, 0), (2, .lconst 0, 1, 0, 0, 0, 0), (3, .lconst 1, 1, 0, 0, 0, 0), (4, .invokestatic 88, 3, 0, 110, 3, 97), (7, .ifCond .eq 33, 3, 0, 40, 0, 0), (10, .iload_n 2, 1, 0, 0, 0, 0), (11, .i2l, 1, 0, 0, 0, 0), (12, .iload_n 1, 1, 0, 0, 0, 0), (13, .ifCond .ne 7, 3, 0, 20, 0, 0), (16, .lconst 1, 1, 0, 0, 0, 0), (17, .goto 4, 3, 0, 21, 0, 0), (20, .lconst 0, 1, 0, 0, 0, 0), (21, .iload_n 1, 1, 0, 0, 0, 0), (22, .ifCond .ne 9, 3, 0, 31, 0, 0), (25, .ldc2_w 151, 3, 3, 0, 0, 1061), (28, .goto 6, 3, 0, 34, 0, 0), (31, .ldc2_w 153, 3, 2, 0, 0, 1065), (34, .invokestatic 88, 3, 0, 110, 3, 97), (37, .ifCond .ne 5, 3, 0, 42, 0, 0), (40, .iconst (-1), 1, 0, 0, 0, 0), (41, .ireturn, 1, 0, 0, 0, 0), (42, .iload_n 1, 1, 0, 0, 0, 0), (43, .ifCond .ne 10, 3, 0, 53, 0, 0), (46, .aload_n 0, 1, 0, 0, 0, 0), (47, .getfield 40, 3, 1, 10, 14, 139), (50, .goto 7, 3, 0, 57, 0, 0), (53, .aload_n 0, 1, 0, 0, 0, 0), (54, .getfield 155, 3, 1, 10, 15, 140), (57, .istore_n 3, 1, 0, 0, 0, 0), (58, .iload_n 1, 1, 0, 0, 0, 0), (59, .ifCond .ne 11, 3, 0, 70, 0, 0), (62, .aload_n 0, 1, 0, 0, 0, 0), (63, .iload_n 2, 1, 0, 0, 0, 0), (64, .putfield 40, 3, 1, 10, 14, 139), (67, .goto 8, 3, 0, 75, 0, 0), (70, .aload_n 0, 1, 0, 0, 0, 0), (71, .iload_n 2, 1, 0, 0, 0, 0), (72, .putfield 155, 3, 1, 10, 15, 140), (75, .iload_n 3, 1, 0, 0, 0, 0), (76, .ireturn, 1, 0, 0, 0, 0)]
def zm128 : zMI := (⟨"CommaCopiesModel", "set", "(II)I"⟩, prog_12_method_21_code, 4, (Option.some Jvm.ClassFile.FieldType.int), false, 10, (1101, 1099, 1100, 96), zc128)
/-- CommaCopiesModel.sizeOf(I)I -/
def zc129 : List zEnt := [(0, .iconst 0, 1, 0, 0, 0, 0), (1, .istore_n 1, 1, 0, 0, 0, 0), (2, .iload_n 0, 1, 0, 0, 0, 0), (3, .istore_n 2, 1, 0, 0, 0, 0), (4, .iload_n 2, 1, 0, 0, 0, 0), (5, .ifCond .eq 15, 3, 0, 20, 0, 0), (8, .iinc 1 1, 3, 0, 0, 0, 0), (11, .iload_n 2, 1, 0, 0, 0, 0), (12, .iload_n 2, 1, 0, 0, 0, 0), (13, .iconst 1, 1, 0, 0, 0, 0), (14, .isub, 1, 0, 0, 0, 0), (15, .iand, 1, 0, 0, 0, 0), (16, .istore_n 2, 1, 0, 0, 0, 0), (17, .goto (-13), 3, 0, 4, 0, 0), (20, .iload_n 1, 1, 0, 0, 0, 0), (21, .ireturn, 1, 0, 0, 0, 0)]
def zm129 : zMI := (⟨"CommaCopiesModel", "sizeOf", "(I)I"⟩, prog_12_method_22_code, 3, (Option.some Jvm.ClassFile.FieldType.int), true, 10, (1116, 1115, 0, 96), zc129)
/-- CommaCopiesModel.can(III)I -/
def zc130 : List zEnt := [(0, .iconst 0, 1, 0, 0, 0, 0), (1, .istore 4, 2, 0, 0, 0, 0), (3, .iconst 0, 1, 0, 0, 0, 0), (4, .istore 5, 2, 0, 0, 0, 0), (6, .iload 5, 2, 0, 0, 0, 0), (8, .aload_n 0, 1, 0, 0, 0, 0), (9, .getfield 114, 3, 1, 10, 12, 134), (12, .if_icmp .ge 42, 3, 0, 54, 0, 0), (15, .iload 4, 2, 0, 0, 0, 0), (17, .iload_n 1, 1, 0, 0, 0, 0), (18, .iload 5, 2, 0, 0, 0, 0), (20, .ishr, 1, 0, 0, 0, 0), (21, .iconst 1, 1, 0, 0, 0, 0), (22, .iand, 1, 0, 0, 0, 0), (23, .iconst 1, 1, 0, 0, 0, 0), (24, .if_icmp .ne 20, 3, 0, 44, 0, 0), (27, .iconst 1, 1, 0, 0, 0, 0), (28, .aload_n 0, 1, 0, 0, 0, 0), (29, .getfield 37, 3, 0, 10, 13, 137), (32, .bipush 6, 2, 0, 0, 0, 0), (34, .iload 5, 2, 0, 0, 0, 0), (36, .imul, 1, 0, 0, 0, 0), (37, .iload_n 2, 1, 0, 0, 0, 0), (38, .iadd, 1, 0, 0, 0, 0), (39, .iaload, 1, 0, 0, 0, 0), (40, .ishl, 1, 0, 0, 0, 0), (41, .goto 4, 3, 0, 45, 0, 0), (44, .iconst 0, 1, 0, 0, 0, 0), (45, .ior, 1, 0, 0, 0, 0), (46, .istore 4, 2, 0, 0, 0, 0), (48, .iinc 5 1, 3, 0, 0, 0, 0), (51, .goto (-45), 3, 0, 6, 0, 0), (54, .iload 4, 2, 0, 0, 0, 0), (56, .invokestatic 158, 3, 0, 129, 1, 108), (59, .iconst 1, 1, 0, 0, 0, 0), (60, .if_icmp .le 7, 3, 0, 67, 0, 0), (63, .iconst 1, 1, 0, 0, 0, 0), (64, .goto 4, 3, 0, 68, 0, 0), (67, .iconst 0, 1, 0, 0, 0, 0), (68, .istore 5, 2, 0, 0, 0, 0), (70, .iload_n 3, 1, 0, 0, 0, 0), (71, .iconst 1, 1, 0, 0, 0, 0), (72, .if_icmp .ne 21, 3, 0, 93, 0, 0), (75, .iload 5, 2, 0, 0, 0, 0), (77, .ifCond .eq 16, 3, 0, 93, 0, 0), (80, .iconst 1, 1, 0, 0, 0, 0), (81, .aload_n 0, 1, 0, 0, 0, 0), (82, .getfield 22, 3, 0, 10, 7, 127), (85, .iload_n 2, 1, 0, 0, 0, 0), (86, .iaload, 1, 0, 0, 0, 0), (87, .ishl, 1, 0, 0, 0, 0), (88, .iconst 1, 1, 0, 0, 0, 0), (89, .isub, 1, 0, 0, 0, 0), (90, .goto 5, 3, 0, 95, 0, 0), (93, .iload 4, 2, 0, 0, 0, 0), (95, .istore 4, 2, 0, 0, 0, 0), (97, .iload 4, 2, 0, 0, 0, 0), (99, .iload_n 3, 1, 0, 0, 0, 0), (100, .iconst 2, 1, 0, 0, 0, 0), (101, .if_icmp .ne 13, 3, 0, 114, 0, 0), (104, .iload 5, 2, 0, 0, 0, 0), (106, .ifCond .eq 8, 3, 0, 114, 0, 0), (109, .bipush 16, 2, 0, 0, 0, 0), (111, .goto 4, 3, 0, 115, 0, 0), (114, .iconst 0, 1, 0, 0, 0, 0), (115, .ior, 1, 0, 0, 0, 0), (116, .istore 4, 2, 0, 0, 0, 0), (118, .aload_n 0, 1, 0, 0, 0, 0), (119, .getfield 34, 3, 0, 10, 11, 133), (122, .iload_n 2, 1, 0, 0, 0, 0), (123, .iaload, 1, 0, 0, 0, 0), (124, .ifCond .ge 8, 3, 0, 132, 0, 0), (127, .iload 4, 2, 0, 0, 0, 0), (129, .goto 14, 3, 0, 143, 0, 0), (132, .iload 4, 2, 0, 0, 0, 0), (134, .iconst 1, 1, 0, 0, 0, 0), (135, .aload_n 0, 1, 0, 0, 0, 0), (136, .getfield 34, 3, 0, 10, 11, 133), (139, .iload_n 2, 1, 0, 0, 0, 0), (140, .iaload, 1, 0, 0, 0, 0), (141, .ishl, 1, 0, 0, 0, 0), (142, .ior, 1, 0, 0, 0, 0), (143, .ireturn, 1, 0, 0, 0, 0)]
def zm130 : zMI := (⟨"CommaCopiesModel", "can", "(III)I"⟩, prog_12_method_23_code, 6, (Option.some Jvm.ClassFile.FieldType.int), false, 10, (1124, 1123, 70, 96), zc130)
/-- CommaCopiesModel.makes(I[III)Z -/
def zc131 : List zEnt := [(0, .iconst 1, 1, 0, 0, 0, 0), (1, .istore 5, 2, 0, 0, 0, 0), (3, .iconst 0, 1, 0, 0, 0, 0), (4, .istore 6, 2, 0, 0, 0, 0), (6, .iload 6, 2, 0, 0, 0, 0), (8, .aload_n 0, 1, 0, 0, 0, 0), (9, .getfield 104, 3, 1, 10, 4, 124), (12, .if_icmp .ge 53, 3, 0, 65, 0, 0), (15, .iload 5, 2, 0, 0, 0, 0), (17, .ifCond .eq 48, 3, 0, 65, 0, 0), (20, .aload_n 2, 1, 0, 0, 0, 0), (21, .iload_n 3, 1, 0, 0, 0, 0), (22, .iload 6, 2, 0, 0, 0, 0), (24, .iadd, 1, 0, 0, 0, 0), (25, .iaload, 1, 0, 0, 0, 0), (26, .iconst 5, 1, 0, 0, 0, 0), (27, .if_icmp .eq 25, 3, 0, 52, 0, 0), (30, .aload_n 0, 1, 0, 0, 0, 0), (31, .iload_n 1, 1, 0, 0, 0, 0), (32, .iload 6, 2, 0, 0, 0, 0), (34, .iload 4, 2, 0, 0, 0, 0), (36, .invokevirtual 161, 3, 0, 130, 4, 109), (39, .aload_n 2, 1, 0, 0, 0, 0), (40, .iload_n 3, 1, 0, 0, 0, 0), (41, .iload 6, 2, 0, 0, 0, 0), (43, .iadd, 1, 0, 0, 0, 0), (44, .iaload, 1, 0, 0, 0, 0), (45, .ishr, 1, 0, 0, 0, 0), (46, .iconst 1, 1, 0, 0, 0, 0), (47, .iand, 1, 0, 0, 0, 0), (48, .iconst 1, 1, 0, 0, 0, 0), (49, .if_icmp .ne 7, 3, 0, 56, 0, 0), (52, .iconst 1, 1, 0, 0, 0, 0), (53, .goto 4, 3, 0, 57, 0, 0), (56, .iconst 0, 1, 0, 0, 0, 0), (57, .istore 5, 2, 0, 0, 0, 0), (59, .iinc 6 1, 3, 0, 0, 0, 0), (62, .goto (-56), 3, 0, 6, 0, 0), (65, .iload 5, 2, 0, 0, 0, 0), (67, .ireturn, 1, 0, 0, 0, 0)]
def zm131 : zMI := (⟨"CommaCopiesModel", "makes", "(I[III)Z"⟩, prog_12_method_24_code, 7, (Option.some Jvm.ClassFile.FieldType.boolean), false, 10, (1120, 1119, 69, 96), zc131)
/-- CommaCopiesModel.laysSets(I)V -/
def zc132 : List zEnt := [(0, .aload_n 0, 1, 0, 0, 0, 0), (1, .iconst 0, 1, 0, 0, 0, 0), (2, .putfield 165, 3, 1, 10, 21, 141), (5, .iconst 1, 1, 0, 0, 0, 0), (6, .istore_n 2, 1, 0, 0, 0, 0), (7, .iload_n 2, 1, 0, 0, 0, 0), (8, .iload_n 1, 1, 0, 0, 0, 0), (9, .if_icmp .gt 55, 3, 0, 64, 0, 0), (12, .iconst 1, 1, 0, 0, 0, 0), (13, .istore_n 3, 1, 0, 0, 0, 0), (14, .iload_n 3, 1, 0, 0, 0, 0), (15, .iconst 1, 1, 0, 0, 0, 0), (16, .aload_n 0, 1, 0, 0, 0, 0), (17, .getfield 114, 3, 1, 10, 12, 134), (20, .ishl, 1, 0, 0, 0, 0), (21, .if_icmp .ge 37, 3, 0, 58, 0, 0), (24, .iload_n 3, 1, 0, 0, 0, 0), (25, .invokestatic 158, 3, 0, 129, 1, 108), (28, .iload_n 2, 1, 0, 0, 0, 0), (29, .if_icmp .ne 23, 3, 0, 52, 0, 0), (32, .aload_n 0, 1, 0, 0, 0, 0), (33, .getfield 53, 3, 0, 10, 20, 142), (36, .aload_n 0, 1, 0, 0, 0, 0), (37, .getfield 165, 3, 1, 10, 21, 141), (40, .iload_n 3, 1, 0, 0, 0, 0), (41, .iastore, 1, 0, 0, 0, 0), (42, .aload_n 0, 1, 0, 0, 0, 0), (43, .dup, 1, 0, 0, 0, 0), (44, .getfield 165, 3, 1, 10, 21, 141), (47, .iconst 1, 1, 0, 0, 0, 0), (48, .iadd, 1, 0, 0, 0, 0), (49, .putfield 165, 3, 1, 10, 21, 141), (52, .iinc 3 1, 3, 0, 0, 0, 0), (55, .goto (-41), 3, 0, 14, 0, 0), (58, .iinc 2 1, 3, 0, 0, 0, 0), (61, .goto (-54), 3, 0, 7, 0, 0), (64, .return_, 1, 0, 0, 0, 0)]
def zm132 : zMI := (⟨"CommaCopiesModel", "laysSets", "(I)V"⟩, prog_12_method_25_code, 4, (Option.none : Option Jvm.ClassFile.FieldType), false, 10, (1113, 1112, 68, 96), zc132)
/-- CommaCopiesModel.madeBy([IIII)I -/
def zc133 : List zEnt := [(0, .aload_n 0, 1, 0, 0, 0, 0), (1, .iload_n 3, 1, 0, 0, 0, 0), (2, .invokevirtual 168, 3, 0, 132, 2, 110), (5, .sipush 255, 3, 0, 0, 0, 0), (8, .istore 5, 2, 0, 0, 0, 0), (10, .iconst 0, 1, 0, 0, 0, 0), (11, .istore 6, 2, 0, 0, 0, 0), (13, .iconst 0, 1, 0, 0, 0, 0), (14, .istore 7, 2, 0, 0, 0, 0), (16, .iconst 0, 1, 0, 0, 0, 0), (17, .istore 8, 2, 0, 0, 0, 0), (19, .iload 8, 2, 0, 0, 0, 0), (21, .aload_n 0, 1, 0, 0, 0, 0), (22, .getfield 165, 3, 1, 10, 21, 141), (25, .if_icmp .ge 54, 3, 0, 79, 0, 0), (28, .aload_n 0, 1, 0, 0, 0, 0), (29, .aload_n 0, 1, 0, 0, 0, 0), (30, .getfield 53, 3, 0, 10, 20, 142), (33, .iload 8, 2, 0, 0, 0, 0), (35, .iaload, 1, 0, 0, 0, 0), (36, .aload_n 1, 1, 0, 0, 0, 0), (37, .iload_n 2, 1, 0, 0, 0, 0), (38, .iload 4, 2, 0, 0, 0, 0), (40, .invokevirtual 172, 3, 0, 131, 5, 111), (43, .ifCond .eq 30, 3, 0, 73, 0, 0), (46, .iload 5, 2, 0, 0, 0, 0), (48, .aload_n 0, 1, 0, 0, 0, 0), (49, .getfield 53, 3, 0, 10, 20, 142), (52, .iload 8, 2, 0, 0, 0, 0), (54, .iaload, 1, 0, 0, 0, 0), (55, .iand, 1, 0, 0, 0, 0), (56, .istore 5, 2, 0, 0, 0, 0), (58, .iload 6, 2, 0, 0, 0, 0), (60, .aload_n 0, 1, 0, 0, 0, 0), (61, .getfield 53, 3, 0, 10, 20, 142), (64, .iload 8, 2, 0, 0, 0, 0), (66, .iaload, 1, 0, 0, 0, 0), (67, .ior, 1, 0, 0, 0, 0), (68, .istore 6, 2, 0, 0, 0, 0), (70, .iinc 7 1, 3, 0, 0, 0, 0), (73, .iinc 8 1, 3, 0, 0, 0, 0), (76, .goto (-57), 3, 0, 19, 0, 0), (79, .iload 7, 2, 0, 0, 0, 0), (81, .ifCond .ne 7, 3, 0, 88, 0, 0), (84, .iconst 0, 1, 0, 0, 0, 0), (85, .goto 18, 3, 0, 103, 0, 0), (88, .ldc 176, 2, 65536, 0, 0, 1125), (90, .iload 7, 2, 0, 0, 0, 0), (92, .imul, 1, 0, 0, 0, 0), (93, .sipush 256, 3, 0, 0, 0, 0), (96, .iload 6, 2, 0, 0, 0, 0), (98, .imul, 1, 0, 0, 0, 0), (99, .iadd, 1, 0, 0, 0, 0), (100, .iload 5, 2, 0, 0, 0, 0), (102, .iadd, 1, 0, 0, 0, 0), (103, .ireturn, 1, 0, 0, 0, 0)]
def zm133 : zMI := (⟨"CommaCopiesModel", "madeBy", "([IIII)I"⟩, prog_12_method_26_code, 9, (Option.some Jvm.ClassFile.FieldType.int), false, 10, (1109, 1108, 67, 96), zc133)
/-- CommaCopiesModel.count(I)I -/
def zc134 : List zEnt := [(0, .iconst 0, 1, 0, 0, 0, 0), (1, .istore_n 2, 1, 0, 0, 0, 0), (2, .iconst 0, 1, 0, 0, 0, 0), (3, .istore_n 3, 1, 0, 0, 0, 0), (4, .iload_n 3, 1, 0, 0, 0, 0), (5, .aload_n 0, 1, 0, 0, 0, 0), (6, .getfield 104, 3, 1, 10, 4, 124), (9, .if_icmp .ge 27, 3, 0, 36, 0, 0), (12, .iload_n 2, 1, 0, 0, 0, 0), (13, .aload_n 0, 1, 0, 0, 0, 0), (14, .getfield 44, 3, 0, 10, 16, 132), (17, .iload_n 3, 1, 0, 0, 0, 0), (18, .iaload, 1, 0, 0, 0, 0), (19, .iconst 5, 1, 0, 0, 0, 0), (20, .if_icmp .ne 7, 3, 0, 27, 0, 0), (23, .iconst 1, 1, 0, 0, 0, 0), (24, .goto 4, 3, 0, 28, 0, 0), (27, .iconst 0, 1, 0, 0, 0, 0), (28, .iadd, 1, 0, 0, 0, 0), (29, .istore_n 2, 1, 0, 0, 0, 0), (30, .iinc 3 1, 3, 0, 0, 0, 0), (33, .goto (-29), 3, 0, 4, 0, 0), (36, .iload_n 1, 1, 0, 0, 0, 0), (37, .tableswitch 82 0 5 #[39, 44, 49, 54, 59, 80], 39, 0, 0, 0, 0), (76, .aload_n 0, 1, 0, 0, 0, 0), (77, .getfield 104, 3, 1, 10, 4, 124), (80, .ireturn, 1, 0, 0, 0, 0), (81, .aload_n 0, 1, 0, 0, 0, 0), (82, .getfield 114, 3, 1, 10, 12, 134), (85, .ireturn, 1, 0, 0, 0, 0), (86, .aload_n 0, 1, 0, 0, 0, 0), (87, .getfield 117, 3, 1, 10, 17, 135), (90, .ireturn, 1, 0, 0, 0, 0), (91, .aload_n 0, 1, 0, 0, 0, 0), (92, .getfield 101, 3, 1, 10, 2, 123), (95, .ireturn, 1, 0, 0, 0, 0), (96, .aload_n 0, 1, 0, 0, 0, 0), (97, .aload_n 0, 1, 0, 0, 0, 0), (98, .getfield 44, 3, 0, 10, 16, 132), (101, .iconst 0, 1, 0, 0, 0, 0), (102, .aload_n 0, 1, 0, 0, 0, 0), (103, .getfield 40, 3, 1, 10, 14, 139), (106, .aload_n 0, 1, 0, 0, 0, 0), (107, .getfield 155, 3, 1, 10, 15, 140), (110, .invokevirtual 177, 3, 0, 133, 5, 112), (113, .ldc 176, 2, 65536, 0, 0, 1125), (115, .idiv, 1, 0, 0, 0, 0), (116, .ireturn, 1, 0, 0, 0, 0), (117, .iload_n 2, 1, 0, 0, 0, 0), (118, .ireturn, 1, 0, 0, 0, 0), (119, .iconst (-1), 1, 0, 0, 0, 0), (120, .ireturn, 1, 0, 0, 0, 0)]
def zm134 : zMI := (⟨"CommaCopiesModel", "count", "(I)I"⟩, prog_12_method_27_code, 4, (Option.some Jvm.ClassFile.FieldType.int), false, 10, (1105, 1103, 1104, 96), zc134)
/-- CommaCopiesModel.print(II)I -/
def zc135 : List zEnt := [(0, .aload_n 0, 1, 0, 0, 0, 0), (1, .iload_n 1, 1, 0, 0, 0, 0), (2, .invokevirtual 120, 3, 0, 115, 2, 100), (5, .ifCond .eq 29, 3, 0, 34, 0, 0), (8, .iload_n 2, 1, 0, 0, 0, 0), (9, .i2l, 1, 0, 0, 0, 0), (10, .lconst 0, 1, 0, 0, 0, 0), (11, .ldc2_w 181, 3, 5, 0, 0, 1130), (14, .invokestatic 88, 3, 0, 110, 3, 97), (17, .ifCond .eq 17, 3, 0, 34, 0, 0), (20, .iload_n 2, 1, 0, 0, 0, 0), (21, .iconst 4, 1, 0, 0, 0, 0), (22, .if_icmp .ge 14, 3, 0, 36, 0, 0), (25, .aload_n 0, 1, 0, 0, 0, 0), (26, .iload_n 1, 1, 0, 0, 0, 0), (27, .iload_n 2, 1, 0, 0, 0, 0), (28, .invokevirtual 124, 3, 0, 116, 3, 101), (31, .ifCond .ne 5, 3, 0, 36, 0, 0), (34, .iconst (-1), 1, 0, 0, 0, 0), (35, .ireturn, 1, 0, 0, 0, 0), (36, .aload_n 0, 1, 0, 0, 0, 0), (37, .getfield 44, 3, 0, 10, 16, 132), (40, .iload_n 1, 1, 0, 0, 0, 0), (41, .iaload, 1, 0, 0, 0, 0), (42, .istore_n 3, 1, 0, 0, 0, 0), (43, .aload_n 0, 1, 0, 0, 0, 0), (44, .getfield 44, 3, 0, 10, 16, 132), (47, .iload_n 1, 1, 0, 0, 0, 0), (48, .iload_n 2, 1, 0, 0, 0, 0), (49, .iastore, 1, 0, 0, 0, 0), (50, .iload_n 3, 1, 0, 0, 0, 0), (51, .ireturn, 1, 0, 0, 0, 0)]
def zm135 : zMI := (⟨"CommaCopiesModel", "print", "(II)I"⟩, prog_12_method_28_code, 4, (Option.some Jvm.ClassFile.FieldType.int), false, 10, (1129, 1127, 1128, 96), zc135)
/-- CommaCopiesModel.goesOn(Z)Z -/
def zc136 : List zEnt := [(0, .aload_n 0, 1, 0, 0, 0, 0), (1, .getfield 104, 3, 1, 10, 4, 124), (4, .iconst 1, 1, 0, 0, 0, 0), (5, .isub, 1, 0, 0, 0, 0), (6, .istore_n 2, 1, 0, 0, 0, 0), (7, .iload_n 2, 1, 0, 0, 0, 0), (8, .ifCond .lt 41, 3, 0, 49, 0, 0), (11, .aload_n 0, 1, 0, 0, 0, 0), (12, .getfield 56, 3, 0, 10, 22, 143), (15, .iload_n 2, 1, 0, 0, 0, 0), (16, .iaload, 1, 0, 0, 0, 0), (17, .iload_n 1, 1, 0, 0, 0, 0), (18, .ifCond .eq 7, 3, 0, 25, 0, 0), (21, .iconst 4, 1, 0, 0, 0, 0), (22, .goto 11, 3, 0, 33, 0, 0), (25, .aload_n 0, 1, 0, 0, 0, 0), (26, .getfield 22, 3, 0, 10, 7, 127), (29, .iload_n 2, 1, 0, 0, 0, 0), (30, .iaload, 1, 0, 0, 0, 0), (31, .iconst 1, 1, 0, 0, 0, 0), (32, .isub, 1, 0, 0, 0, 0), (33, .if_icmp .ne 16, 3, 0, 49, 0, 0), (36, .aload_n 0, 1, 0, 0, 0, 0), (37, .getfield 56, 3, 0, 10, 22, 143), (40, .iload_n 2, 1, 0, 0, 0, 0), (41, .iconst 0, 1, 0, 0, 0, 0), (42, .iastore, 1, 0, 0, 0, 0), (43, .iinc 2 (-1), 3, 0, 0, 0, 0), (46, .goto (-39), 3, 0, 7, 0, 0), (49, .iload_n 2, 1, 0, 0, 0, 0), (50, .ifCond .ge 5, 3, 0, 55, 0, 0), (53, .iconst 0, 1, 0, 0, 0, 0), (54, .ireturn, 1, 0, 0, 0, 0), (55, .aload_n 0, 1, 0, 0, 0, 0), (56, .getfield 56, 3, 0, 10, 22, 143), (59, .iload_n 2, 1, 0, 0, 0, 0), (60, .aload_n 0, 1, 0, 0, 0, 0), (61, .getfield 56, 3, 0, 10, 22, 143), (64, .iload_n 2, 1, 0, 0, 0, 0), (65, .iaload, 1, 0, 0, 0, 0), (66, .iconst 1, 1, 0, 0, 0, 0), (67, .iadd, 1, 0, 0, 0, 0), (68, .aload_n 0, 1, 0, 0, 0, 0), (69, .getfield 22, 3, 0, 10, 7, 127), (72, .iload_n 2, 1, 0, 0, 0, 0), (73, .iaload, 1, 0, 0, 0, 0), (74, .if_icmp .lt 7, 3, 0, 81, 0, 0), (77, .iconst 4, 1, 0, 0, 0, 0), (78, .goto 11, 3, 0, 89, 0, 0), (81, .aload_n 0, 1, 0, 0, 0, 0), (82, .getfield 56, 3, 0, 10, 22, 143), (85, .iload_n 2, 1, 0, 0, 0, 0), (86, .iaload, 1, 0, 0, 0, 0), (87, .iconst 1, 1, 0, 0, 0, 0), (88, .iadd, 1, 0, 0, 0, 0), (89, .iastore, 1, 0, 0, 0, 0), (90, .iconst 1, 1, 0, 0, 0, 0), (91, .ireturn, 1, 0, 0, 0, 0)]
def zm136 : zMI := (⟨"CommaCopiesModel", "goesOn", "(Z)Z"⟩, prog_12_method_29_code, 3, (Option.some Jvm.ClassFile.FieldType.boolean), false, 10, (1142, 1141, 72, 96), zc136)
/-- CommaCopiesModel.begins()V -/
def zc137 : List zEnt := [(0, .iconst 0, 1, 0, 0, 0, 0), (1, .istore_n 1, 1, 0, 0, 0, 0), (2, .iload_n 1, 1, 0, 0, 0, 0), (3, .bipush 6, 2, 0, 0, 0, 0), (5, .if_icmp .ge 16, 3, 0, 21, 0, 0), (8, .aload_n 0, 1, 0, 0, 0, 0), (9, .getfield 56, 3, 0, 10, 22, 143), (12, .iload_n 1, 1, 0, 0, 0, 0), (13, .iconst 0, 1, 0, 0, 0, 0), (14, .iastore, 1, 0, 0, 0, 0), (15, .iinc 1 1, 3, 0, 0, 0, 0), (18, .goto (-16), 3, 0, 2, 0, 0), (21, .return_, 1, 0, 0, 0, 0)]
def zm137 : zMI := (⟨"CommaCopiesModel", "begins", "()V"⟩, prog_12_method_30_code, 2, (Option.none : Option Jvm.ClassFile.FieldType), false, 10, (1138, 1137, 71, 96), zc137)
/-- CommaCopiesModel.printed()I -/
def zc138 : List zEnt := [(0, .aload_n 0, 1, 0, 0, 0, 0), (1, .getfield 98, 3, 1, 10, 1, 121), (4, .istore_n 1, 1, 0, 0, 0, 0), (5, .aload_n 0, 1, 0, 0, 0, 0), (6, .iconst 0, 1, 0, 0, 0, 0), (7, .putfield 98, 3, 1, 10, 1, 121), (10, .aload_n 0, 1, 0, 0, 0, 0), (11, .getfield 101, 3, 1, 10, 2, 123), (14, .ifCond .ne 6, 3, 0, 20, 0, 0), (17, .bipush (-2), 2, 0, 0, 0, 0), (19, .ireturn, 1, 0, 0, 0, 0), (20, .aload_n 0, 1, 0, 0, 0, 0), (21, .invokevirtual 183, 3, 0, 137, 1, 113), (24, .iconst 1, 1, 0, 0, 0, 0), (25, .istore_n 2, 1, 0, 0, 0, 0), (26, .iload_n 2, 1, 0, 0, 0, 0), (27, .ifCond .eq 111, 3, 0, 138, 0, 0), (30, .aload_n 0, 1, 0, 0, 0, 0), (31, .aload_n 0, 1, 0, 0, 0, 0), (32, .getfield 56, 3, 0, 10, 22, 143), (35, .iconst 0, 1, 0, 0, 0, 0), (36, .invokevirtual 143, 3, 0, 124, 3, 106), (39, .iload_n 1, 1, 0, 0, 0, 0), (40, .if_icmp .ne 7, 3, 0, 47, 0, 0), (43, .iconst 1, 1, 0, 0, 0, 0), (44, .goto 4, 3, 0, 48, 0, 0), (47, .iconst 0, 1, 0, 0, 0, 0), (48, .istore_n 3, 1, 0, 0, 0, 0), (49, .iconst 0, 1, 0, 0, 0, 0), (50, .istore 4, 2, 0, 0, 0, 0), (52, .iload 4, 2, 0, 0, 0, 0), (54, .iload_n 1, 1, 0, 0, 0, 0), (55, .if_icmp .ge 36, 3, 0, 91, 0, 0), (58, .iload_n 3, 1, 0, 0, 0, 0), (59, .ifCond .eq 32, 3, 0, 91, 0, 0), (62, .aload_n 0, 1, 0, 0, 0, 0), (63, .getfield 50, 3, 0, 10, 19, 138), (66, .iload 4, 2, 0, 0, 0, 0), (68, .iaload, 1, 0, 0, 0, 0), (69, .aload_n 0, 1, 0, 0, 0, 0), (70, .getfield 7, 3, 0, 10, 0, 122), (73, .iload 4, 2, 0, 0, 0, 0), (75, .iaload, 1, 0, 0, 0, 0), (76, .if_icmp .ne 7, 3, 0, 83, 0, 0), (79, .iconst 1, 1, 0, 0, 0, 0), (80, .goto 4, 3, 0, 84, 0, 0), (83, .iconst 0, 1, 0, 0, 0, 0), (84, .istore_n 3, 1, 0, 0, 0, 0), (85, .iinc 4 1, 3, 0, 0, 0, 0), (88, .goto (-36), 3, 0, 52, 0, 0), (91, .iload_n 3, 1, 0, 0, 0, 0), (92, .ifCond .eq 37, 3, 0, 129, 0, 0), (95, .iconst 0, 1, 0, 0, 0, 0), (96, .istore 4, 2, 0, 0, 0, 0), (98, .iload 4, 2, 0, 0, 0, 0), (100, .aload_n 0, 1, 0, 0, 0, 0), (101, .getfield 104, 3, 1, 10, 4, 124), (104, .if_icmp .ge 23, 3, 0, 127, 0, 0), (107, .aload_n 0, 1, 0, 0, 0, 0), (108, .getfield 44, 3, 0, 10, 16, 132), (111, .iload 4, 2, 0, 0, 0, 0), (113, .aload_n 0, 1, 0, 0, 0, 0), (114, .getfield 56, 3, 0, 10, 22, 143), (117, .iload 4, 2, 0, 0, 0, 0), (119, .iaload, 1, 0, 0, 0, 0), (120, .iastore, 1, 0, 0, 0, 0), (121, .iinc 4 1, 3, 0, 0, 0, 0), (124, .goto (-26), 3, 0, 98, 0, 0), (127, .iconst 1, 1, 0, 0, 0, 0), (128, .ireturn, 1, 0, 0, 0, 0), (129, .aload_n 0, 1, 0, 0, 0, 0), (130, .iconst 1, 1, 0, 0, 0, 0), (131, .invokevirtual 186, 3, 0, 136, 2, 114), (134, .istore_n 2, 1, 0, 0, 0, 0), (135, .goto (-109), 3, 0, 26, 0, 0), (138, .bipush (-4), 2, 0, 0, 0, 0), (140, .ireturn, 1, 0, 0, 0, 0)]
def zm138 : zMI := (⟨"CommaCopiesModel", "printed", "()I"⟩, prog_12_method_31_code, 5, (Option.some Jvm.ClassFile.FieldType.int), false, 10, (1134, 1132, 1133, 96), zc138)
/-- CommaCopiesModel.isSet(I)Z -/
def zc139 : List zEnt := [(0, .iload_n 1, 1, 0, 0, 0, 0), (1, .i2l, 1, 0, 0, 0, 0), (2, .lconst 1, 1, 0, 0, 0, 0), (3, .iconst 1, 1, 0, 0, 0, 0), (4, .aload_n 0, 1, 0, 0, 0, 0), (5, .getfield 114, 3, 1, 10, 12, 134), (8, .ishl, 1, 0, 0, 0, 0), (9, .iconst 1, 1, 0, 0, 0, 0), (10, .isub, 1, 0, 0, 0, 0), (11, .i2l, 1, 0, 0, 0, 0), (12, .invokestatic 88, 3, 0, 110, 3, 97), (15, .ireturn, 1, 0, 0, 0, 0)]
def zm139 : zMI := (⟨"CommaCopiesModel", "isSet", "(I)Z"⟩, prog_12_method_32_code, 2, (Option.some Jvm.ClassFile.FieldType.boolean), false, 10, (1150, 1149, 73, 96), zc139)
/-- CommaCopiesModel.could(I)I -/
def zc140 : List zEnt := [(0, .aload_n 0, 1, 0, 0, 0, 0), (1, .iload_n 1, 1, 0, 0, 0, 0), (2, .invokevirtual 190, 3, 0, 139, 2, 115), (5, .ifCond .eq 28, 3, 0, 33, 0, 0), (8, .aload_n 0, 1, 0, 0, 0, 0), (9, .iload_n 1, 1, 0, 0, 0, 0), (10, .aload_n 0, 1, 0, 0, 0, 0), (11, .getfield 44, 3, 0, 10, 16, 132), (14, .iconst 0, 1, 0, 0, 0, 0), (15, .aload_n 0, 1, 0, 0, 0, 0), (16, .getfield 155, 3, 1, 10, 15, 140), (19, .invokevirtual 172, 3, 0, 131, 5, 111), (22, .ifCond .eq 7, 3, 0, 29, 0, 0), (25, .iconst 1, 1, 0, 0, 0, 0), (26, .goto 8, 3, 0, 34, 0, 0), (29, .iconst 0, 1, 0, 0, 0, 0), (30, .goto 4, 3, 0, 34, 0, 0), (33, .iconst (-1), 1, 0, 0, 0, 0), (34, .ireturn, 1, 0, 0, 0, 0)]
def zm140 : zMI := (⟨"CommaCopiesModel", "could", "(I)I"⟩, prog_12_method_33_code, 2, (Option.some Jvm.ClassFile.FieldType.int), false, 10, (1146, 1144, 1145, 96), zc140)
/-- CommaCopiesModel.maker(I)I -/
def zc141 : List zEnt := [(0, .iload_n 1, 1, 0, 0, 0, 0), (1, .ifCond .ge 5, 3, 0, 6, 0, 0), (4, .iconst (-1), 1, 0, 0, 0, 0), (5, .ireturn, 1, 0, 0, 0, 0), (6, .aload_n 0, 1, 0, 0, 0, 0), (7, .aload_n 0, 1, 0, 0, 0, 0), (8, .getfield 40, 3, 1, 10, 14, 139), (11, .invokevirtual 168, 3, 0, 132, 2, 110), (14, .iconst 0, 1, 0, 0, 0, 0), (15, .istore_n 2, 1, 0, 0, 0, 0), (16, .iconst 0, 1, 0, 0, 0, 0), (17, .istore_n 3, 1, 0, 0, 0, 0), (18, .iload_n 3, 1, 0, 0, 0, 0), (19, .aload_n 0, 1, 0, 0, 0, 0), (20, .getfield 165, 3, 1, 10, 21, 141), (23, .if_icmp .ge 46, 3, 0, 69, 0, 0), (26, .aload_n 0, 1, 0, 0, 0, 0), (27, .aload_n 0, 1, 0, 0, 0, 0), (28, .getfield 53, 3, 0, 10, 20, 142), (31, .iload_n 3, 1, 0, 0, 0, 0), (32, .iaload, 1, 0, 0, 0, 0), (33, .aload_n 0, 1, 0, 0, 0, 0), (34, .getfield 44, 3, 0, 10, 16, 132), (37, .iconst 0, 1, 0, 0, 0, 0), (38, .aload_n 0, 1, 0, 0, 0, 0), (39, .getfield 155, 3, 1, 10, 15, 140), (42, .invokevirtual 172, 3, 0, 131, 5, 111), (45, .ifCond .eq 18, 3, 0, 63, 0, 0), (48, .iload_n 2, 1, 0, 0, 0, 0), (49, .iload_n 1, 1, 0, 0, 0, 0), (50, .if_icmp .ne 10, 3, 0, 60, 0, 0), (53, .aload_n 0, 1, 0, 0, 0, 0), (54, .getfield 53, 3, 0, 10, 20, 142), (57, .iload_n 3, 1, 0, 0, 0, 0), (58, .iaload, 1, 0, 0, 0, 0), (59, .ireturn, 1, 0, 0, 0, 0), (60, .iinc 2 1, 3, 0, 0, 0, 0), (63, .iinc 3 1, 3, 0, 0, 0, 0), (66, .goto (-48), 3, 0, 18, 0, 0), (69, .bipush (-4), 2, 0, 0, 0, 0), (71, .ireturn, 1, 0, 0, 0, 0)]
def zm141 : zMI := (⟨"CommaCopiesModel", "maker", "(I)I"⟩, prog_12_method_34_code, 4, (Option.some Jvm.ClassFile.FieldType.int), false, 10, (1154, 1152, 1153, 96), zc141)
/-- CommaCopiesModel.blamed(I)I -/
def zc142 : List zEnt := [(0, .iload_n 1, 1, 0, 0, 0, 0), (1, .i2l, 1, 0, 0, 0, 0), (2, .lconst 0, 1, 0, 0, 0, 0), (3, .lconst 1, 1, 0, 0, 0, 0), (4, .invokestatic 88, 3, 0, 110, 3, 97), (7, .ifCond .ne 5, 3, 0, 12, 0, 0), (10, .iconst (-1), 1, 0, 0, 0, 0), (11, .ireturn, 1, 0, 0, 0, 0), (12, .aload_n 0, 1, 0, 0, 0, 0), (13, .aload_n 0, 1, 0, 0, 0, 0), (14, .getfield 44, 3, 0, 10, 16, 132), (17, .iconst 0, 1, 0, 0, 0, 0), (18, .aload_n 0, 1, 0, 0, 0, 0), (19, .getfield 40, 3, 1, 10, 14, 139), (22, .aload_n 0, 1, 0, 0, 0, 0), (23, .getfield 155, 3, 1, 10, 15, 140), (26, .invokevirtual 177, 3, 0, 133, 5, 112), (29, .istore_n 2, 1, 0, 0, 0, 0), (30, .iload_n 1, 1, 0, 0, 0, 0), (31, .ifCond .ne 11, 3, 0, 42, 0, 0), (34, .iload_n 2, 1, 0, 0, 0, 0), (35, .sipush 255, 3, 0, 0, 0, 0), (38, .iand, 1, 0, 0, 0, 0), (39, .goto 11, 3, 0, 50, 0, 0), (42, .iload_n 2, 1, 0, 0, 0, 0), (43, .bipush 8, 2, 0, 0, 0, 0), (45, .ishr, 1, 0, 0, 0, 0), (46, .sipush 255, 3, 0, 0, 0, 0), (49, .iand, 1, 0, 0, 0, 0), (50, .ireturn, 1, 0, 0, 0, 0)]
def zm142 : zMI := (⟨"CommaCopiesModel", "blamed", "(I)I"⟩, prog_12_method_35_code, 3, (Option.some Jvm.ClassFile.FieldType.int), false, 10, (1158, 1156, 1157, 96), zc142)
/-- CommaCopiesModel.lowest(I)I -/
def zc143 : List zEnt := [(0, .iconst 0, 1, 0, 0, 0, 0), (1, .istore_n 1, 1, 0, 0, 0, 0), (2, .iload_n 1, 1, 0, 0, 0, 0), (3, .bipush 31, 2, 0, 0, 0, 0), (5, .if_icmp .ge 17, 3, 0, 22, 0, 0), (8, .iload_n 0, 1, 0, 0, 0, 0), (9, .iload_n 1, 1, 0, 0, 0, 0), (10, .ishr, 1, 0, 0, 0, 0), (11, .iconst 1, 1, 0, 0, 0, 0), (12, .iand, 1, 0, 0, 0, 0), (13, .ifCond .ne 9, 3, 0, 22, 0, 0), (16, .iinc 1 1, 3, 0, 0, 0, 0), (19, .goto (-17), 3, 0, 2, 0, 0), (22, .iload_n 1, 1, 0, 0, 0, 0), (23, .ireturn, 1, 0, 0, 0, 0)]
def zm143 : zMI := (⟨"CommaCopiesModel", "lowest", "(I)I"⟩, prog_12_method_36_code, 2, (Option.some Jvm.ClassFile.FieldType.int), true, 10, (1165, 1164, 0, 96), zc143)
/-- CommaCopiesModel.unjust(I)I -/
def zc144 : List zEnt := [(0, .aload_n 0, 1, 0, 0, 0, 0), (1, .iload_n 1, 1, 0, 0, 0, 0), (2, .invokevirtual 190, 3, 0, 139, 2, 115), (5, .ifCond .ne 5, 3, 0, 10, 0, 0), (8, .iconst (-1), 1, 0, 0, 0, 0), (9, .ireturn, 1, 0, 0, 0, 0), (10, .aload_n 0, 1, 0, 0, 0, 0), (11, .aload_n 0, 1, 0, 0, 0, 0), (12, .getfield 44, 3, 0, 10, 16, 132), (15, .iconst 0, 1, 0, 0, 0, 0), (16, .aload_n 0, 1, 0, 0, 0, 0), (17, .getfield 40, 3, 1, 10, 14, 139), (20, .aload_n 0, 1, 0, 0, 0, 0), (21, .getfield 155, 3, 1, 10, 15, 140), (24, .invokevirtual 177, 3, 0, 133, 5, 112), (27, .istore_n 2, 1, 0, 0, 0, 0), (28, .iload_n 2, 1, 0, 0, 0, 0), (29, .ifCond .ne 6, 3, 0, 35, 0, 0), (32, .bipush (-2), 2, 0, 0, 0, 0), (34, .ireturn, 1, 0, 0, 0, 0), (35, .iload_n 1, 1, 0, 0, 0, 0), (36, .iload_n 2, 1, 0, 0, 0, 0), (37, .sipush 255, 3, 0, 0, 0, 0), (40, .iand, 1, 0, 0, 0, 0), (41, .iconst (-1), 1, 0, 0, 0, 0), (42, .ixor, 1, 0, 0, 0, 0), (43, .iand, 1, 0, 0, 0, 0), (44, .istore_n 3, 1, 0, 0, 0, 0), (45, .iload_n 3, 1, 0, 0, 0, 0), (46, .ifCond .ne 8, 3, 0, 54, 0, 0), (49, .bipush (-4), 2, 0, 0, 0, 0), (51, .goto 7, 3, 0, 58, 0, 0), (54, .iload_n 3, 1, 0, 0, 0, 0), (55, .invokestatic 193, 3, 0, 143, 1, 116), (58, .ireturn, 1, 0, 0, 0, 0)]
def zm144 : zMI := (⟨"CommaCopiesModel", "unjust", "(I)I"⟩, prog_12_method_37_code, 4, (Option.some Jvm.ClassFile.FieldType.int), false, 10, (1162, 1160, 1161, 96), zc144)
/-- CommaCopiesModel.laysCans()V -/
def zc145 : List zEnt := [(0, .aload_n 0, 1, 0, 0, 0, 0), (1, .aload_n 0, 1, 0, 0, 0, 0), (2, .getfield 40, 3, 1, 10, 14, 139), (5, .invokevirtual 168, 3, 0, 132, 2, 110), (8, .iconst 0, 1, 0, 0, 0, 0), (9, .istore_n 1, 1, 0, 0, 0, 0), (10, .iload_n 1, 1, 0, 0, 0, 0), (11, .aload_n 0, 1, 0, 0, 0, 0), (12, .getfield 165, 3, 1, 10, 21, 141), (15, .if_icmp .ge 51, 3, 0, 66, 0, 0), (18, .iconst 0, 1, 0, 0, 0, 0), (19, .istore_n 2, 1, 0, 0, 0, 0), (20, .iload_n 2, 1, 0, 0, 0, 0), (21, .aload_n 0, 1, 0, 0, 0, 0), (22, .getfield 104, 3, 1, 10, 4, 124), (25, .if_icmp .ge 35, 3, 0, 60, 0, 0), (28, .aload_n 0, 1, 0, 0, 0, 0), (29, .getfield 59, 3, 0, 10, 23, 144), (32, .bipush 6, 2, 0, 0, 0, 0), (34, .iload_n 1, 1, 0, 0, 0, 0), (35, .imul, 1, 0, 0, 0, 0), (36, .iload_n 2, 1, 0, 0, 0, 0), (37, .iadd, 1, 0, 0, 0, 0), (38, .aload_n 0, 1, 0, 0, 0, 0), (39, .aload_n 0, 1, 0, 0, 0, 0), (40, .getfield 53, 3, 0, 10, 20, 142), (43, .iload_n 1, 1, 0, 0, 0, 0), (44, .iaload, 1, 0, 0, 0, 0), (45, .iload_n 2, 1, 0, 0, 0, 0), (46, .aload_n 0, 1, 0, 0, 0, 0), (47, .getfield 155, 3, 1, 10, 15, 140), (50, .invokevirtual 161, 3, 0, 130, 4, 109), (53, .iastore, 1, 0, 0, 0, 0), (54, .iinc 2 1, 3, 0, 0, 0, 0), (57, .goto (-37), 3, 0, 20, 0, 0), (60, .iinc 1 1, 3, 0, 0, 0, 0), (63, .goto (-53), 3, 0, 10, 0, 0), (66, .return_, 1, 0, 0, 0, 0)]
def zm145 : zMI := (⟨"CommaCopiesModel", "laysCans", "()V"⟩, prog_12_method_38_code, 3, (Option.none : Option Jvm.ClassFile.FieldType), false, 10, (1177, 1176, 75, 96), zc145)
/-- CommaCopiesModel.isUnframed(I)Z -/
def zc146 : List zEnt := [(0, .iconst 0, 1, 0, 0, 0, 0), (1, .istore_n 2, 1, 0, 0, 0, 0), (2, .iload_n 2, 1, 0, 0, 0, 0), (3, .aload_n 0, 1, 0, 0, 0, 0), (4, .getfield 165, 3, 1, 10, 21, 141), (7, .if_icmp .ge 137, 3, 0, 144, 0, 0), (10, .iconst 0, 1, 0, 0, 0, 0), (11, .istore_n 3, 1, 0, 0, 0, 0), (12, .iload_n 3, 1, 0, 0, 0, 0), (13, .aload_n 0, 1, 0, 0, 0, 0), (14, .getfield 114, 3, 1, 10, 12, 134), (17, .if_icmp .ge 121, 3, 0, 138, 0, 0), (20, .aload_n 0, 1, 0, 0, 0, 0), (21, .getfield 53, 3, 0, 10, 20, 142), (24, .iload_n 2, 1, 0, 0, 0, 0), (25, .iaload, 1, 0, 0, 0, 0), (26, .iload_n 3, 1, 0, 0, 0, 0), (27, .ishr, 1, 0, 0, 0, 0), (28, .iconst 1, 1, 0, 0, 0, 0), (29, .iand, 1, 0, 0, 0, 0), (30, .ifCond .ne 7, 3, 0, 37, 0, 0), (33, .iconst 1, 1, 0, 0, 0, 0), (34, .goto 4, 3, 0, 38, 0, 0), (37, .iconst 0, 1, 0, 0, 0, 0), (38, .istore 4, 2, 0, 0, 0, 0), (40, .iconst 0, 1, 0, 0, 0, 0), (41, .istore 5, 2, 0, 0, 0, 0), (43, .iload 5, 2, 0, 0, 0, 0), (45, .aload_n 0, 1, 0, 0, 0, 0), (46, .getfield 104, 3, 1, 10, 4, 124), (49, .if_icmp .ge 61, 3, 0, 110, 0, 0), (52, .iload 4, 2, 0, 0, 0, 0), (54, .ifCond .eq 56, 3, 0, 110, 0, 0), (57, .iload_n 1, 1, 0, 0, 0, 0), (58, .iload 5, 2, 0, 0, 0, 0), (60, .ishr, 1, 0, 0, 0, 0), (61, .iconst 1, 1, 0, 0, 0, 0), (62, .iand, 1, 0, 0, 0, 0), (63, .ifCond .eq 34, 3, 0, 97, 0, 0), (66, .aload_n 0, 1, 0, 0, 0, 0), (67, .getfield 59, 3, 0, 10, 23, 144), (70, .bipush 6, 2, 0, 0, 0, 0), (72, .iload_n 2, 1, 0, 0, 0, 0), (73, .imul, 1, 0, 0, 0, 0), (74, .iload 5, 2, 0, 0, 0, 0), (76, .iadd, 1, 0, 0, 0, 0), (77, .iaload, 1, 0, 0, 0, 0), (78, .aload_n 0, 1, 0, 0, 0, 0), (79, .getfield 37, 3, 0, 10, 13, 137), (82, .bipush 6, 2, 0, 0, 0, 0), (84, .iload_n 3, 1, 0, 0, 0, 0), (85, .imul, 1, 0, 0, 0, 0), (86, .iload 5, 2, 0, 0, 0, 0), (88, .iadd, 1, 0, 0, 0, 0), (89, .iaload, 1, 0, 0, 0, 0), (90, .ishr, 1, 0, 0, 0, 0), (91, .iconst 1, 1, 0, 0, 0, 0), (92, .iand, 1, 0, 0, 0, 0), (93, .iconst 1, 1, 0, 0, 0, 0), (94, .if_icmp .ne 7, 3, 0, 101, 0, 0), (97, .iconst 1, 1, 0, 0, 0, 0), (98, .goto 4, 3, 0, 102, 0, 0), (101, .iconst 0, 1, 0, 0, 0, 0), (102, .istore 4, 2, 0, 0, 0, 0), (104, .iinc 5 1, 3, 0, 0, 0, 0), (107, .goto (-64), 3, 0, 43, 0, 0), (110, .iload 4, 2, 0, 0, 0, 0), (112, .ifCond .eq 20, 3, 0, 132, 0, 0), (115, .aload_n 0, 1, 0, 0, 0, 0), (116, .aload_n 0, 1, 0, 0, 0, 0), (117, .getfield 53, 3, 0, 10, 20, 142), (120, .iload_n 2, 1, 0, 0, 0, 0), (121, .iaload, 1, 0, 0, 0, 0), (122, .putfield 196, 3, 1, 10, 24, 145), (125, .aload_n 0, 1, 0, 0, 0, 0), (126, .iload_n 3, 1, 0, 0, 0, 0), (127, .putfield 199, 3, 1, 10, 25, 146), (130, .iconst 0, 1, 0, 0, 0, 0), (131, .ireturn, 1, 0, 0, 0, 0), (132, .iinc 3 1, 3, 0, 0, 0, 0), (135, .goto (-123), 3, 0, 12, 0, 0), (138, .iinc 2 1, 3, 0, 0, 0, 0), (141, .goto (-139), 3, 0, 2, 0, 0), (144, .iconst 1, 1, 0, 0, 0, 0), (145, .ireturn, 1, 0, 0, 0, 0)]
def zm146 : zMI := (⟨"CommaCopiesModel", "isUnframed", "(I)Z"⟩, prog_12_method_39_code, 6, (Option.some Jvm.ClassFile.FieldType.boolean), false, 10, (1181, 1180, 76, 96), zc146)
/-- CommaCopiesModel.areApart(I)Z -/
def zc147 : List zEnt := [(0, .iconst 0, 1, 0, 0, 0, 0), (1, .istore_n 2, 1, 0, 0, 0, 0), (2, .iload_n 2, 1, 0, 0, 0, 0), (3, .aload_n 0, 1, 0, 0, 0, 0), (4, .getfield 165, 3, 1, 10, 21, 141), (7, .if_icmp .ge 142, 3, 0, 149, 0, 0), (10, .iconst 0, 1, 0, 0, 0, 0), (11, .istore_n 3, 1, 0, 0, 0, 0), (12, .iload_n 3, 1, 0, 0, 0, 0), (13, .aload_n 0, 1, 0, 0, 0, 0), (14, .getfield 165, 3, 1, 10, 21, 141), (17, .if_icmp .ge 126, 3, 0, 143, 0, 0), (20, .aload_n 0, 1, 0, 0, 0, 0), (21, .getfield 53, 3, 0, 10, 20, 142), (24, .iload_n 2, 1, 0, 0, 0, 0), (25, .iaload, 1, 0, 0, 0, 0), (26, .aload_n 0, 1, 0, 0, 0, 0), (27, .getfield 53, 3, 0, 10, 20, 142), (30, .iload_n 3, 1, 0, 0, 0, 0), (31, .iaload, 1, 0, 0, 0, 0), (32, .iand, 1, 0, 0, 0, 0), (33, .ifCond .ne 7, 3, 0, 40, 0, 0), (36, .iconst 1, 1, 0, 0, 0, 0), (37, .goto 4, 3, 0, 41, 0, 0), (40, .iconst 0, 1, 0, 0, 0, 0), (41, .istore 4, 2, 0, 0, 0, 0), (43, .iconst 0, 1, 0, 0, 0, 0), (44, .istore 5, 2, 0, 0, 0, 0), (46, .iload 5, 2, 0, 0, 0, 0), (48, .aload_n 0, 1, 0, 0, 0, 0), (49, .getfield 104, 3, 1, 10, 4, 124), (52, .if_icmp .ge 58, 3, 0, 110, 0, 0), (55, .iload 4, 2, 0, 0, 0, 0), (57, .ifCond .eq 53, 3, 0, 110, 0, 0), (60, .iload_n 1, 1, 0, 0, 0, 0), (61, .iload 5, 2, 0, 0, 0, 0), (63, .ishr, 1, 0, 0, 0, 0), (64, .iconst 1, 1, 0, 0, 0, 0), (65, .iand, 1, 0, 0, 0, 0), (66, .ifCond .eq 31, 3, 0, 97, 0, 0), (69, .aload_n 0, 1, 0, 0, 0, 0), (70, .getfield 59, 3, 0, 10, 23, 144), (73, .bipush 6, 2, 0, 0, 0, 0), (75, .iload_n 2, 1, 0, 0, 0, 0), (76, .imul, 1, 0, 0, 0, 0), (77, .iload 5, 2, 0, 0, 0, 0), (79, .iadd, 1, 0, 0, 0, 0), (80, .iaload, 1, 0, 0, 0, 0), (81, .aload_n 0, 1, 0, 0, 0, 0), (82, .getfield 59, 3, 0, 10, 23, 144), (85, .bipush 6, 2, 0, 0, 0, 0), (87, .iload_n 3, 1, 0, 0, 0, 0), (88, .imul, 1, 0, 0, 0, 0), (89, .iload 5, 2, 0, 0, 0, 0), (91, .iadd, 1, 0, 0, 0, 0), (92, .iaload, 1, 0, 0, 0, 0), (93, .iand, 1, 0, 0, 0, 0), (94, .ifCond .eq 7, 3, 0, 101, 0, 0), (97, .iconst 1, 1, 0, 0, 0, 0), (98, .goto 4, 3, 0, 102, 0, 0), (101, .iconst 0, 1, 0, 0, 0, 0), (102, .istore 4, 2, 0, 0, 0, 0), (104, .iinc 5 1, 3, 0, 0, 0, 0), (107, .goto (-61), 3, 0, 46, 0, 0), (110, .iload 4, 2, 0, 0, 0, 0), (112, .ifCond .eq 25, 3, 0, 137, 0, 0), (115, .aload_n 0, 1, 0, 0, 0, 0), (116, .aload_n 0, 1, 0, 0, 0, 0), (117, .getfield 53, 3, 0, 10, 20, 142), (120, .iload_n 2, 1, 0, 0, 0, 0), (121, .iaload, 1, 0, 0, 0, 0), (122, .putfield 196, 3, 1, 10, 24, 145), (125, .aload_n 0, 1, 0, 0, 0, 0), (126, .aload_n 0, 1, 0, 0, 0, 0), (127, .getfield 53, 3, 0, 10, 20, 142), (130, .iload_n 3, 1, 0, 0, 0, 0), (131, .iaload, 1, 0, 0, 0, 0), (132, .putfield 199, 3, 1, 10, 25, 146), (135, .iconst 0, 1, 0, 0, 0, 0), (136, .ireturn, 1, 0, 0, 0, 0), (137, .iinc 3 1, 3, 0, 0, 0, 0), (140, .goto (-128), 3, 0, 12, 0, 0), (143, .iinc 2 1, 3, 0, 0, 0, 0), (146, .goto (-144), 3, 0, 2, 0, 0), (149, .iconst 1, 1, 0, 0, 0, 0), (150, .ireturn, 1, 0, 0, 0, 0)]
def zm147 : zMI := (⟨"CommaCopiesModel", "areApart", "(I)Z"⟩, prog_12_method_40_code, 6, (Option.some Jvm.ClassFile.FieldType.boolean), false, 10, (1185, 1184, 77, 96), zc147)
/-- CommaCopiesModel.areNamed(I)Z -/
def zc148 : List zEnt := [(0, .aload_n 0, 1, 0, 0, 0, 0), (1, .invokevirtual 183, 3, 0, 137, 1, 113), (4, .iconst 1, 1, 0, 0, 0, 0), (5, .istore_n 2, 1, 0, 0, 0, 0), (6, .iload_n 2, 1, 0, 0, 0, 0), (7, .ifCond .eq 161, 3, 0, 168, 0, 0), (10, .sipush 255, 3, 0, 0, 0, 0), (13, .istore_n 3, 1, 0, 0, 0, 0), (14, .aload_n 0, 1, 0, 0, 0, 0), (15, .iconst 0, 1, 0, 0, 0, 0), (16, .putfield 202, 3, 1, 10, 26, 147), (19, .iconst 0, 1, 0, 0, 0, 0), (20, .istore 4, 2, 0, 0, 0, 0), (22, .iload 4, 2, 0, 0, 0, 0), (24, .aload_n 0, 1, 0, 0, 0, 0), (25, .getfield 165, 3, 1, 10, 21, 141), (28, .if_icmp .ge 118, 3, 0, 146, 0, 0), (31, .iconst 1, 1, 0, 0, 0, 0), (32, .istore 5, 2, 0, 0, 0, 0), (34, .iconst 0, 1, 0, 0, 0, 0), (35, .istore 6, 2, 0, 0, 0, 0), (37, .iload 6, 2, 0, 0, 0, 0), (39, .aload_n 0, 1, 0, 0, 0, 0), (40, .getfield 104, 3, 1, 10, 4, 124), (43, .if_icmp .ge 57, 3, 0, 100, 0, 0), (46, .iload 5, 2, 0, 0, 0, 0), (48, .ifCond .eq 52, 3, 0, 100, 0, 0), (51, .iload_n 1, 1, 0, 0, 0, 0), (52, .iload 6, 2, 0, 0, 0, 0), (54, .ishr, 1, 0, 0, 0, 0), (55, .iconst 1, 1, 0, 0, 0, 0), (56, .iand, 1, 0, 0, 0, 0), (57, .ifCond .eq 30, 3, 0, 87, 0, 0), (60, .aload_n 0, 1, 0, 0, 0, 0), (61, .getfield 59, 3, 0, 10, 23, 144), (64, .bipush 6, 2, 0, 0, 0, 0), (66, .iload 4, 2, 0, 0, 0, 0), (68, .imul, 1, 0, 0, 0, 0), (69, .iload 6, 2, 0, 0, 0, 0), (71, .iadd, 1, 0, 0, 0, 0), (72, .iaload, 1, 0, 0, 0, 0), (73, .aload_n 0, 1, 0, 0, 0, 0), (74, .getfield 56, 3, 0, 10, 22, 143), (77, .iload 6, 2, 0, 0, 0, 0), (79, .iaload, 1, 0, 0, 0, 0), (80, .ishr, 1, 0, 0, 0, 0), (81, .iconst 1, 1, 0, 0, 0, 0), (82, .iand, 1, 0, 0, 0, 0), (83, .iconst 1, 1, 0, 0, 0, 0), (84, .if_icmp .ne 7, 3, 0, 91, 0, 0), (87, .iconst 1, 1, 0, 0, 0, 0), (88, .goto 4, 3, 0, 92, 0, 0), (91, .iconst 0, 1, 0, 0, 0, 0), (92, .istore 5, 2, 0, 0, 0, 0), (94, .iinc 6 1, 3, 0, 0, 0, 0), (97, .goto (-60), 3, 0, 37, 0, 0), (100, .iload_n 3, 1, 0, 0, 0, 0), (101, .iload 5, 2, 0, 0, 0, 0), (103, .ifCond .eq 13, 3, 0, 116, 0, 0), (106, .aload_n 0, 1, 0, 0, 0, 0), (107, .getfield 53, 3, 0, 10, 20, 142), (110, .iload 4, 2, 0, 0, 0, 0), (112, .iaload, 1, 0, 0, 0, 0), (113, .goto 6, 3, 0, 119, 0, 0), (116, .sipush 255, 3, 0, 0, 0, 0), (119, .iand, 1, 0, 0, 0, 0), (120, .istore_n 3, 1, 0, 0, 0, 0), (121, .aload_n 0, 1, 0, 0, 0, 0), (122, .dup, 1, 0, 0, 0, 0), (123, .getfield 202, 3, 1, 10, 26, 147), (126, .iload 5, 2, 0, 0, 0, 0), (128, .ifCond .eq 7, 3, 0, 135, 0, 0), (131, .iconst 1, 1, 0, 0, 0, 0), (132, .goto 4, 3, 0, 136, 0, 0), (135, .iconst 0, 1, 0, 0, 0, 0), (136, .iadd, 1, 0, 0, 0, 0), (137, .putfield 202, 3, 1, 10, 26, 147), (140, .iinc 4 1, 3, 0, 0, 0, 0), (143, .goto (-121), 3, 0, 22, 0, 0), (146, .aload_n 0, 1, 0, 0, 0, 0), (147, .getfield 202, 3, 1, 10, 26, 147), (150, .ifCond .le 9, 3, 0, 159, 0, 0), (153, .iload_n 3, 1, 0, 0, 0, 0), (154, .ifCond .ne 5, 3, 0, 159, 0, 0), (157, .iconst 0, 1, 0, 0, 0, 0), (158, .ireturn, 1, 0, 0, 0, 0), (159, .aload_n 0, 1, 0, 0, 0, 0), (160, .iload_n 1, 1, 0, 0, 0, 0), (161, .invokevirtual 205, 3, 0, 149, 2, 117), (164, .istore_n 2, 1, 0, 0, 0, 0), (165, .goto (-159), 3, 0, 6, 0, 0), (168, .iconst 1, 1, 0, 0, 0, 0), (169, .ireturn, 1, 0, 0, 0, 0)]
def zm148 : zMI := (⟨"CommaCopiesModel", "areNamed", "(I)Z"⟩, prog_12_method_41_code, 7, (Option.some Jvm.ClassFile.FieldType.boolean), false, 10, (1189, 1188, 78, 96), zc148)
/-- CommaCopiesModel.goesOnBy(I)Z -/
def zc149 : List zEnt := [(0, .aload_n 0, 1, 0, 0, 0, 0), (1, .getfield 104, 3, 1, 10, 4, 124), (4, .iconst 1, 1, 0, 0, 0, 0), (5, .isub, 1, 0, 0, 0, 0), (6, .istore_n 2, 1, 0, 0, 0, 0), (7, .iload_n 2, 1, 0, 0, 0, 0), (8, .ifCond .lt 34, 3, 0, 42, 0, 0), (11, .iload_n 1, 1, 0, 0, 0, 0), (12, .iload_n 2, 1, 0, 0, 0, 0), (13, .ishr, 1, 0, 0, 0, 0), (14, .iconst 1, 1, 0, 0, 0, 0), (15, .iand, 1, 0, 0, 0, 0), (16, .ifCond .eq 13, 3, 0, 29, 0, 0), (19, .aload_n 0, 1, 0, 0, 0, 0), (20, .getfield 56, 3, 0, 10, 22, 143), (23, .iload_n 2, 1, 0, 0, 0, 0), (24, .iaload, 1, 0, 0, 0, 0), (25, .iconst 4, 1, 0, 0, 0, 0), (26, .if_icmp .ne 16, 3, 0, 42, 0, 0), (29, .aload_n 0, 1, 0, 0, 0, 0), (30, .getfield 56, 3, 0, 10, 22, 143), (33, .iload_n 2, 1, 0, 0, 0, 0), (34, .iconst 0, 1, 0, 0, 0, 0), (35, .iastore, 1, 0, 0, 0, 0), (36, .iinc 2 (-1), 3, 0, 0, 0, 0), (39, .goto (-32), 3, 0, 7, 0, 0), (42, .iload_n 2, 1, 0, 0, 0, 0), (43, .ifCond .ge 5, 3, 0, 48, 0, 0), (46, .iconst 0, 1, 0, 0, 0, 0), (47, .ireturn, 1, 0, 0, 0, 0), (48, .aload_n 0, 1, 0, 0, 0, 0), (49, .getfield 56, 3, 0, 10, 22, 143), (52, .iload_n 2, 1, 0, 0, 0, 0), (53, .dup2, 1, 0, 0, 0, 0), (54, .iaload, 1, 0, 0, 0, 0), (55, .iconst 1, 1, 0, 0, 0, 0), (56, .iadd, 1, 0, 0, 0, 0), (57, .iastore, 1, 0, 0, 0, 0), (58, .iconst 1, 1, 0, 0, 0, 0), (59, .ireturn, 1, 0, 0, 0, 0)]
def zm149 : zMI := (⟨"CommaCopiesModel", "goesOnBy", "(I)Z"⟩, prog_12_method_42_code, 3, (Option.some Jvm.ClassFile.FieldType.boolean), false, 10, (1193, 1192, 79, 96), zc149)
/-- CommaCopiesModel.isLaw(II)Z -/
def zc150 : List zEnt := [(0, .aload_n 0, 1, 0, 0, 0, 0), (1, .invokevirtual 208, 3, 0, 145, 1, 118), (4, .iload_n 1, 1, 0, 0, 0, 0), (5, .ifCond .ne 11, 3, 0, 16, 0, 0), (8, .aload_n 0, 1, 0, 0, 0, 0), (9, .iload_n 2, 1, 0, 0, 0, 0), (10, .invokevirtual 211, 3, 0, 146, 2, 119), (13, .goto 21, 3, 0, 34, 0, 0), (16, .iload_n 1, 1, 0, 0, 0, 0), (17, .iconst 1, 1, 0, 0, 0, 0), (18, .if_icmp .ne 11, 3, 0, 29, 0, 0), (21, .aload_n 0, 1, 0, 0, 0, 0), (22, .iload_n 2, 1, 0, 0, 0, 0), (23, .invokevirtual 214, 3, 0, 147, 2, 120), (26, .goto 8, 3, 0, 34, 0, 0), (29, .aload_n 0, 1, 0, 0, 0, 0), (30, .iload_n 2, 1, 0, 0, 0, 0), (31, .invokevirtual 217, 3, 0, 148, 2, 121), (34, .ireturn, 1, 0, 0, 0, 0)]
def zm150 : zMI := (⟨"CommaCopiesModel", "isLaw", "(II)Z"⟩, prog_12_method_43_code, 3, (Option.some Jvm.ClassFile.FieldType.boolean), false, 10, (1173, 1172, 74, 96), zc150)
/-- CommaCopiesModel.holds(I)I -/
def zc151 : List zEnt := [(0, .iload_n 1, 1, 0, 0, 0, 0), (1, .i2l, 1, 0, 0, 0, 0), (2, .lconst 0, 1, 0, 0, 0, 0), (3, .ldc2_w 153, 3, 2, 0, 0, 1065), (6, .invokestatic 88, 3, 0, 110, 3, 97), (9, .ifCond .eq 21, 3, 0, 30, 0, 0), (12, .aload_n 0, 1, 0, 0, 0, 0), (13, .iload_n 1, 1, 0, 0, 0, 0), (14, .bipush 63, 2, 0, 0, 0, 0), (16, .invokevirtual 220, 3, 0, 150, 3, 122), (19, .ifCond .eq 7, 3, 0, 26, 0, 0), (22, .iconst 1, 1, 0, 0, 0, 0), (23, .goto 8, 3, 0, 31, 0, 0), (26, .iconst 0, 1, 0, 0, 0, 0), (27, .goto 4, 3, 0, 31, 0, 0), (30, .iconst (-1), 1, 0, 0, 0, 0), (31, .ireturn, 1, 0, 0, 0, 0)]
def zm151 : zMI := (⟨"CommaCopiesModel", "holds", "(I)I"⟩, prog_12_method_44_code, 2, (Option.some Jvm.ClassFile.FieldType.int), false, 10, (1169, 1167, 1168, 96), zc151)
/-- CommaCopiesModel.breach(II)I -/
def zc152 : List zEnt := [(0, .iload_n 1, 1, 0, 0, 0, 0), (1, .i2l, 1, 0, 0, 0, 0), (2, .lconst 0, 1, 0, 0, 0, 0), (3, .ldc2_w 153, 3, 2, 0, 0, 1065), (6, .invokestatic 88, 3, 0, 110, 3, 97), (9, .ifCond .eq 29, 3, 0, 38, 0, 0), (12, .iload_n 1, 1, 0, 0, 0, 0), (13, .iconst 2, 1, 0, 0, 0, 0), (14, .if_icmp .ge 16, 3, 0, 30, 0, 0), (17, .iload_n 2, 1, 0, 0, 0, 0), (18, .i2l, 1, 0, 0, 0, 0), (19, .lconst 0, 1, 0, 0, 0, 0), (20, .lconst 1, 1, 0, 0, 0, 0), (21, .invokestatic 88, 3, 0, 110, 3, 97), (24, .ifCond .ne 16, 3, 0, 40, 0, 0), (27, .goto 11, 3, 0, 38, 0, 0), (30, .aload_n 0, 1, 0, 0, 0, 0), (31, .iload_n 2, 1, 0, 0, 0, 0), (32, .invokevirtual 120, 3, 0, 115, 2, 100), (35, .ifCond .ne 5, 3, 0, 40, 0, 0), (38, .iconst (-1), 1, 0, 0, 0, 0), (39, .ireturn, 1, 0, 0, 0, 0), (40, .aload_n 0, 1, 0, 0, 0, 0), (41, .iload_n 1, 1, 0, 0, 0, 0), (42, .bipush 63, 2, 0, 0, 0, 0), (44, .invokevirtual 220, 3, 0, 150, 3, 122), (47, .ifCond .eq 6, 3, 0, 53, 0, 0), (50, .bipush (-4), 2, 0, 0, 0, 0), (52, .ireturn, 1, 0, 0, 0, 0), (53, .iload_n 1, 1, 0, 0, 0, 0), (54, .iconst 2, 1, 0, 0, 0, 0), (55, .if_icmp .ne 12, 3, 0, 67, 0, 0), (58, .aload_n 0, 1, 0, 0, 0, 0), (59, .getfield 56, 3, 0, 10, 22, 143), (62, .iload_n 2, 1, 0, 0, 0, 0), (63, .iaload, 1, 0, 0, 0, 0), (64, .goto 18, 3, 0, 82, 0, 0), (67, .iload_n 2, 1, 0, 0, 0, 0), (68, .ifCond .ne 10, 3, 0, 78, 0, 0), (71, .aload_n 0, 1, 0, 0, 0, 0), (72, .getfield 196, 3, 1, 10, 24, 145), (75, .goto 7, 3, 0, 82, 0, 0), (78, .aload_n 0, 1, 0, 0, 0, 0), (79, .getfield 199, 3, 1, 10, 25, 146), (82, .ireturn, 1, 0, 0, 0, 0)]
def zm152 : zMI := (⟨"CommaCopiesModel", "breach", "(II)I"⟩, prog_12_method_45_code, 3, (Option.some Jvm.ClassFile.FieldType.int), false, 10, (1197, 1195, 1196, 96), zc152)
/-- CommaCopiesModel.fewest(I)I -/
def zc153 : List zEnt := [(0, .iload_n 1, 1, 0, 0, 0, 0), (1, .i2l, 1, 0, 0, 0, 0), (2, .lconst 0, 1, 0, 0, 0, 0), (3, .ldc2_w 153, 3, 2, 0, 0, 1065), (6, .invokestatic 88, 3, 0, 110, 3, 97), (9, .ifCond .ne 5, 3, 0, 14, 0, 0), (12, .iconst (-1), 1, 0, 0, 0, 0), (13, .ireturn, 1, 0, 0, 0, 0), (14, .bipush (-4), 2, 0, 0, 0, 0), (16, .istore_n 2, 1, 0, 0, 0, 0), (17, .iconst 0, 1, 0, 0, 0, 0), (18, .istore_n 3, 1, 0, 0, 0, 0), (19, .iload_n 3, 1, 0, 0, 0, 0), (20, .iconst 1, 1, 0, 0, 0, 0), (21, .aload_n 0, 1, 0, 0, 0, 0), (22, .getfield 104, 3, 1, 10, 4, 124), (25, .ishl, 1, 0, 0, 0, 0), (26, .if_icmp .ge 51, 3, 0, 77, 0, 0), (29, .iload_n 2, 1, 0, 0, 0, 0), (30, .ifCond .lt 14, 3, 0, 44, 0, 0), (33, .iload_n 3, 1, 0, 0, 0, 0), (34, .invokestatic 158, 3, 0, 129, 1, 108), (37, .iload_n 2, 1, 0, 0, 0, 0), (38, .invokestatic 158, 3, 0, 129, 1, 108), (41, .if_icmp .ge 7, 3, 0, 48, 0, 0), (44, .iconst 1, 1, 0, 0, 0, 0), (45, .goto 4, 3, 0, 49, 0, 0), (48, .iconst 0, 1, 0, 0, 0, 0), (49, .istore 4, 2, 0, 0, 0, 0), (51, .iload 4, 2, 0, 0, 0, 0), (53, .ifCond .eq 16, 3, 0, 69, 0, 0), (56, .aload_n 0, 1, 0, 0, 0, 0), (57, .iload_n 1, 1, 0, 0, 0, 0), (58, .iload_n 3, 1, 0, 0, 0, 0), (59, .invokevirtual 220, 3, 0, 150, 3, 122), (62, .ifCond .eq 7, 3, 0, 69, 0, 0), (65, .iload_n 3, 1, 0, 0, 0, 0), (66, .goto 4, 3, 0, 70, 0, 0), (69, .iload_n 2, 1, 0, 0, 0, 0), (70, .istore_n 2, 1, 0, 0, 0, 0), (71, .iinc 3 1, 3, 0, 0, 0, 0), (74, .goto (-55), 3, 0, 19, 0, 0), (77, .iload_n 2, 1, 0, 0, 0, 0), (78, .ireturn, 1, 0, 0, 0, 0)]
def zm153 : zMI := (⟨"CommaCopiesModel", "fewest", "(I)I"⟩, prog_12_method_46_code, 5, (Option.some Jvm.ClassFile.FieldType.int), false, 10, (1201, 1199, 1200, 96), zc153)
/-- CommaCopiesModel.isRowThere()Z -/
def zc154 : List zEnt := [(0, .iconst 0, 1, 0, 0, 0, 0), (1, .istore_n 1, 1, 0, 0, 0, 0), (2, .iconst 0, 1, 0, 0, 0, 0), (3, .istore_n 2, 1, 0, 0, 0, 0), (4, .iload_n 2, 1, 0, 0, 0, 0), (5, .aload_n 0, 1, 0, 0, 0, 0), (6, .getfield 114, 3, 1, 10, 12, 134), (9, .iconst 1, 1, 0, 0, 0, 0), (10, .isub, 1, 0, 0, 0, 0), (11, .if_icmp .ge 75, 3, 0, 86, 0, 0), (14, .iconst 1, 1, 0, 0, 0, 0), (15, .istore_n 3, 1, 0, 0, 0, 0), (16, .iconst 0, 1, 0, 0, 0, 0), (17, .istore 4, 2, 0, 0, 0, 0), (19, .iload 4, 2, 0, 0, 0, 0), (21, .aload_n 0, 1, 0, 0, 0, 0), (22, .getfield 104, 3, 1, 10, 4, 124), (25, .if_icmp .ge 41, 3, 0, 66, 0, 0), (28, .iload_n 3, 1, 0, 0, 0, 0), (29, .ifCond .eq 29, 3, 0, 58, 0, 0), (32, .aload_n 0, 1, 0, 0, 0, 0), (33, .getfield 37, 3, 0, 10, 13, 137), (36, .bipush 6, 2, 0, 0, 0, 0), (38, .iload_n 2, 1, 0, 0, 0, 0), (39, .imul, 1, 0, 0, 0, 0), (40, .iload 4, 2, 0, 0, 0, 0), (42, .iadd, 1, 0, 0, 0, 0), (43, .iaload, 1, 0, 0, 0, 0), (44, .aload_n 0, 1, 0, 0, 0, 0), (45, .getfield 56, 3, 0, 10, 22, 143), (48, .iload 4, 2, 0, 0, 0, 0), (50, .iaload, 1, 0, 0, 0, 0), (51, .if_icmp .ne 7, 3, 0, 58, 0, 0), (54, .iconst 1, 1, 0, 0, 0, 0), (55, .goto 4, 3, 0, 59, 0, 0), (58, .iconst 0, 1, 0, 0, 0, 0), (59, .istore_n 3, 1, 0, 0, 0, 0), (60, .iinc 4 1, 3, 0, 0, 0, 0), (63, .goto (-44), 3, 0, 19, 0, 0), (66, .iload_n 1, 1, 0, 0, 0, 0), (67, .ifCond .ne 7, 3, 0, 74, 0, 0), (70, .iload_n 3, 1, 0, 0, 0, 0), (71, .ifCond .eq 7, 3, 0, 78, 0, 0), (74, .iconst 1, 1, 0, 0, 0, 0), (75, .goto 4, 3, 0, 79, 0, 0), (78, .iconst 0, 1, 0, 0, 0, 0), (79, .istore_n 1, 1, 0, 0, 0, 0), (80, .iinc 2 1, 3, 0, 0, 0, 0), (83, .goto (-79), 3, 0, 4, 0, 0), (86, .iload_n 1, 1, 0, 0, 0, 0), (87, .ireturn, 1, 0, 0, 0, 0)]
def zm154 : zMI := (⟨"CommaCopiesModel", "isRowThere", "()Z"⟩, prog_12_method_47_code, 5, (Option.some Jvm.ClassFile.FieldType.boolean), false, 10, (1209, 1208, 80, 96), zc154)
/-- CommaCopiesModel.more(II)I -/
def zc155 : List zEnt := [(0, .iload_n 1, 1, 0, 0, 0, 0), (1, .i2l, 1, 0, 0, 0, 0), (2, .lconst 0, 1, 0, 0, 0, 0), (3, .lconst 1, 1, 0, 0, 0, 0), (4, .invokestatic 88, 3, 0, 110, 3, 97), (7, .ifCond .eq 11, 3, 0, 18, 0, 0), (10, .aload_n 0, 1, 0, 0, 0, 0), (11, .iload_n 2, 1, 0, 0, 0, 0), (12, .invokevirtual 120, 3, 0, 115, 2, 100), (15, .ifCond .ne 5, 3, 0, 20, 0, 0), (18, .iconst (-1), 1, 0, 0, 0, 0), (19, .ireturn, 1, 0, 0, 0, 0), (20, .aload_n 0, 1, 0, 0, 0, 0), (21, .getfield 114, 3, 1, 10, 12, 134), (24, .bipush 8, 2, 0, 0, 0, 0), (26, .if_icmp .ne 6, 3, 0, 32, 0, 0), (29, .bipush (-3), 2, 0, 0, 0, 0), (31, .ireturn, 1, 0, 0, 0, 0), (32, .aload_n 0, 1, 0, 0, 0, 0), (33, .dup, 1, 0, 0, 0, 0), (34, .getfield 114, 3, 1, 10, 12, 134), (37, .iconst 1, 1, 0, 0, 0, 0), (38, .iadd, 1, 0, 0, 0, 0), (39, .putfield 114, 3, 1, 10, 12, 134), (42, .aload_n 0, 1, 0, 0, 0, 0), (43, .invokevirtual 183, 3, 0, 137, 1, 113), (46, .bipush (-4), 2, 0, 0, 0, 0), (48, .istore_n 3, 1, 0, 0, 0, 0), (49, .iconst 1, 1, 0, 0, 0, 0), (50, .istore 4, 2, 0, 0, 0, 0), (52, .iload 4, 2, 0, 0, 0, 0), (54, .ifCond .eq 89, 3, 0, 143, 0, 0), (57, .iload_n 3, 1, 0, 0, 0, 0), (58, .ifCond .ge 85, 3, 0, 143, 0, 0), (61, .iconst 0, 1, 0, 0, 0, 0), (62, .istore 5, 2, 0, 0, 0, 0), (64, .iload 5, 2, 0, 0, 0, 0), (66, .aload_n 0, 1, 0, 0, 0, 0), (67, .getfield 104, 3, 1, 10, 4, 124), (70, .if_icmp .ge 34, 3, 0, 104, 0, 0), (73, .aload_n 0, 1, 0, 0, 0, 0), (74, .getfield 37, 3, 0, 10, 13, 137), (77, .bipush 6, 2, 0, 0, 0, 0), (79, .aload_n 0, 1, 0, 0, 0, 0), (80, .getfield 114, 3, 1, 10, 12, 134), (83, .imul, 1, 0, 0, 0, 0), (84, .bipush 6, 2, 0, 0, 0, 0), (86, .isub, 1, 0, 0, 0, 0), (87, .iload 5, 2, 0, 0, 0, 0), (89, .iadd, 1, 0, 0, 0, 0), (90, .aload_n 0, 1, 0, 0, 0, 0), (91, .getfield 56, 3, 0, 10, 22, 143), (94, .iload 5, 2, 0, 0, 0, 0), (96, .iaload, 1, 0, 0, 0, 0), (97, .iastore, 1, 0, 0, 0, 0), (98, .iinc 5 1, 3, 0, 0, 0, 0), (101, .goto (-37), 3, 0, 64, 0, 0), (104, .aload_n 0, 1, 0, 0, 0, 0), (105, .invokevirtual 223, 3, 0, 154, 1, 123), (108, .ifCond .ne 22, 3, 0, 130, 0, 0), (111, .aload_n 0, 1, 0, 0, 0, 0), (112, .iload_n 1, 1, 0, 0, 0, 0), (113, .bipush 63, 2, 0, 0, 0, 0), (115, .invokevirtual 220, 3, 0, 150, 3, 122), (118, .ifCond .eq 12, 3, 0, 130, 0, 0), (121, .aload_n 0, 1, 0, 0, 0, 0), (122, .getfield 56, 3, 0, 10, 22, 143), (125, .iload_n 2, 1, 0, 0, 0, 0), (126, .iaload, 1, 0, 0, 0, 0), (127, .goto 5, 3, 0, 132, 0, 0), (130, .bipush (-4), 2, 0, 0, 0, 0), (132, .istore_n 3, 1, 0, 0, 0, 0), (133, .aload_n 0, 1, 0, 0, 0, 0), (134, .iconst 0, 1, 0, 0, 0, 0), (135, .invokevirtual 186, 3, 0, 136, 2, 114), (138, .istore 4, 2, 0, 0, 0, 0), (140, .goto (-88), 3, 0, 52, 0, 0), (143, .aload_n 0, 1, 0, 0, 0, 0), (144, .dup, 1, 0, 0, 0, 0), (145, .getfield 114, 3, 1, 10, 12, 134), (148, .iconst 1, 1, 0, 0, 0, 0), (149, .isub, 1, 0, 0, 0, 0), (150, .putfield 114, 3, 1, 10, 12, 134), (153, .iload_n 3, 1, 0, 0, 0, 0), (154, .ireturn, 1, 0, 0, 0, 0)]
def zm155 : zMI := (⟨"CommaCopiesModel", "more", "(II)I"⟩, prog_12_method_48_code, 6, (Option.some Jvm.ClassFile.FieldType.int), false, 10, (1205, 1203, 1204, 96), zc155)
/-- CommaCopiesModel.scoreOf(I[I)I -/
def zc156 : List zEnt := [(0, .iconst 0, 1, 0, 0, 0, 0), (1, .istore_n 3, 1, 0, 0, 0, 0), (2, .iconst 0, 1, 0, 0, 0, 0), (3, .istore 4, 2, 0, 0, 0, 0), (5, .iload 4, 2, 0, 0, 0, 0), (7, .aload_n 0, 1, 0, 0, 0, 0), (8, .getfield 104, 3, 1, 10, 4, 124), (11, .if_icmp .ge 36, 3, 0, 47, 0, 0), (14, .iload_n 3, 1, 0, 0, 0, 0), (15, .aload_n 0, 1, 0, 0, 0, 0), (16, .getfield 37, 3, 0, 10, 13, 137), (19, .bipush 6, 2, 0, 0, 0, 0), (21, .iload_n 1, 1, 0, 0, 0, 0), (22, .imul, 1, 0, 0, 0, 0), (23, .iload 4, 2, 0, 0, 0, 0), (25, .iadd, 1, 0, 0, 0, 0), (26, .iaload, 1, 0, 0, 0, 0), (27, .aload_n 2, 1, 0, 0, 0, 0), (28, .iload 4, 2, 0, 0, 0, 0), (30, .iaload, 1, 0, 0, 0, 0), (31, .if_icmp .ne 7, 3, 0, 38, 0, 0), (34, .iconst 1, 1, 0, 0, 0, 0), (35, .goto 4, 3, 0, 39, 0, 0), (38, .iconst 0, 1, 0, 0, 0, 0), (39, .iadd, 1, 0, 0, 0, 0), (40, .istore_n 3, 1, 0, 0, 0, 0), (41, .iinc 4 1, 3, 0, 0, 0, 0), (44, .goto (-39), 3, 0, 5, 0, 0), (47, .iload_n 3, 1, 0, 0, 0, 0), (48, .ireturn, 1, 0, 0, 0, 0)]
def zm156 : zMI := (⟨"CommaCopiesModel", "scoreOf", "(I[I)I"⟩, prog_12_method_49_code, 5, (Option.some Jvm.ClassFile.FieldType.int), false, 10, (1217, 1216, 81, 96), zc156)
/-- CommaCopiesModel.score(I)I -/
def zc157 : List zEnt := [(0, .aload_n 0, 1, 0, 0, 0, 0), (1, .iload_n 1, 1, 0, 0, 0, 0), (2, .invokevirtual 140, 3, 0, 121, 2, 105), (5, .ifCond .eq 15, 3, 0, 20, 0, 0), (8, .aload_n 0, 1, 0, 0, 0, 0), (9, .iload_n 1, 1, 0, 0, 0, 0), (10, .aload_n 0, 1, 0, 0, 0, 0), (11, .getfield 44, 3, 0, 10, 16, 132), (14, .invokevirtual 227, 3, 0, 156, 3, 124), (17, .goto 4, 3, 0, 21, 0, 0), (20, .iconst (-1), 1, 0, 0, 0, 0), (21, .ireturn, 1, 0, 0, 0, 0)]
def zm157 : zMI := (⟨"CommaCopiesModel", "score", "(I)I"⟩, prog_12_method_50_code, 2, (Option.some Jvm.ClassFile.FieldType.int), false, 10, (1213, 1211, 1212, 96), zc157)
/-- CommaCopiesModel.scores()I -/
def zc158 : List zEnt := [(0, .iconst 0, 1, 0, 0, 0, 0), (1, .istore_n 1, 1, 0, 0, 0, 0), (2, .iload_n 1, 1, 0, 0, 0, 0), (3, .bipush 8, 2, 0, 0, 0, 0), (5, .if_icmp .ge 24, 3, 0, 29, 0, 0), (8, .aload_n 0, 1, 0, 0, 0, 0), (9, .getfield 62, 3, 0, 10, 27, 148), (12, .iload_n 1, 1, 0, 0, 0, 0), (13, .iload_n 1, 1, 0, 0, 0, 0), (14, .ifCond .ne 7, 3, 0, 21, 0, 0), (17, .iconst 1, 1, 0, 0, 0, 0), (18, .goto 4, 3, 0, 22, 0, 0), (21, .iconst 0, 1, 0, 0, 0, 0), (22, .iastore, 1, 0, 0, 0, 0), (23, .iinc 1 1, 3, 0, 0, 0, 0), (26, .goto (-24), 3, 0, 2, 0, 0), (29, .iconst 1, 1, 0, 0, 0, 0), (30, .istore_n 1, 1, 0, 0, 0, 0), (31, .iconst 0, 1, 0, 0, 0, 0), (32, .istore_n 2, 1, 0, 0, 0, 0), (33, .iload_n 2, 1, 0, 0, 0, 0), (34, .aload_n 0, 1, 0, 0, 0, 0), (35, .getfield 104, 3, 1, 10, 4, 124), (38, .if_icmp .ge 93, 3, 0, 131, 0, 0), (41, .aload_n 0, 1, 0, 0, 0, 0), (42, .getfield 44, 3, 0, 10, 16, 132), (45, .iload_n 2, 1, 0, 0, 0, 0), (46, .iaload, 1, 0, 0, 0, 0), (47, .iconst 4, 1, 0, 0, 0, 0), (48, .if_icmp .ge 7, 3, 0, 55, 0, 0), (51, .iconst 1, 1, 0, 0, 0, 0), (52, .goto 4, 3, 0, 56, 0, 0), (55, .iconst 0, 1, 0, 0, 0, 0), (56, .istore_n 3, 1, 0, 0, 0, 0), (57, .bipush 6, 2, 0, 0, 0, 0), (59, .istore 4, 2, 0, 0, 0, 0), (61, .iload 4, 2, 0, 0, 0, 0), (63, .ifCond .lt 53, 3, 0, 116, 0, 0), (66, .aload_n 0, 1, 0, 0, 0, 0), (67, .getfield 62, 3, 0, 10, 27, 148), (70, .iload 4, 2, 0, 0, 0, 0), (72, .aload_n 0, 1, 0, 0, 0, 0), (73, .getfield 62, 3, 0, 10, 27, 148), (76, .iload 4, 2, 0, 0, 0, 0), (78, .iaload, 1, 0, 0, 0, 0), (79, .aload_n 0, 1, 0, 0, 0, 0), (80, .getfield 22, 3, 0, 10, 7, 127), (83, .iload_n 2, 1, 0, 0, 0, 0), (84, .iaload, 1, 0, 0, 0, 0), (85, .iload_n 3, 1, 0, 0, 0, 0), (86, .isub, 1, 0, 0, 0, 0), (87, .imul, 1, 0, 0, 0, 0), (88, .iload 4, 2, 0, 0, 0, 0), (90, .ifCond .le 17, 3, 0, 107, 0, 0), (93, .iload_n 3, 1, 0, 0, 0, 0), (94, .aload_n 0, 1, 0, 0, 0, 0), (95, .getfield 62, 3, 0, 10, 27, 148), (98, .iload 4, 2, 0, 0, 0, 0), (100, .iconst 1, 1, 0, 0, 0, 0), (101, .isub, 1, 0, 0, 0, 0), (102, .iaload, 1, 0, 0, 0, 0), (103, .imul, 1, 0, 0, 0, 0), (104, .goto 4, 3, 0, 108, 0, 0), (107, .iconst 0, 1, 0, 0, 0, 0), (108, .iadd, 1, 0, 0, 0, 0), (109, .iastore, 1, 0, 0, 0, 0), (110, .iinc 4 (-1), 3, 0, 0, 0, 0), (113, .goto (-52), 3, 0, 61, 0, 0), (116, .iload_n 1, 1, 0, 0, 0, 0), (117, .aload_n 0, 1, 0, 0, 0, 0), (118, .getfield 22, 3, 0, 10, 7, 127), (121, .iload_n 2, 1, 0, 0, 0, 0), (122, .iaload, 1, 0, 0, 0, 0), (123, .imul, 1, 0, 0, 0, 0), (124, .istore_n 1, 1, 0, 0, 0, 0), (125, .iinc 2 1, 3, 0, 0, 0, 0), (128, .goto (-95), 3, 0, 33, 0, 0), (131, .iload_n 1, 1, 0, 0, 0, 0), (132, .ireturn, 1, 0, 0, 0, 0)]
def zm158 : zMI := (⟨"CommaCopiesModel", "scores", "()I"⟩, prog_12_method_51_code, 5, (Option.some Jvm.ClassFile.FieldType.int), false, 10, (1226, 1225, 82, 96), zc158)
/-- CommaCopiesModel.above(I)I -/
def zc159 : List zEnt := [(0, .iconst 0, 1, 0, 0, 0, 0), (1, .istore_n 2, 1, 0, 0, 0, 0), (2, .iload_n 1, 1, 0, 0, 0, 0), (3, .istore_n 3, 1, 0, 0, 0, 0), (4, .iload_n 3, 1, 0, 0, 0, 0), (5, .bipush 8, 2, 0, 0, 0, 0), (7, .if_icmp .ge 18, 3, 0, 25, 0, 0), (10, .iload_n 2, 1, 0, 0, 0, 0), (11, .aload_n 0, 1, 0, 0, 0, 0), (12, .getfield 62, 3, 0, 10, 27, 148), (15, .iload_n 3, 1, 0, 0, 0, 0), (16, .iaload, 1, 0, 0, 0, 0), (17, .iadd, 1, 0, 0, 0, 0), (18, .istore_n 2, 1, 0, 0, 0, 0), (19, .iinc 3 1, 3, 0, 0, 0, 0), (22, .goto (-18), 3, 0, 4, 0, 0), (25, .iload_n 2, 1, 0, 0, 0, 0), (26, .ireturn, 1, 0, 0, 0, 0)]
def zm159 : zMI := (⟨"CommaCopiesModel", "above", "(I)I"⟩, prog_12_method_52_code, 4, (Option.some Jvm.ClassFile.FieldType.int), false, 10, (1230, 1229, 83, 96), zc159)
/-- CommaCopiesModel.wrong(II)I -/
def zc160 : List zEnt := [(0, .iload_n 1, 1, 0, 0, 0, 0), (1, .i2l, 1, 0, 0, 0, 0), (2, .lconst 0, 1, 0, 0, 0, 0), (3, .ldc2_w 231, 3, 6, 0, 0, 1222), (6, .invokestatic 88, 3, 0, 110, 3, 97), (9, .ifCond .eq 13, 3, 0, 22, 0, 0), (12, .iload_n 2, 1, 0, 0, 0, 0), (13, .i2l, 1, 0, 0, 0, 0), (14, .lconst 0, 1, 0, 0, 0, 0), (15, .lconst 1, 1, 0, 0, 0, 0), (16, .invokestatic 88, 3, 0, 110, 3, 97), (19, .ifCond .ne 5, 3, 0, 24, 0, 0), (22, .iconst (-1), 1, 0, 0, 0, 0), (23, .ireturn, 1, 0, 0, 0, 0), (24, .aload_n 0, 1, 0, 0, 0, 0), (25, .getfield 101, 3, 1, 10, 2, 123), (28, .ifCond .ne 6, 3, 0, 34, 0, 0), (31, .bipush (-2), 2, 0, 0, 0, 0), (33, .ireturn, 1, 0, 0, 0, 0), (34, .aload_n 0, 1, 0, 0, 0, 0), (35, .invokevirtual 233, 3, 0, 158, 1, 125), (38, .istore_n 3, 1, 0, 0, 0, 0), (39, .aload_n 0, 1, 0, 0, 0, 0), (40, .iload_n 1, 1, 0, 0, 0, 0), (41, .invokevirtual 236, 3, 0, 159, 2, 126), (44, .istore 4, 2, 0, 0, 0, 0), (46, .iload_n 3, 1, 0, 0, 0, 0), (47, .istore 5, 2, 0, 0, 0, 0), (49, .iload 5, 2, 0, 0, 0, 0), (51, .ifCond .eq 21, 3, 0, 72, 0, 0), (54, .iload 4, 2, 0, 0, 0, 0), (56, .iload 5, 2, 0, 0, 0, 0), (58, .irem, 1, 0, 0, 0, 0), (59, .istore 6, 2, 0, 0, 0, 0), (61, .iload 5, 2, 0, 0, 0, 0), (63, .istore 4, 2, 0, 0, 0, 0), (65, .iload 6, 2, 0, 0, 0, 0), (67, .istore 5, 2, 0, 0, 0, 0), (69, .goto (-20), 3, 0, 49, 0, 0), (72, .iload_n 2, 1, 0, 0, 0, 0), (73, .ifCond .ne 14, 3, 0, 87, 0, 0), (76, .aload_n 0, 1, 0, 0, 0, 0), (77, .iload_n 1, 1, 0, 0, 0, 0), (78, .invokevirtual 236, 3, 0, 159, 2, 126), (81, .iload 4, 2, 0, 0, 0, 0), (83, .idiv, 1, 0, 0, 0, 0), (84, .goto 7, 3, 0, 91, 0, 0), (87, .iload_n 3, 1, 0, 0, 0, 0), (88, .iload 4, 2, 0, 0, 0, 0), (90, .idiv, 1, 0, 0, 0, 0), (91, .ireturn, 1, 0, 0, 0, 0)]
def zm160 : zMI := (⟨"CommaCopiesModel", "wrong", "(II)I"⟩, prog_12_method_53_code, 7, (Option.some Jvm.ClassFile.FieldType.int), false, 10, (1221, 1219, 1220, 96), zc160)
/-- CommaCopiesModel.bar(I)I -/
def zc161 : List zEnt := [(0, .iload_n 1, 1, 0, 0, 0, 0), (1, .i2l, 1, 0, 0, 0, 0), (2, .lconst 1, 1, 0, 0, 0, 0), (3, .ldc2_w 239, 3, 9999, 0, 0, 1235), (6, .invokestatic 88, 3, 0, 110, 3, 97), (9, .ifCond .ne 5, 3, 0, 14, 0, 0), (12, .iconst (-1), 1, 0, 0, 0, 0), (13, .ireturn, 1, 0, 0, 0, 0), (14, .aload_n 0, 1, 0, 0, 0, 0), (15, .getfield 101, 3, 1, 10, 2, 123), (18, .ifCond .ne 6, 3, 0, 24, 0, 0), (21, .bipush (-2), 2, 0, 0, 0, 0), (23, .ireturn, 1, 0, 0, 0, 0), (24, .aload_n 0, 1, 0, 0, 0, 0), (25, .invokevirtual 233, 3, 0, 158, 1, 125), (28, .istore_n 2, 1, 0, 0, 0, 0), (29, .iconst 0, 1, 0, 0, 0, 0), (30, .istore_n 3, 1, 0, 0, 0, 0), (31, .iload_n 3, 1, 0, 0, 0, 0), (32, .bipush 7, 2, 0, 0, 0, 0), (34, .if_icmp .ge 26, 3, 0, 60, 0, 0), (37, .aload_n 0, 1, 0, 0, 0, 0), (38, .iload_n 3, 1, 0, 0, 0, 0), (39, .invokevirtual 236, 3, 0, 159, 2, 126), (42, .i2l, 1, 0, 0, 0, 0), (43, .iload_n 1, 1, 0, 0, 0, 0), (44, .i2l, 1, 0, 0, 0, 0), (45, .lmul, 1, 0, 0, 0, 0), (46, .iload_n 2, 1, 0, 0, 0, 0), (47, .i2l, 1, 0, 0, 0, 0), (48, .lcmp, 1, 0, 0, 0, 0), (49, .ifCond .gt 5, 3, 0, 54, 0, 0), (52, .iload_n 3, 1, 0, 0, 0, 0), (53, .ireturn, 1, 0, 0, 0, 0), (54, .iinc 3 1, 3, 0, 0, 0, 0), (57, .goto (-26), 3, 0, 31, 0, 0), (60, .bipush (-4), 2, 0, 0, 0, 0), (62, .ireturn, 1, 0, 0, 0, 0)]
def zm161 : zMI := (⟨"CommaCopiesModel", "bar", "(I)I"⟩, prog_12_method_54_code, 4, (Option.some Jvm.ClassFile.FieldType.int), false, 10, (1234, 1232, 1233, 96), zc161)
/-- CommaCopiesModel.puts(I)V -/
def zc162 : List zEnt := [(0, .aload_n 0, 1, 0, 0, 0, 0), (1, .getfield 22, 3, 0, 10, 7, 127), (4, .iload_n 1, 1, 0, 0, 0, 0), (5, .iaload, 1, 0, 0, 0, 0), (6, .istore_n 2, 1, 0, 0, 0, 0), (7, .ldc 241, 2, 1000000, 0, 0, 1244), (9, .istore_n 3, 1, 0, 0, 0, 0), (10, .iconst 0, 1, 0, 0, 0, 0), (11, .istore 4, 2, 0, 0, 0, 0), (13, .iconst 0, 1, 0, 0, 0, 0), (14, .istore 5, 2, 0, 0, 0, 0), (16, .iload 5, 2, 0, 0, 0, 0), (18, .sipush 256, 3, 0, 0, 0, 0), (21, .if_icmp .ge 205, 3, 0, 226, 0, 0), (24, .iconst 0, 1, 0, 0, 0, 0), (25, .istore 6, 2, 0, 0, 0, 0), (27, .iconst 0, 1, 0, 0, 0, 0), (28, .istore 7, 2, 0, 0, 0, 0), (30, .iconst 1, 1, 0, 0, 0, 0), (31, .istore 8, 2, 0, 0, 0, 0), (33, .iconst 0, 1, 0, 0, 0, 0), (34, .istore 9, 2, 0, 0, 0, 0), (36, .iload 9, 2, 0, 0, 0, 0), (38, .iconst 4, 1, 0, 0, 0, 0), (39, .if_icmp .ge 84, 3, 0, 123, 0, 0), (42, .iload 5, 2, 0, 0, 0, 0), (44, .bipush 6, 2, 0, 0, 0, 0), (46, .iconst 2, 1, 0, 0, 0, 0), (47, .iload 9, 2, 0, 0, 0, 0), (49, .imul, 1, 0, 0, 0, 0), (50, .isub, 1, 0, 0, 0, 0), (51, .ishr, 1, 0, 0, 0, 0), (52, .iconst 3, 1, 0, 0, 0, 0), (53, .iand, 1, 0, 0, 0, 0), (54, .istore 10, 2, 0, 0, 0, 0), (56, .iload 8, 2, 0, 0, 0, 0), (58, .ifCond .eq 37, 3, 0, 95, 0, 0), (61, .iload 9, 2, 0, 0, 0, 0), (63, .iload_n 2, 1, 0, 0, 0, 0), (64, .if_icmp .ge 22, 3, 0, 86, 0, 0), (67, .iload 10, 2, 0, 0, 0, 0), (69, .iload_n 2, 1, 0, 0, 0, 0), (70, .if_icmp .ge 25, 3, 0, 95, 0, 0), (73, .iload 6, 2, 0, 0, 0, 0), (75, .iload 10, 2, 0, 0, 0, 0), (77, .ishr, 1, 0, 0, 0, 0), (78, .iconst 1, 1, 0, 0, 0, 0), (79, .iand, 1, 0, 0, 0, 0), (80, .ifCond .ne 15, 3, 0, 95, 0, 0), (83, .goto 8, 3, 0, 91, 0, 0), (86, .iload 10, 2, 0, 0, 0, 0), (88, .ifCond .ne 7, 3, 0, 95, 0, 0), (91, .iconst 1, 1, 0, 0, 0, 0), (92, .goto 4, 3, 0, 96, 0, 0), (95, .iconst 0, 1, 0, 0, 0, 0), (96, .istore 8, 2, 0, 0, 0, 0), (98, .iload 6, 2, 0, 0, 0, 0), (100, .iload 9, 2, 0, 0, 0, 0), (102, .iload_n 2, 1, 0, 0, 0, 0), (103, .if_icmp .ge 10, 3, 0, 113, 0, 0), (106, .iconst 1, 1, 0, 0, 0, 0), (107, .iload 10, 2, 0, 0, 0, 0), (109, .ishl, 1, 0, 0, 0, 0), (110, .goto 4, 3, 0, 114, 0, 0), (113, .iconst 0, 1, 0, 0, 0, 0), (114, .ior, 1, 0, 0, 0, 0), (115, .istore 6, 2, 0, 0, 0, 0), (117, .iinc 9 1, 3, 0, 0, 0, 0), (120, .goto (-84), 3, 0, 36, 0, 0), (123, .iconst 0, 1, 0, 0, 0, 0), (124, .istore 9, 2, 0, 0, 0, 0), (126, .iload 9, 2, 0, 0, 0, 0), (128, .aload_n 0, 1, 0, 0, 0, 0), (129, .getfield 114, 3, 1, 10, 12, 134), (132, .if_icmp .ge 50, 3, 0, 182, 0, 0), (135, .iload 8, 2, 0, 0, 0, 0), (137, .ifCond .eq 45, 3, 0, 182, 0, 0), (140, .iload 7, 2, 0, 0, 0, 0), (142, .aload_n 0, 1, 0, 0, 0, 0), (143, .getfield 31, 3, 0, 10, 10, 131), (146, .iconst 4, 1, 0, 0, 0, 0), (147, .iload_n 1, 1, 0, 0, 0, 0), (148, .imul, 1, 0, 0, 0, 0), (149, .iload 5, 2, 0, 0, 0, 0), (151, .bipush 6, 2, 0, 0, 0, 0), (153, .iconst 2, 1, 0, 0, 0, 0), (154, .aload_n 0, 1, 0, 0, 0, 0), (155, .getfield 37, 3, 0, 10, 13, 137), (158, .bipush 6, 2, 0, 0, 0, 0), (160, .iload 9, 2, 0, 0, 0, 0), (162, .imul, 1, 0, 0, 0, 0), (163, .iload_n 1, 1, 0, 0, 0, 0), (164, .iadd, 1, 0, 0, 0, 0), (165, .iaload, 1, 0, 0, 0, 0), (166, .imul, 1, 0, 0, 0, 0), (167, .isub, 1, 0, 0, 0, 0), (168, .ishr, 1, 0, 0, 0, 0), (169, .iconst 3, 1, 0, 0, 0, 0), (170, .iand, 1, 0, 0, 0, 0), (171, .iadd, 1, 0, 0, 0, 0), (172, .iaload, 1, 0, 0, 0, 0), (173, .iadd, 1, 0, 0, 0, 0), (174, .istore 7, 2, 0, 0, 0, 0), (176, .iinc 9 1, 3, 0, 0, 0, 0), (179, .goto (-53), 3, 0, 126, 0, 0), (182, .iload 8, 2, 0, 0, 0, 0), (184, .ifCond .eq 14, 3, 0, 198, 0, 0), (187, .iload 7, 2, 0, 0, 0, 0), (189, .iload_n 3, 1, 0, 0, 0, 0), (190, .if_icmp .ge 8, 3, 0, 198, 0, 0), (193, .iload 5, 2, 0, 0, 0, 0), (195, .goto 5, 3, 0, 200, 0, 0), (198, .iload 4, 2, 0, 0, 0, 0), (200, .istore 4, 2, 0, 0, 0, 0), (202, .iload 8, 2, 0, 0, 0, 0), (204, .ifCond .eq 14, 3, 0, 218, 0, 0), (207, .iload 7, 2, 0, 0, 0, 0), (209, .iload_n 3, 1, 0, 0, 0, 0), (210, .if_icmp .ge 8, 3, 0, 218, 0, 0), (213, .iload 7, 2, 0, 0, 0, 0), (215, .goto 4, 3, 0, 219, 0, 0), (218, .iload_n 3, 1, 0, 0, 0, 0), (219, .istore_n 3, 1, 0, 0, 0, 0), (220, .iinc 5 1, 3, 0, 0, 0, 0), (223, .goto (-207), 3, 0, 16, 0, 0), (226, .iconst 0, 1, 0, 0, 0, 0), (227, .istore 5, 2, 0, 0, 0, 0), (229, .iload 5, 2, 0, 0, 0, 0), (231, .iconst 4, 1, 0, 0, 0, 0), (232, .if_icmp .ge 28, 3, 0, 260, 0, 0), (235, .aload_n 0, 1, 0, 0, 0, 0), (236, .getfield 65, 3, 0, 10, 28, 149), (239, .iload 5, 2, 0, 0, 0, 0), (241, .iload 4, 2, 0, 0, 0, 0), (243, .bipush 6, 2, 0, 0, 0, 0), (245, .iconst 2, 1, 0, 0, 0, 0), (246, .iload 5, 2, 0, 0, 0, 0), (248, .imul, 1, 0, 0, 0, 0), (249, .isub, 1, 0, 0, 0, 0), (250, .ishr, 1, 0, 0, 0, 0), (251, .iconst 3, 1, 0, 0, 0, 0), (252, .iand, 1, 0, 0, 0, 0), (253, .iastore, 1, 0, 0, 0, 0), (254, .iinc 5 1, 3, 0, 0, 0, 0), (257, .goto (-28), 3, 0, 229, 0, 0), (260, .return_, 1, 0, 0, 0, 0)]
def zm162 : zMI := (⟨"CommaCopiesModel", "puts", "(I)V"⟩, prog_12_method_55_code, 11, (Option.none : Option Jvm.ClassFile.FieldType), false, 10, (1243, 1242, 84, 96), zc162)
/-- CommaCopiesModel.put(II)I -/
def zc163 : List zEnt := [(0, .aload_n 0, 1, 0, 0, 0, 0), (1, .iload_n 1, 1, 0, 0, 0, 0), (2, .iload_n 2, 1, 0, 0, 0, 0), (3, .invokevirtual 124, 3, 0, 116, 3, 101), (6, .ifCond .ne 5, 3, 0, 11, 0, 0), (9, .iconst (-1), 1, 0, 0, 0, 0), (10, .ireturn, 1, 0, 0, 0, 0), (11, .aload_n 0, 1, 0, 0, 0, 0), (12, .iload_n 1, 1, 0, 0, 0, 0), (13, .invokevirtual 242, 3, 0, 162, 2, 127), (16, .aload_n 0, 1, 0, 0, 0, 0), (17, .getfield 65, 3, 0, 10, 28, 149), (20, .iload_n 2, 1, 0, 0, 0, 0), (21, .iaload, 1, 0, 0, 0, 0), (22, .ireturn, 1, 0, 0, 0, 0)]
def zm163 : zMI := (⟨"CommaCopiesModel", "put", "(II)I"⟩, prog_12_method_56_code, 3, (Option.some Jvm.ClassFile.FieldType.int), false, 10, (1239, 1237, 1238, 96), zc163)
/-- CommaCopiesModel.putAll()I -/
def zc164 : List zEnt := [(0, .aload_n 0, 1, 0, 0, 0, 0), (1, .getfield 101, 3, 1, 10, 2, 123), (4, .ifCond .ne 6, 3, 0, 10, 0, 0), (7, .bipush (-2), 2, 0, 0, 0, 0), (9, .ireturn, 1, 0, 0, 0, 0), (10, .iconst 0, 1, 0, 0, 0, 0), (11, .istore_n 1, 1, 0, 0, 0, 0), (12, .iload_n 1, 1, 0, 0, 0, 0), (13, .aload_n 0, 1, 0, 0, 0, 0), (14, .getfield 104, 3, 1, 10, 4, 124), (17, .if_icmp .ge 57, 3, 0, 74, 0, 0), (20, .aload_n 0, 1, 0, 0, 0, 0), (21, .iload_n 1, 1, 0, 0, 0, 0), (22, .invokevirtual 242, 3, 0, 162, 2, 127), (25, .iconst 0, 1, 0, 0, 0, 0), (26, .istore_n 2, 1, 0, 0, 0, 0), (27, .iload_n 2, 1, 0, 0, 0, 0), (28, .aload_n 0, 1, 0, 0, 0, 0), (29, .getfield 114, 3, 1, 10, 12, 134), (32, .if_icmp .ge 36, 3, 0, 68, 0, 0), (35, .aload_n 0, 1, 0, 0, 0, 0), (36, .getfield 37, 3, 0, 10, 13, 137), (39, .bipush 6, 2, 0, 0, 0, 0), (41, .iload_n 2, 1, 0, 0, 0, 0), (42, .imul, 1, 0, 0, 0, 0), (43, .iload_n 1, 1, 0, 0, 0, 0), (44, .iadd, 1, 0, 0, 0, 0), (45, .aload_n 0, 1, 0, 0, 0, 0), (46, .getfield 65, 3, 0, 10, 28, 149), (49, .aload_n 0, 1, 0, 0, 0, 0), (50, .getfield 37, 3, 0, 10, 13, 137), (53, .bipush 6, 2, 0, 0, 0, 0), (55, .iload_n 2, 1, 0, 0, 0, 0), (56, .imul, 1, 0, 0, 0, 0), (57, .iload_n 1, 1, 0, 0, 0, 0), (58, .iadd, 1, 0, 0, 0, 0), (59, .iaload, 1, 0, 0, 0, 0), (60, .iaload, 1, 0, 0, 0, 0), (61, .iastore, 1, 0, 0, 0, 0), (62, .iinc 2 1, 3, 0, 0, 0, 0), (65, .goto (-38), 3, 0, 27, 0, 0), (68, .iinc 1 1, 3, 0, 0, 0, 0), (71, .goto (-59), 3, 0, 12, 0, 0), (74, .iconst 0, 1, 0, 0, 0, 0), (75, .istore_n 1, 1, 0, 0, 0, 0), (76, .iconst 0, 1, 0, 0, 0, 0), (77, .istore_n 2, 1, 0, 0, 0, 0), (78, .iload_n 2, 1, 0, 0, 0, 0), (79, .aload_n 0, 1, 0, 0, 0, 0), (80, .getfield 114, 3, 1, 10, 12, 134), (83, .if_icmp .ge 17, 3, 0, 100, 0, 0), (86, .iload_n 1, 1, 0, 0, 0, 0), (87, .aload_n 0, 1, 0, 0, 0, 0), (88, .iload_n 2, 1, 0, 0, 0, 0), (89, .invokevirtual 147, 3, 0, 126, 2, 107), (92, .iadd, 1, 0, 0, 0, 0), (93, .istore_n 1, 1, 0, 0, 0, 0), (94, .iinc 2 1, 3, 0, 0, 0, 0), (97, .goto (-19), 3, 0, 78, 0, 0), (100, .iload_n 1, 1, 0, 0, 0, 0), (101, .ireturn, 1, 0, 0, 0, 0)]
def zm164 : zMI := (⟨"CommaCopiesModel", "putAll", "()I"⟩, prog_12_method_57_code, 3, (Option.some Jvm.ClassFile.FieldType.int), false, 10, (1248, 1246, 1247, 96), zc164)
/-- CommaCopiesModel.hidden(II)I -/
def zc165 : List zEnt := [(0, .aload_n 0, 1, 0, 0, 0, 0), (1, .iload_n 1, 1, 0, 0, 0, 0), (2, .invokevirtual 190, 3, 0, 139, 2, 115), (5, .ifCond .eq 21, 3, 0, 26, 0, 0), (8, .iload_n 2, 1, 0, 0, 0, 0), (9, .i2l, 1, 0, 0, 0, 0), (10, .ldc2_w 245, 3, -1, 0, 0, 1253), (13, .aload_n 0, 1, 0, 0, 0, 0), (14, .getfield 104, 3, 1, 10, 4, 124), (17, .iconst 1, 1, 0, 0, 0, 0), (18, .isub, 1, 0, 0, 0, 0), (19, .i2l, 1, 0, 0, 0, 0), (20, .invokestatic 88, 3, 0, 110, 3, 97), (23, .ifCond .ne 5, 3, 0, 28, 0, 0), (26, .iconst (-1), 1, 0, 0, 0, 0), (27, .ireturn, 1, 0, 0, 0, 0), (28, .bipush 100, 2, 0, 0, 0, 0), (30, .istore_n 3, 1, 0, 0, 0, 0), (31, .aload_n 0, 1, 0, 0, 0, 0), (32, .invokevirtual 183, 3, 0, 137, 1, 113), (35, .iconst 1, 1, 0, 0, 0, 0), (36, .istore 4, 2, 0, 0, 0, 0), (38, .iload 4, 2, 0, 0, 0, 0), (40, .ifCond .eq 156, 3, 0, 196, 0, 0), (43, .aload_n 0, 1, 0, 0, 0, 0), (44, .iload_n 1, 1, 0, 0, 0, 0), (45, .aload_n 0, 1, 0, 0, 0, 0), (46, .getfield 56, 3, 0, 10, 22, 143), (49, .iconst 0, 1, 0, 0, 0, 0), (50, .aload_n 0, 1, 0, 0, 0, 0), (51, .getfield 155, 3, 1, 10, 15, 140), (54, .invokevirtual 172, 3, 0, 131, 5, 111), (57, .ifCond .eq 7, 3, 0, 64, 0, 0), (60, .iconst 0, 1, 0, 0, 0, 0), (61, .goto 5, 3, 0, 66, 0, 0), (64, .bipush 100, 2, 0, 0, 0, 0), (66, .istore 5, 2, 0, 0, 0, 0), (68, .iconst 0, 1, 0, 0, 0, 0), (69, .istore 6, 2, 0, 0, 0, 0), (71, .iload 6, 2, 0, 0, 0, 0), (73, .aload_n 0, 1, 0, 0, 0, 0), (74, .getfield 114, 3, 1, 10, 12, 134), (77, .if_icmp .ge 58, 3, 0, 135, 0, 0), (80, .iload 5, 2, 0, 0, 0, 0), (82, .bipush 100, 2, 0, 0, 0, 0), (84, .if_icmp .ge 51, 3, 0, 135, 0, 0), (87, .iload_n 1, 1, 0, 0, 0, 0), (88, .iload 6, 2, 0, 0, 0, 0), (90, .ishr, 1, 0, 0, 0, 0), (91, .iconst 1, 1, 0, 0, 0, 0), (92, .iand, 1, 0, 0, 0, 0), (93, .iconst 1, 1, 0, 0, 0, 0), (94, .if_icmp .ne 16, 3, 0, 110, 0, 0), (97, .aload_n 0, 1, 0, 0, 0, 0), (98, .iload 6, 2, 0, 0, 0, 0), (100, .aload_n 0, 1, 0, 0, 0, 0), (101, .getfield 56, 3, 0, 10, 22, 143), (104, .invokevirtual 227, 3, 0, 156, 3, 124), (107, .goto 4, 3, 0, 111, 0, 0), (110, .iconst 0, 1, 0, 0, 0, 0), (111, .istore 7, 2, 0, 0, 0, 0), (113, .iload 7, 2, 0, 0, 0, 0), (115, .iload 5, 2, 0, 0, 0, 0), (117, .if_icmp .le 8, 3, 0, 125, 0, 0), (120, .iload 7, 2, 0, 0, 0, 0), (122, .goto 5, 3, 0, 127, 0, 0), (125, .iload 5, 2, 0, 0, 0, 0), (127, .istore 5, 2, 0, 0, 0, 0), (129, .iinc 6 1, 3, 0, 0, 0, 0), (132, .goto (-61), 3, 0, 71, 0, 0), (135, .iconst 0, 1, 0, 0, 0, 0), (136, .istore 6, 2, 0, 0, 0, 0), (138, .iload 6, 2, 0, 0, 0, 0), (140, .aload_n 0, 1, 0, 0, 0, 0), (141, .getfield 104, 3, 1, 10, 4, 124), (144, .if_icmp .ge 29, 3, 0, 173, 0, 0), (147, .iload 5, 2, 0, 0, 0, 0), (149, .iload_n 3, 1, 0, 0, 0, 0), (150, .if_icmp .ge 23, 3, 0, 173, 0, 0), (153, .aload_n 0, 1, 0, 0, 0, 0), (154, .getfield 68, 3, 0, 10, 29, 150), (157, .iload 6, 2, 0, 0, 0, 0), (159, .aload_n 0, 1, 0, 0, 0, 0), (160, .getfield 56, 3, 0, 10, 22, 143), (163, .iload 6, 2, 0, 0, 0, 0), (165, .iaload, 1, 0, 0, 0, 0), (166, .iastore, 1, 0, 0, 0, 0), (167, .iinc 6 1, 3, 0, 0, 0, 0), (170, .goto (-32), 3, 0, 138, 0, 0), (173, .iload 5, 2, 0, 0, 0, 0), (175, .iload_n 3, 1, 0, 0, 0, 0), (176, .if_icmp .ge 8, 3, 0, 184, 0, 0), (179, .iload 5, 2, 0, 0, 0, 0), (181, .goto 4, 3, 0, 185, 0, 0), (184, .iload_n 3, 1, 0, 0, 0, 0), (185, .istore_n 3, 1, 0, 0, 0, 0), (186, .aload_n 0, 1, 0, 0, 0, 0), (187, .iconst 1, 1, 0, 0, 0, 0), (188, .invokevirtual 186, 3, 0, 136, 2, 114), (191, .istore 4, 2, 0, 0, 0, 0), (193, .goto (-155), 3, 0, 38, 0, 0), (196, .iload_n 2, 1, 0, 0, 0, 0), (197, .ifCond .ge 7, 3, 0, 204, 0, 0), (200, .iload_n 3, 1, 0, 0, 0, 0), (201, .goto 9, 3, 0, 210, 0, 0), (204, .aload_n 0, 1, 0, 0, 0, 0), (205, .getfield 68, 3, 0, 10, 29, 150), (208, .iload_n 2, 1, 0, 0, 0, 0), (209, .iaload, 1, 0, 0, 0, 0), (210, .ireturn, 1, 0, 0, 0, 0)]
def zm165 : zMI := (⟨"CommaCopiesModel", "hidden", "(II)I"⟩, prog_12_method_58_code, 8, (Option.some Jvm.ClassFile.FieldType.int), false, 10, (1252, 1250, 1251, 96), zc165)
/-- CommaCopiesModel.keep()I -/
def zc166 : List zEnt := [(0, .aload_n 0, 1, 0, 0, 0, 0), (1, .getfield 101, 3, 1, 10, 2, 123), (4, .ifCond .ne 6, 3, 0, 10, 0, 0), (7, .bipush (-2), 2, 0, 0, 0, 0), (9, .ireturn, 1, 0, 0, 0, 0), (10, .aload_n 0, 1, 0, 0, 0, 0), (11, .getfield 117, 3, 1, 10, 17, 135), (14, .bipush 6, 2, 0, 0, 0, 0), (16, .if_icmp .ne 6, 3, 0, 22, 0, 0), (19, .bipush (-3), 2, 0, 0, 0, 0), (21, .ireturn, 1, 0, 0, 0, 0), (22, .iconst 0, 1, 0, 0, 0, 0), (23, .istore_n 1, 1, 0, 0, 0, 0), (24, .iload_n 1, 1, 0, 0, 0, 0), (25, .bipush 6, 2, 0, 0, 0, 0), (27, .if_icmp .ge 29, 3, 0, 56, 0, 0), (30, .aload_n 0, 1, 0, 0, 0, 0), (31, .getfield 47, 3, 0, 10, 18, 151), (34, .bipush 8, 2, 0, 0, 0, 0), (36, .aload_n 0, 1, 0, 0, 0, 0), (37, .getfield 117, 3, 1, 10, 17, 135), (40, .imul, 1, 0, 0, 0, 0), (41, .iload_n 1, 1, 0, 0, 0, 0), (42, .iadd, 1, 0, 0, 0, 0), (43, .aload_n 0, 1, 0, 0, 0, 0), (44, .getfield 44, 3, 0, 10, 16, 132), (47, .iload_n 1, 1, 0, 0, 0, 0), (48, .iaload, 1, 0, 0, 0, 0), (49, .iastore, 1, 0, 0, 0, 0), (50, .iinc 1 1, 3, 0, 0, 0, 0), (53, .goto (-29), 3, 0, 24, 0, 0), (56, .aload_n 0, 1, 0, 0, 0, 0), (57, .getfield 47, 3, 0, 10, 18, 151), (60, .bipush 8, 2, 0, 0, 0, 0), (62, .aload_n 0, 1, 0, 0, 0, 0), (63, .getfield 117, 3, 1, 10, 17, 135), (66, .imul, 1, 0, 0, 0, 0), (67, .bipush 6, 2, 0, 0, 0, 0), (69, .iadd, 1, 0, 0, 0, 0), (70, .aload_n 0, 1, 0, 0, 0, 0), (71, .getfield 40, 3, 1, 10, 14, 139), (74, .iastore, 1, 0, 0, 0, 0), (75, .aload_n 0, 1, 0, 0, 0, 0), (76, .getfield 47, 3, 0, 10, 18, 151), (79, .bipush 8, 2, 0, 0, 0, 0), (81, .aload_n 0, 1, 0, 0, 0, 0), (82, .getfield 117, 3, 1, 10, 17, 135), (85, .imul, 1, 0, 0, 0, 0), (86, .bipush 7, 2, 0, 0, 0, 0), (88, .iadd, 1, 0, 0, 0, 0), (89, .aload_n 0, 1, 0, 0, 0, 0), (90, .getfield 155, 3, 1, 10, 15, 140), (93, .iastore, 1, 0, 0, 0, 0), (94, .aload_n 0, 1, 0, 0, 0, 0), (95, .dup, 1, 0, 0, 0, 0), (96, .getfield 117, 3, 1, 10, 17, 135), (99, .iconst 1, 1, 0, 0, 0, 0), (100, .iadd, 1, 0, 0, 0, 0), (101, .putfield 117, 3, 1, 10, 17, 135), (104, .aload_n 0, 1, 0, 0, 0, 0), (105, .getfield 117, 3, 1, 10, 17, 135), (108, .iconst 1, 1, 0, 0, 0, 0), (109, .isub, 1, 0, 0, 0, 0), (110, .ireturn, 1, 0, 0, 0, 0)]
def zm166 : zMI := (⟨"CommaCopiesModel", "keep", "()I"⟩, prog_12_method_59_code, 2, (Option.some Jvm.ClassFile.FieldType.int), false, 10, (1257, 1255, 1256, 96), zc166)
/-- CommaCopiesModel.past(II)I -/
def zc167 : List zEnt := [(0, .aload_n 0, 1, 0, 0, 0, 0), (1, .iload_n 1, 1, 0, 0, 0, 0), (2, .invokevirtual 140, 3, 0, 121, 2, 105), (5, .ifCond .eq 13, 3, 0, 18, 0, 0), (8, .iload_n 2, 1, 0, 0, 0, 0), (9, .i2l, 1, 0, 0, 0, 0), (10, .lconst 0, 1, 0, 0, 0, 0), (11, .lconst 1, 1, 0, 0, 0, 0), (12, .invokestatic 88, 3, 0, 110, 3, 97), (15, .ifCond .ne 5, 3, 0, 20, 0, 0), (18, .iconst (-1), 1, 0, 0, 0, 0), (19, .ireturn, 1, 0, 0, 0, 0), (20, .iconst 0, 1, 0, 0, 0, 0), (21, .istore_n 3, 1, 0, 0, 0, 0), (22, .iconst 0, 1, 0, 0, 0, 0), (23, .istore 4, 2, 0, 0, 0, 0), (25, .iload 4, 2, 0, 0, 0, 0), (27, .aload_n 0, 1, 0, 0, 0, 0), (28, .getfield 117, 3, 1, 10, 17, 135), (31, .if_icmp .ge 64, 3, 0, 95, 0, 0), (34, .aload_n 0, 1, 0, 0, 0, 0), (35, .aload_n 0, 1, 0, 0, 0, 0), (36, .getfield 47, 3, 0, 10, 18, 151), (39, .bipush 8, 2, 0, 0, 0, 0), (41, .iload 4, 2, 0, 0, 0, 0), (43, .imul, 1, 0, 0, 0, 0), (44, .aload_n 0, 1, 0, 0, 0, 0), (45, .getfield 47, 3, 0, 10, 18, 151), (48, .bipush 8, 2, 0, 0, 0, 0), (50, .iload 4, 2, 0, 0, 0, 0), (52, .imul, 1, 0, 0, 0, 0), (53, .bipush 6, 2, 0, 0, 0, 0), (55, .iadd, 1, 0, 0, 0, 0), (56, .iaload, 1, 0, 0, 0, 0), (57, .aload_n 0, 1, 0, 0, 0, 0), (58, .getfield 47, 3, 0, 10, 18, 151), (61, .bipush 8, 2, 0, 0, 0, 0), (63, .iload 4, 2, 0, 0, 0, 0), (65, .imul, 1, 0, 0, 0, 0), (66, .bipush 7, 2, 0, 0, 0, 0), (68, .iadd, 1, 0, 0, 0, 0), (69, .iaload, 1, 0, 0, 0, 0), (70, .invokevirtual 177, 3, 0, 133, 5, 112), (73, .istore 5, 2, 0, 0, 0, 0), (75, .iload_n 3, 1, 0, 0, 0, 0), (76, .iload 5, 2, 0, 0, 0, 0), (78, .iload_n 1, 1, 0, 0, 0, 0), (79, .bipush 8, 2, 0, 0, 0, 0), (81, .iload_n 2, 1, 0, 0, 0, 0), (82, .imul, 1, 0, 0, 0, 0), (83, .iadd, 1, 0, 0, 0, 0), (84, .ishr, 1, 0, 0, 0, 0), (85, .iconst 1, 1, 0, 0, 0, 0), (86, .iand, 1, 0, 0, 0, 0), (87, .iadd, 1, 0, 0, 0, 0), (88, .istore_n 3, 1, 0, 0, 0, 0), (89, .iinc 4 1, 3, 0, 0, 0, 0), (92, .goto (-67), 3, 0, 25, 0, 0), (95, .iload_n 3, 1, 0, 0, 0, 0), (96, .ireturn, 1, 0, 0, 0, 0)]
def zm167 : zMI := (⟨"CommaCopiesModel", "past", "(II)I"⟩, prog_12_method_60_code, 6, (Option.some Jvm.ClassFile.FieldType.int), false, 10, (1261, 1259, 1260, 96), zc167)
/-- CommaCopiesModel.saves([I[II)I -/
def zc168 : List zEnt := [(0, .iconst 0, 1, 0, 0, 0, 0), (1, .istore_n 3, 1, 0, 0, 0, 0), (2, .iload_n 3, 1, 0, 0, 0, 0), (3, .aload_n 0, 1, 0, 0, 0, 0), (4, .arraylength, 1, 0, 0, 0, 0), (5, .if_icmp .ge 17, 3, 0, 22, 0, 0), (8, .aload_n 1, 1, 0, 0, 0, 0), (9, .iload_n 2, 1, 0, 0, 0, 0), (10, .iload_n 3, 1, 0, 0, 0, 0), (11, .iadd, 1, 0, 0, 0, 0), (12, .aload_n 0, 1, 0, 0, 0, 0), (13, .iload_n 3, 1, 0, 0, 0, 0), (14, .iaload, 1, 0, 0, 0, 0), (15, .iastore, 1, 0, 0, 0, 0), (16, .iinc 3 1, 3, 0, 0, 0, 0), (19, .goto (-17), 3, 0, 2, 0, 0), (22, .iload_n 2, 1, 0, 0, 0, 0), (23, .aload_n 0, 1, 0, 0, 0, 0), (24, .arraylength, 1, 0, 0, 0, 0), (25, .iadd, 1, 0, 0, 0, 0), (26, .ireturn, 1, 0, 0, 0, 0)]
def zm168 : zMI := (⟨"CommaCopiesModel", "saves", "([I[II)I"⟩, prog_12_method_61_code, 4, (Option.some Jvm.ClassFile.FieldType.int), true, 10, (1268, 1267, 0, 96), zc168)
/-- CommaCopiesModel.gives([II[I)I -/
def zc169 : List zEnt := [(0, .iconst 0, 1, 0, 0, 0, 0), (1, .istore_n 3, 1, 0, 0, 0, 0), (2, .iload_n 3, 1, 0, 0, 0, 0), (3, .aload_n 2, 1, 0, 0, 0, 0), (4, .arraylength, 1, 0, 0, 0, 0), (5, .if_icmp .ge 17, 3, 0, 22, 0, 0), (8, .aload_n 2, 1, 0, 0, 0, 0), (9, .iload_n 3, 1, 0, 0, 0, 0), (10, .aload_n 0, 1, 0, 0, 0, 0), (11, .iload_n 1, 1, 0, 0, 0, 0), (12, .iload_n 3, 1, 0, 0, 0, 0), (13, .iadd, 1, 0, 0, 0, 0), (14, .iaload, 1, 0, 0, 0, 0), (15, .iastore, 1, 0, 0, 0, 0), (16, .iinc 3 1, 3, 0, 0, 0, 0), (19, .goto (-17), 3, 0, 2, 0, 0), (22, .iload_n 1, 1, 0, 0, 0, 0), (23, .aload_n 2, 1, 0, 0, 0, 0), (24, .arraylength, 1, 0, 0, 0, 0), (25, .iadd, 1, 0, 0, 0, 0), (26, .ireturn, 1, 0, 0, 0, 0)]
def zm169 : zMI := (⟨"CommaCopiesModel", "gives", "([II[I)I"⟩, prog_12_method_62_code, 4, (Option.some Jvm.ClassFile.FieldType.int), true, 10, (1275, 1274, 0, 96), zc169)
/-- CommaCopiesModel.image()I -/
def zc170 : List zEnt := [(0, .aload_n 0, 1, 0, 0, 0, 0), (1, .getfield 13, 3, 0, 10, 3, 125), (4, .aload_n 0, 1, 0, 0, 0, 0), (5, .getfield 71, 3, 0, 10, 30, 152), (8, .iconst 0, 1, 0, 0, 0, 0), (9, .invokestatic 247, 3, 0, 168, 3, 128), (12, .istore_n 1, 1, 0, 0, 0, 0), (13, .aload_n 0, 1, 0, 0, 0, 0), (14, .getfield 16, 3, 0, 10, 5, 126), (17, .aload_n 0, 1, 0, 0, 0, 0), (18, .getfield 71, 3, 0, 10, 30, 152), (21, .iload_n 1, 1, 0, 0, 0, 0), (22, .invokestatic 247, 3, 0, 168, 3, 128), (25, .istore_n 1, 1, 0, 0, 0, 0), (26, .aload_n 0, 1, 0, 0, 0, 0), (27, .getfield 19, 3, 0, 10, 6, 130), (30, .aload_n 0, 1, 0, 0, 0, 0), (31, .getfield 71, 3, 0, 10, 30, 152), (34, .iload_n 1, 1, 0, 0, 0, 0), (35, .invokestatic 247, 3, 0, 168, 3, 128), (38, .istore_n 1, 1, 0, 0, 0, 0), (39, .aload_n 0, 1, 0, 0, 0, 0), (40, .getfield 22, 3, 0, 10, 7, 127), (43, .aload_n 0, 1, 0, 0, 0, 0), (44, .getfield 71, 3, 0, 10, 30, 152), (47, .iload_n 1, 1, 0, 0, 0, 0), (48, .invokestatic 247, 3, 0, 168, 3, 128), (51, .istore_n 1, 1, 0, 0, 0, 0), (52, .aload_n 0, 1, 0, 0, 0, 0), (53, .getfield 25, 3, 0, 10, 8, 128), (56, .aload_n 0, 1, 0, 0, 0, 0), (57, .getfield 71, 3, 0, 10, 30, 152), (60, .iload_n 1, 1, 0, 0, 0, 0), (61, .invokestatic 247, 3, 0, 168, 3, 128), (64, .istore_n 1, 1, 0, 0, 0, 0), (65, .aload_n 0, 1, 0, 0, 0, 0), (66, .getfield 28, 3, 0, 10, 9, 129), (69, .aload_n 0, 1, 0, 0, 0, 0), (70, .getfield 71, 3, 0, 10, 30, 152), (73, .iload_n 1, 1, 0, 0, 0, 0), (74, .invokestatic 247, 3, 0, 168, 3, 128), (77, .istore_n 1, 1, 0, 0, 0, 0), (78, .aload_n 0, 1, 0, 0, 0, 0), (79, .getfield 31, 3, 0, 10, 10, 131), (82, .aload_n 0, 1, 0, 0, 0, 0), (83, .getfield 71, 3, 0, 10, 30, 152), (86, .iload_n 1, 1, 0, 0, 0, 0), (87, .invokestatic 247, 3, 0, 168, 3, 128), (90, .istore_n 1, 1, 0, 0, 0, 0), (91, .aload_n 0, 1, 0, 0, 0, 0), (92, .getfield 34, 3, 0, 10, 11, 133), (95, .aload_n 0, 1, 0, 0, 0, 0), (96, .getfield 71, 3, 0, 10, 30, 152), (99, .iload_n 1, 1, 0, 0, 0, 0), (100, .invokestatic 247, 3, 0, 168, 3, 128), (103, .istore_n 1, 1, 0, 0, 0, 0), (104, .aload_n 0, 1, 0, 0, 0, 0), (105, .getfield 37, 3, 0, 10, 13, 137), (108, .aload_n 0, 1, 0, 0, 0, 0), (109, .getfield 71, 3, 0, 10, 30, 152), (112, .iload_n 1, 1, 0, 0, 0, 0), (113, .invokestatic 247, 3, 0, 168, 3, 128), (116, .istore_n 1, 1, 0, 0, 0, 0), (117, .aload_n 0, 1, 0, 0, 0, 0), (118, .getfield 44, 3, 0, 10, 16, 132), (121, .aload_n 0, 1, 0, 0, 0, 0), (122, .getfield 71, 3, 0, 10, 30, 152), (125, .iload_n 1, 1, 0, 0, 0, 0), (126, .invokestatic 247, 3, 0, 168, 3, 128), (129, .istore_n 1, 1, 0, 0, 0, 0), (130, .aload_n 0, 1, 0, 0, 0, 0), (131, .getfield 47, 3, 0, 10, 18, 151), (134, .aload_n 0, 1, 0, 0, 0, 0), (135, .getfield 71, 3, 0, 10, 30, 152), (138, .iload_n 1, 1, 0, 0, 0, 0), (139, .invokestatic 247, 3, 0, 168, 3, 128), (142, .istore_n 1, 1, 0, 0, 0, 0), (143, .aload_n 0, 1, 0, 0, 0, 0), (144, .getfield 71, 3, 0, 10, 30, 152), (147, .iload_n 1, 1, 0, 0, 0, 0), (148, .aload_n 0, 1, 0, 0, 0, 0), (149, .getfield 101, 3, 1, 10, 2, 123), (152, .iastore, 1, 0, 0, 0, 0), (153, .aload_n 0, 1, 0, 0, 0, 0), (154, .getfield 71, 3, 0, 10, 30, 152), (157, .iload_n 1, 1, 0, 0, 0, 0), (158, .iconst 1, 1, 0, 0, 0, 0), (159, .iadd, 1, 0, 0, 0, 0), (160, .aload_n 0, 1, 0, 0, 0, 0), (161, .getfield 104, 3, 1, 10, 4, 124), (164, .iastore, 1, 0, 0, 0, 0), (165, .aload_n 0, 1, 0, 0, 0, 0), (166, .getfield 71, 3, 0, 10, 30, 152), (169, .iload_n 1, 1, 0, 0, 0, 0), (170, .iconst 2, 1, 0, 0, 0, 0), (171, .iadd, 1, 0, 0, 0, 0), (172, .aload_n 0, 1, 0, 0, 0, 0), (173, .getfield 114, 3, 1, 10, 12, 134), (176, .iastore, 1, 0, 0, 0, 0), (177, .aload_n 0, 1, 0, 0, 0, 0), (178, .getfield 71, 3, 0, 10, 30, 152), (181, .iload_n 1, 1, 0, 0, 0, 0), (182, .iconst 3, 1, 0, 0, 0, 0), (183, .iadd, 1, 0, 0, 0, 0), (184, .aload_n 0, 1, 0, 0, 0, 0), (185, .getfield 40, 3, 1, 10, 14, 139), (188, .iastore, 1, 0, 0, 0, 0), (189, .aload_n 0, 1, 0, 0, 0, 0), (190, .getfield 71, 3, 0, 10, 30, 152), (193, .iload_n 1, 1, 0, 0, 0, 0), (194, .iconst 4, 1, 0, 0, 0, 0), (195, .iadd, 1, 0, 0, 0, 0), (196, .aload_n 0, 1, 0, 0, 0, 0), (197, .getfield 155, 3, 1, 10, 15, 140), (200, .iastore, 1, 0, 0, 0, 0), (201, .aload_n 0, 1, 0, 0, 0, 0), (202, .getfield 71, 3, 0, 10, 30, 152), (205, .iload_n 1, 1, 0, 0, 0, 0), (206, .iconst 5, 1, 0, 0, 0, 0), (207, .iadd, 1, 0, 0, 0, 0), (208, .aload_n 0, 1, 0, 0, 0, 0), (209, .getfield 117, 3, 1, 10, 17, 135), (212, .iastore, 1, 0, 0, 0, 0), (213, .aload_n 0, 1, 0, 0, 0, 0), (214, .iconst 1, 1, 0, 0, 0, 0), (215, .putfield 251, 3, 2, 10, 31, 153), (218, .iconst 1, 1, 0, 0, 0, 0), (219, .ireturn, 1, 0, 0, 0, 0)]
def zm170 : zMI := (⟨"CommaCopiesModel", "image", "()I"⟩, prog_12_method_63_code, 2, (Option.some Jvm.ClassFile.FieldType.int), false, 10, (1265, 1263, 1264, 96), zc170)
/-- CommaCopiesModel.restore()I -/
def zc171 : List zEnt := [(0, .aload_n 0, 1, 0, 0, 0, 0), (1, .getfield 251, 3, 2, 10, 31, 153), (4, .ifCond .ne 6, 3, 0, 10, 0, 0), (7, .bipush (-4), 2, 0, 0, 0, 0), (9, .ireturn, 1, 0, 0, 0, 0), (10, .aload_n 0, 1, 0, 0, 0, 0), (11, .getfield 71, 3, 0, 10, 30, 152), (14, .iconst 0, 1, 0, 0, 0, 0), (15, .aload_n 0, 1, 0, 0, 0, 0), (16, .getfield 13, 3, 0, 10, 3, 125), (19, .invokestatic 255, 3, 0, 169, 3, 129), (22, .istore_n 1, 1, 0, 0, 0, 0), (23, .aload_n 0, 1, 0, 0, 0, 0), (24, .getfield 71, 3, 0, 10, 30, 152), (27, .iload_n 1, 1, 0, 0, 0, 0), (28, .aload_n 0, 1, 0, 0, 0, 0), (29, .getfield 16, 3, 0, 10, 5, 126), (32, .invokestatic 255, 3, 0, 169, 3, 129), (35, .istore_n 1, 1, 0, 0, 0, 0), (36, .aload_n 0, 1, 0, 0, 0, 0), (37, .getfield 71, 3, 0, 10, 30, 152), (40, .iload_n 1, 1, 0, 0, 0, 0), (41, .aload_n 0, 1, 0, 0, 0, 0), (42, .getfield 19, 3, 0, 10, 6, 130), (45, .invokestatic 255, 3, 0, 169, 3, 129), (48, .istore_n 1, 1, 0, 0, 0, 0), (49, .aload_n 0, 1, 0, 0, 0, 0), (50, .getfield 71, 3, 0, 10, 30, 152), (53, .iload_n 1, 1, 0, 0, 0, 0), (54, .aload_n 0, 1, 0, 0, 0, 0), (55, .getfield 22, 3, 0, 10, 7, 127), (58, .invokestatic 255, 3, 0, 169, 3, 129), (61, .istore_n 1, 1, 0, 0, 0, 0), (62, .aload_n 0, 1, 0, 0, 0, 0), (63, .getfield 71, 3, 0, 10, 30, 152), (66, .iload_n 1, 1, 0, 0, 0, 0), (67, .aload_n 0, 1, 0, 0, 0, 0), (68, .getfield 25, 3, 0, 10, 8, 128), (71, .invokestatic 255, 3, 0, 169, 3, 129), (74, .istore_n 1, 1, 0, 0, 0, 0), (75, .aload_n 0, 1, 0, 0, 0, 0), (76, .getfield 71, 3, 0, 10, 30, 152), (79, .iload_n 1, 1, 0, 0, 0, 0), (80, .aload_n 0, 1, 0, 0, 0, 0), (81, .getfield 28, 3, 0, 10, 9, 129), (84, .invokestatic 255, 3, 0, 169, 3, 129), (87, .istore_n 1, 1, 0, 0, 0, 0), (88, .aload_n 0, 1, 0, 0, 0, 0), (89, .getfield 71, 3, 0, 10, 30, 152), (92, .iload_n 1, 1, 0, 0, 0, 0), (93, .aload_n 0, 1, 0, 0, 0, 0), (94, .getfield 31, 3, 0, 10, 10, 131), (97, .invokestatic 255, 3, 0, 169, 3, 129), (100, .istore_n 1, 1, 0, 0, 0, 0), (101, .aload_n 0, 1, 0, 0, 0, 0), (102, .getfield 71, 3, 0, 10, 30, 152), (105, .iload_n 1, 1, 0, 0, 0, 0), (106, .aload_n 0, 1, 0, 0, 0, 0), (107, .getfield 34, 3, 0, 10, 11, 133), (110, .invokestatic 255, 3, 0, 169, 3, 129), (113, .istore_n 1, 1, 0, 0, 0, 0), (114, .aload_n 0, 1, 0, 0, 0, 0), (115, .getfield 71, 3, 0, 10, 30, 152), (118, .iload_n 1, 1, 0, 0, 0, 0), (119, .aload_n 0, 1, 0, 0, 0, 0), (120, .getfield 37, 3, 0, 10, 13, 137), (123, .invokestatic 255, 3, 0, 169, 3, 129), (126, .istore_n 1, 1, 0, 0, 0, 0), (127, .aload_n 0, 1, 0, 0, 0, 0), (128, .getfield 71, 3, 0, 10, 30, 152), (131, .iload_n 1, 1, 0, 0, 0, 0), (132, .aload_n 0, 1, 0, 0, 0, 0), (133, .getfield 44, 3, 0, 10, 16, 132), (136, .invokestatic 255, 3, 0, 169, 3, 129), (139, .istore_n 1, 1, 0, 0, 0, 0), (140, .aload_n 0, 1, 0, 0, 0, 0), (141, .getfield 71, 3, 0, 10, 30, 152), (144, .iload_n 1, 1, 0, 0, 0, 0), (145, .aload_n 0, 1, 0, 0, 0, 0), (146, .getfield 47, 3, 0, 10, 18, 151), (149, .invokestatic 255, 3, 0, 169, 3, 129), (152, .istore_n 1, 1, 0, 0, 0, 0), (153, .aload_n 0, 1, 0, 0, 0, 0), (154, .aload_n 0, 1, 0, 0, 0, 0), (155, .getfield 71, 3, 0, 10, 30, 152), (158, .iload_n 1, 1, 0, 0, 0, 0), (159, .iaload, 1, 0, 0, 0, 0), (160, .putfield 101, 3, 1, 10, 2, 123), (163, .aload_n 0, 1, 0, 0, 0, 0), (164, .aload_n 0, 1, 0, 0, 0, 0), (165, .getfield 71, 3, 0, 10, 30, 152), (168, .iload_n 1, 1, 0, 0, 0, 0), (169, .iconst 1, 1, 0, 0, 0, 0), (170, .iadd, 1, 0, 0, 0, 0), (171, .iaload, 1, 0, 0, 0, 0), (172, .putfield 104, 3, 1, 10, 4, 124), (175, .aload_n 0, 1, 0, 0, 0, 0), (176, .aload_n 0, 1, 0, 0, 0, 0), (177, .getfield 71, 3, 0, 10, 30, 152), (180, .iload_n 1, 1, 0, 0, 0, 0), (181, .iconst 2, 1, 0, 0, 0, 0), (182, .iadd, 1, 0, 0, 0, 0), (183, .iaload, 1, 0, 0, 0, 0), (184, .putfield 114, 3, 1, 10, 12, 134), (187, .aload_n 0, 1, 0, 0, 0, 0), (188, .aload_n 0, 1, 0, 0, 0, 0), (189, .getfield 71, 3, 0, 10, 30, 152), (192, .iload_n 1, 1, 0, 0, 0, 0), (193, .iconst 3, 1, 0, 0, 0, 0), (194, .iadd, 1, 0, 0, 0, 0), (195, .iaload, 1, 0, 0, 0, 0), (196, .putfield 40, 3, 1, 10, 14, 139), (199, .aload_n 0, 1, 0, 0, 0, 0), (200, .aload_n 0, 1, 0, 0, 0, 0), (201, .getfield 71, 3, 0, 10, 30, 152), (204, .iload_n 1, 1, 0, 0, 0, 0), (205, .iconst 4, 1, 0, 0, 0, 0), (206, .iadd, 1, 0, 0, 0, 0), (207, .iaload, 1, 0, 0, 0, 0), (208, .putfield 155, 3, 1, 10, 15, 140), (211, .aload_n 0, 1, 0, 0, 0, 0), (212, .aload_n 0, 1, 0, 0, 0, 0), (213, .getfield 71, 3, 0, 10, 30, 152), (216, .iload_n 1, 1, 0, 0, 0, 0), (217, .iconst 5, 1, 0, 0, 0, 0), (218, .iadd, 1, 0, 0, 0, 0), (219, .iaload, 1, 0, 0, 0, 0), (220, .putfield 117, 3, 1, 10, 17, 135), (223, .iconst 1, 1, 0, 0, 0, 0), (224, .ireturn, 1, 0, 0, 0, 0)]
def zm171 : zMI := (⟨"CommaCopiesModel", "restore", "()I"⟩, prog_12_method_64_code, 2, (Option.some Jvm.ClassFile.FieldType.int), false, 10, (1272, 1270, 1271, 96), zc171)
/-- CommaCopiesModel.isSheet(I)Z -/
def zc172 : List zEnt := [(0, .iload_n 0, 1, 0, 0, 0, 0), (1, .i2l, 1, 0, 0, 0, 0), (2, .lconst 0, 1, 0, 0, 0, 0), (3, .ldc2_w 151, 3, 3, 0, 0, 1061), (6, .invokestatic 88, 3, 0, 110, 3, 97), (9, .ireturn, 1, 0, 0, 0, 0)]
def zm172 : zMI := (⟨"CommaCopiesModel", "isSheet", "(I)Z"⟩, prog_12_method_65_code, 1, (Option.some Jvm.ClassFile.FieldType.boolean), true, 10, (1060, 1059, 0, 96), zc172)
/-- CommaCopiesModel.isLane(I)Z -/
def zc173 : List zEnt := [(0, .iload_n 0, 1, 0, 0, 0, 0), (1, .i2l, 1, 0, 0, 0, 0), (2, .lconst 0, 1, 0, 0, 0, 0), (3, .ldc2_w 153, 3, 2, 0, 0, 1065), (6, .invokestatic 88, 3, 0, 110, 3, 97), (9, .ireturn, 1, 0, 0, 0, 0)]
def zm173 : zMI := (⟨"CommaCopiesModel", "isLane", "(I)Z"⟩, prog_12_method_66_code, 1, (Option.some Jvm.ClassFile.FieldType.boolean), true, 10, (1064, 1063, 0, 96), zc173)
/-- CommaCopiesModel.finds(IIII)I -/
def zc174 : List zEnt := [(0, .aload_n 0, 1, 0, 0, 0, 0), (1, .getfield 74, 3, 0, 10, 32, 154), (4, .iload_n 1, 1, 0, 0, 0, 0), (5, .iaload, 1, 0, 0, 0, 0), (6, .ifCond .ge 6, 3, 0, 12, 0, 0), (9, .bipush (-11), 2, 0, 0, 0, 0), (11, .ireturn, 1, 0, 0, 0, 0), (12, .aload_n 0, 1, 0, 0, 0, 0), (13, .getfield 74, 3, 0, 10, 32, 154), (16, .iload_n 1, 1, 0, 0, 0, 0), (17, .iaload, 1, 0, 0, 0, 0), (18, .iload_n 2, 1, 0, 0, 0, 0), (19, .if_icmp .eq 6, 3, 0, 25, 0, 0), (22, .bipush (-12), 2, 0, 0, 0, 0), (24, .ireturn, 1, 0, 0, 0, 0), (25, .iload_n 3, 1, 0, 0, 0, 0), (26, .ifCond .lt 20, 3, 0, 46, 0, 0), (29, .iload_n 3, 1, 0, 0, 0, 0), (30, .i2l, 1, 0, 0, 0, 0), (31, .iload 4, 2, 0, 0, 0, 0), (33, .i2l, 1, 0, 0, 0, 0), (34, .ladd, 1, 0, 0, 0, 0), (35, .aload_n 0, 1, 0, 0, 0, 0), (36, .getfield 77, 3, 0, 10, 33, 155), (39, .iload_n 1, 1, 0, 0, 0, 0), (40, .iaload, 1, 0, 0, 0, 0), (41, .i2l, 1, 0, 0, 0, 0), (42, .lcmp, 1, 0, 0, 0, 0), (43, .ifCond .le 8, 3, 0, 51, 0, 0), (46, .bipush (-13), 2, 0, 0, 0, 0), (48, .goto 4, 3, 0, 52, 0, 0), (51, .iconst 0, 1, 0, 0, 0, 0), (52, .ireturn, 1, 0, 0, 0, 0)]
def zm174 : zMI := (⟨"CommaCopiesModel", "finds", "(IIII)I"⟩, prog_12_method_67_code, 5, (Option.some Jvm.ClassFile.FieldType.int), false, 10, (1069, 1068, 63, 96), zc174)
/-- CommaCopiesModel.sheet(III)I -/
def zc175 : List zEnt := [(0, .iload_n 1, 1, 0, 0, 0, 0), (1, .invokestatic 130, 3, 0, 172, 1, 102), (4, .ifCond .eq 16, 3, 0, 20, 0, 0), (7, .iload_n 2, 1, 0, 0, 0, 0), (8, .invokestatic 133, 3, 0, 173, 1, 103), (11, .ifCond .eq 9, 3, 0, 20, 0, 0), (14, .iload_n 3, 1, 0, 0, 0, 0), (15, .bipush 12, 2, 0, 0, 0, 0), (17, .if_icmp .le 5, 3, 0, 22, 0, 0), (20, .iconst (-1), 1, 0, 0, 0, 0), (21, .ireturn, 1, 0, 0, 0, 0), (22, .iload_n 3, 1, 0, 0, 0, 0), (23, .ifCond .ge 6, 3, 0, 29, 0, 0), (26, .bipush (-14), 2, 0, 0, 0, 0), (28, .ireturn, 1, 0, 0, 0, 0), (29, .aload_n 0, 1, 0, 0, 0, 0), (30, .getfield 74, 3, 0, 10, 32, 154), (33, .iload_n 1, 1, 0, 0, 0, 0), (34, .iload_n 2, 1, 0, 0, 0, 0), (35, .iastore, 1, 0, 0, 0, 0), (36, .aload_n 0, 1, 0, 0, 0, 0), (37, .getfield 77, 3, 0, 10, 33, 155), (40, .iload_n 1, 1, 0, 0, 0, 0), (41, .iload_n 3, 1, 0, 0, 0, 0), (42, .iastore, 1, 0, 0, 0, 0), (43, .iconst 0, 1, 0, 0, 0, 0), (44, .istore 4, 2, 0, 0, 0, 0), (46, .iload 4, 2, 0, 0, 0, 0), (48, .bipush 12, 2, 0, 0, 0, 0), (50, .if_icmp .ge 22, 3, 0, 72, 0, 0), (53, .aload_n 0, 1, 0, 0, 0, 0), (54, .getfield 80, 3, 0, 10, 34, 136), (57, .bipush 12, 2, 0, 0, 0, 0), (59, .iload_n 1, 1, 0, 0, 0, 0), (60, .imul, 1, 0, 0, 0, 0), (61, .iload 4, 2, 0, 0, 0, 0), (63, .iadd, 1, 0, 0, 0, 0), (64, .iconst 0, 1, 0, 0, 0, 0), (65, .iastore, 1, 0, 0, 0, 0), (66, .iinc 4 1, 3, 0, 0, 0, 0), (69, .goto (-23), 3, 0, 46, 0, 0), (72, .iload_n 3, 1, 0, 0, 0, 0), (73, .ireturn, 1, 0, 0, 0, 0)]
def zm175 : zMI := (⟨"CommaCopiesModel", "sheet", "(III)I"⟩, prog_12_method_68_code, 5, (Option.some Jvm.ClassFile.FieldType.int), false, 10, (1279, 1277, 1278, 96), zc175)
/-- CommaCopiesModel.drop(I)I -/
def zc176 : List zEnt := [(0, .iload_n 1, 1, 0, 0, 0, 0), (1, .invokestatic 130, 3, 0, 172, 1, 102), (4, .ifCond .ne 5, 3, 0, 9, 0, 0), (7, .iconst (-1), 1, 0, 0, 0, 0), (8, .ireturn, 1, 0, 0, 0, 0), (9, .aload_n 0, 1, 0, 0, 0, 0), (10, .getfield 74, 3, 0, 10, 32, 154), (13, .iload_n 1, 1, 0, 0, 0, 0), (14, .iaload, 1, 0, 0, 0, 0), (15, .ifCond .ge 6, 3, 0, 21, 0, 0), (18, .bipush (-11), 2, 0, 0, 0, 0), (20, .ireturn, 1, 0, 0, 0, 0), (21, .aload_n 0, 1, 0, 0, 0, 0), (22, .getfield 74, 3, 0, 10, 32, 154), (25, .iload_n 1, 1, 0, 0, 0, 0), (26, .iconst (-1), 1, 0, 0, 0, 0), (27, .iastore, 1, 0, 0, 0, 0), (28, .aload_n 0, 1, 0, 0, 0, 0), (29, .getfield 77, 3, 0, 10, 33, 155), (32, .iload_n 1, 1, 0, 0, 0, 0), (33, .iaload, 1, 0, 0, 0, 0), (34, .ireturn, 1, 0, 0, 0, 0)]
def zm176 : zMI := (⟨"CommaCopiesModel", "drop", "(I)I"⟩, prog_12_method_69_code, 2, (Option.some Jvm.ClassFile.FieldType.int), false, 10, (1283, 1281, 1282, 96), zc176)
/-- CommaCopiesModel.item(IIII)I -/
def zc177 : List zEnt := [(0, .iload_n 1, 1, 0, 0, 0, 0), (1, .invokestatic 130, 3, 0, 172, 1, 102), (4, .ifCond .eq 10, 3, 0, 14, 0, 0), (7, .iload_n 2, 1, 0, 0, 0, 0), (8, .invokestatic 133, 3, 0, 173, 1, 103), (11, .ifCond .ne 5, 3, 0, 16, 0, 0), (14, .iconst (-1), 1, 0, 0, 0, 0), (15, .ireturn, 1, 0, 0, 0, 0), (16, .aload_n 0, 1, 0, 0, 0, 0), (17, .iload_n 1, 1, 0, 0, 0, 0), (18, .iload_n 2, 1, 0, 0, 0, 0), (19, .iload_n 3, 1, 0, 0, 0, 0), (20, .iconst 1, 1, 0, 0, 0, 0), (21, .invokevirtual 136, 3, 0, 174, 5, 104), (24, .istore 5, 2, 0, 0, 0, 0), (26, .iload 5, 2, 0, 0, 0, 0), (28, .ifCond .ge 6, 3, 0, 34, 0, 0), (31, .iload 5, 2, 0, 0, 0, 0), (33, .ireturn, 1, 0, 0, 0, 0), (34, .aload_n 0, 1, 0, 0, 0, 0), (35, .getfield 80, 3, 0, 10, 34, 136), (38, .bipush 12, 2, 0, 0, 0, 0), (40, .iload_n 1, 1, 0, 0, 0, 0), (41, .imul, 1, 0, 0, 0, 0), (42, .iload_n 3, 1, 0, 0, 0, 0), (43, .iadd, 1, 0, 0, 0, 0), (44, .iload_n 2, 1, 0, 0, 0, 0), (45, .ifCond .ne 9, 3, 0, 54, 0, 0), (48, .iload 4, 2, 0, 0, 0, 0), (50, .i2b, 1, 0, 0, 0, 0), (51, .goto 16, 3, 0, 67, 0, 0), (54, .iload_n 2, 1, 0, 0, 0, 0), (55, .iconst 1, 1, 0, 0, 0, 0), (56, .if_icmp .ne 9, 3, 0, 65, 0, 0), (59, .iload 4, 2, 0, 0, 0, 0), (61, .i2s, 1, 0, 0, 0, 0), (62, .goto 5, 3, 0, 67, 0, 0), (65, .iload 4, 2, 0, 0, 0, 0), (67, .iastore, 1, 0, 0, 0, 0), (68, .iconst 1, 1, 0, 0, 0, 0), (69, .ireturn, 1, 0, 0, 0, 0)]
def zm177 : zMI := (⟨"CommaCopiesModel", "item", "(IIII)I"⟩, prog_12_method_70_code, 6, (Option.some Jvm.ClassFile.FieldType.int), false, 10, (1287, 1285, 1286, 96), zc177)
/-- CommaCopiesModel.copy(IIIII)I -/
def zc178 : List zEnt := [(0, .iload_n 1, 1, 0, 0, 0, 0), (1, .invokestatic 130, 3, 0, 172, 1, 102), (4, .ifCond .eq 10, 3, 0, 14, 0, 0), (7, .iload_n 3, 1, 0, 0, 0, 0), (8, .invokestatic 130, 3, 0, 172, 1, 102), (11, .ifCond .ne 5, 3, 0, 16, 0, 0), (14, .iconst (-1), 1, 0, 0, 0, 0), (15, .ireturn, 1, 0, 0, 0, 0), (16, .aload_n 0, 1, 0, 0, 0, 0), (17, .getfield 74, 3, 0, 10, 32, 154), (20, .iload_n 1, 1, 0, 0, 0, 0), (21, .iaload, 1, 0, 0, 0, 0), (22, .ifCond .lt 12, 3, 0, 34, 0, 0), (25, .aload_n 0, 1, 0, 0, 0, 0), (26, .getfield 74, 3, 0, 10, 32, 154), (29, .iload_n 3, 1, 0, 0, 0, 0), (30, .iaload, 1, 0, 0, 0, 0), (31, .ifCond .ge 6, 3, 0, 37, 0, 0), (34, .bipush (-11), 2, 0, 0, 0, 0), (36, .ireturn, 1, 0, 0, 0, 0), (37, .aload_n 0, 1, 0, 0, 0, 0), (38, .getfield 74, 3, 0, 10, 32, 154), (41, .iload_n 1, 1, 0, 0, 0, 0), (42, .iaload, 1, 0, 0, 0, 0), (43, .aload_n 0, 1, 0, 0, 0, 0), (44, .getfield 74, 3, 0, 10, 32, 154), (47, .iload_n 3, 1, 0, 0, 0, 0), (48, .iaload, 1, 0, 0, 0, 0), (49, .if_icmp .eq 6, 3, 0, 55, 0, 0), (52, .bipush (-12), 2, 0, 0, 0, 0), (54, .ireturn, 1, 0, 0, 0, 0), (55, .iload 5, 2, 0, 0, 0, 0), (57, .ifCond .lt 38, 3, 0, 95, 0, 0), (60, .aload_n 0, 1, 0, 0, 0, 0), (61, .iload_n 1, 1, 0, 0, 0, 0), (62, .aload_n 0, 1, 0, 0, 0, 0), (63, .getfield 74, 3, 0, 10, 32, 154), (66, .iload_n 1, 1, 0, 0, 0, 0), (67, .iaload, 1, 0, 0, 0, 0), (68, .iload_n 2, 1, 0, 0, 0, 0), (69, .iload 5, 2, 0, 0, 0, 0), (71, .invokevirtual 136, 3, 0, 174, 5, 104), (74, .ifCond .lt 21, 3, 0, 95, 0, 0), (77, .aload_n 0, 1, 0, 0, 0, 0), (78, .iload_n 3, 1, 0, 0, 0, 0), (79, .aload_n 0, 1, 0, 0, 0, 0), (80, .getfield 74, 3, 0, 10, 32, 154), (83, .iload_n 3, 1, 0, 0, 0, 0), (84, .iaload, 1, 0, 0, 0, 0), (85, .iload 4, 2, 0, 0, 0, 0), (87, .iload 5, 2, 0, 0, 0, 0), (89, .invokevirtual 136, 3, 0, 174, 5, 104), (92, .ifCond .ge 6, 3, 0, 98, 0, 0), (95, .bipush (-13), 2, 0, 0, 0, 0), (97, .ireturn, 1, 0, 0, 0, 0), (98, .iconst 0, 1, 0, 0, 0, 0), (99, .istore 6, 2, 0, 0, 0, 0), (101, .iload 6, 2, 0, 0, 0, 0), (103, .iload 5, 2, 0, 0, 0, 0), (105, .if_icmp .ge 30, 3, 0, 135, 0, 0), (108, .aload_n 0, 1, 0, 0, 0, 0), (109, .getfield 83, 3, 0, 10, 35, 156), (112, .iload 6, 2, 0, 0, 0, 0), (114, .aload_n 0, 1, 0, 0, 0, 0), (115, .getfield 80, 3, 0, 10, 34, 136), (118, .bipush 12, 2, 0, 0, 0, 0), (120, .iload_n 1, 1, 0, 0, 0, 0), (121, .imul, 1, 0, 0, 0, 0), (122, .iload_n 2, 1, 0, 0, 0, 0), (123, .iadd, 1, 0, 0, 0, 0), (124, .iload 6, 2, 0, 0, 0, 0), (126, .iadd, 1, 0, 0, 0, 0), (127, .iaload, 1, 0, 0, 0, 0), (128, .iastore, 1, 0, 0, 0, 0), (129, .iinc 6 1, 3, 0, 0, 0, 0), (132, .goto (-31), 3, 0, 101, 0, 0), (135, .iconst 0, 1, 0, 0, 0, 0), (136, .istore 6, 2, 0, 0, 0, 0), (138, .iload 6, 2, 0, 0, 0, 0), (140, .iload 5, 2, 0, 0, 0, 0), (142, .if_icmp .ge 31, 3, 0, 173, 0, 0), (145, .aload_n 0, 1, 0, 0, 0, 0), (146, .getfield 80, 3, 0, 10, 34, 136), (149, .bipush 12, 2, 0, 0, 0, 0), (151, .iload_n 3, 1, 0, 0, 0, 0), (152, .imul, 1, 0, 0, 0, 0), (153, .iload 4, 2, 0, 0, 0, 0), (155, .iadd, 1, 0, 0, 0, 0), (156, .iload 6, 2, 0, 0, 0, 0), (158, .iadd, 1, 0, 0, 0, 0), (159, .aload_n 0, 1, 0, 0, 0, 0), (160, .getfield 83, 3, 0, 10, 35, 156), (163, .iload 6, 2, 0, 0, 0, 0), (165, .iaload, 1, 0, 0, 0, 0), (166, .iastore, 1, 0, 0, 0, 0), (167, .iinc 6 1, 3, 0, 0, 0, 0), (170, .goto (-32), 3, 0, 138, 0, 0), (173, .iload 5, 2, 0, 0, 0, 0), (175, .ireturn, 1, 0, 0, 0, 0)]
def zm178 : zMI := (⟨"CommaCopiesModel", "copy", "(IIIII)I"⟩, prog_12_method_71_code, 7, (Option.some Jvm.ClassFile.FieldType.int), false, 10, (1291, 1289, 1290, 96), zc178)
/-- java/lang/Integer.numberOfTrailingZeros(I)I -/
def zc179 : List zEnt := [(0, .iload_n 0, 1, 0, 0, 0, 0), (1, .iconst (-1), 1, 0, 0, 0, 0), (2, .ixor, 1, 0, 0, 0, 0), (3, .iload_n 0, 1, 0, 0, 0, 0), (4, .iconst 1, 1, 0, 0, 0, 0), (5, .isub, 1, 0, 0, 0, 0), (6, .iand, 1, 0, 0, 0, 0), (7, .istore_n 0, 1, 0, 0, 0, 0), (8, .iload_n 0, 1, 0, 0, 0, 0), (9, .ifCond .gt 8, 3, 0, 17, 0, 0), (12, .iload_n 0, 1, 0, 0, 0, 0), (13, .bipush 32, 2, 0, 0, 0, 0), (15, .iand, 1, 0, 0, 0, 0), (16, .ireturn, 1, 0, 0, 0, 0), (17, .iconst 1, 1, 0, 0, 0, 0), (18, .istore_n 1, 1, 0, 0, 0, 0), (19, .iload_n 0, 1, 0, 0, 0, 0), (20, .ldc_w 264, 3, 65536, 0, 0, 647), (23, .if_icmp .le 11, 3, 0, 34, 0, 0), (26, .iinc 1 16, 3, 0, 0, 0, 0), (29, .iload_n 0, 1, 0, 0, 0, 0), (30, .bipush 16, 2, 0, 0, 0, 0), (32, .iushr, 1, 0, 0, 0, 0), (33, .istore_n 0, 1, 0, 0, 0, 0), (34, .iload_n 0, 1, 0, 0, 0, 0), (35, .sipush 256, 3, 0, 0, 0, 0), (38, .if_icmp .le 11, 3, 0, 49, 0, 0), (41, .iinc 1 8, 3, 0, 0, 0, 0), (44, .iload_n 0, 1, 0, 0, 0, 0), (45, .bipush 8, 2, 0, 0, 0, 0), (47, .iushr, 1, 0, 0, 0, 0), (48, .istore_n 0, 1, 0, 0, 0, 0), (49, .iload_n 0, 1, 0, 0, 0, 0), (50, .bipush 16, 2, 0, 0, 0, 0), (52, .if_icmp .le 10, 3, 0, 62, 0, 0), (55, .iinc 1 4, 3, 0, 0, 0, 0), (58, .iload_n 0, 1, 0, 0, 0, 0), (59, .iconst 4, 1, 0, 0, 0, 0), (60, .iushr, 1, 0, 0, 0, 0), (61, .istore_n 0, 1, 0, 0, 0, 0), (62, .iload_n 0, 1, 0, 0, 0, 0), (63, .iconst 4, 1, 0, 0, 0, 0), (64, .if_icmp .le 10, 3, 0, 74, 0, 0), (67, .iinc 1 2, 3, 0, 0, 0, 0), (70, .iload_n 0, 1, 0, 0, 0, 0), (71, .iconst 2, 1, 0, 0, 0, 0), (72, .iushr, 1, 0, 0, 0, 0), (73, .istore_n 0, 1, 0, 0, 0, 0), (74, .iload_n 1, 1, 0, 0, 0, 0), (75, .iload_n 0, 1, 0, 0, 0, 0), (76, .iconst 1, 1, 0, 0, 0, 0), (77, .iushr, 1, 0, 0, 0, 0), (78, .iadd, 1, 0, 0, 0, 0), (79, .ireturn, 1, 0, 0, 0, 0)]
def zm179 : zMI := (⟨"java/lang/Integer", "numberOfTrailingZeros", "(I)I"⟩, prog_13_method_48_code, 2, (Option.some Jvm.ClassFile.FieldType.int), true, 11, (646, 645, 0, 99), zc179)
/-- java/lang/Integer.bitCount(I)I -/
def zc180 : List zEnt := [(0, .iload_n 0, 1, 0, 0, 0, 0), (1, .iload_n 0, 1, 0, 0, 0, 0), (2, .iconst 1, 1, 0, 0, 0, 0), (3, .iushr, 1, 0, 0, 0, 0), (4, .ldc_w 265, 3, 1431655765, 0, 0, 571), (7, .iand, 1, 0, 0, 0, 0), (8, .isub, 1, 0, 0, 0, 0), (9, .istore_n 0, 1, 0, 0, 0, 0), (10, .iload_n 0, 1, 0, 0, 0, 0), (11, .ldc_w 266, 3, 858993459, 0, 0, 572), (14, .iand, 1, 0, 0, 0, 0), (15, .iload_n 0, 1, 0, 0, 0, 0), (16, .iconst 2, 1, 0, 0, 0, 0), (17, .iushr, 1, 0, 0, 0, 0), (18, .ldc_w 266, 3, 858993459, 0, 0, 572), (21, .iand, 1, 0, 0, 0, 0), (22, .iadd, 1, 0, 0, 0, 0), (23, .istore_n 0, 1, 0, 0, 0, 0), (24, .iload_n 0, 1, 0, 0, 0, 0), (25, .iload_n 0, 1, 0, 0, 0, 0), (26, .iconst 4, 1, 0, 0, 0, 0), (27, .iushr, 1, 0, 0, 0, 0), (28, .iadd, 1, 0, 0, 0, 0), (29, .ldc_w 267, 3, 252645135, 0, 0, 573), (32, .iand, 1, 0, 0, 0, 0), (33, .istore_n 0, 1, 0, 0, 0, 0), (34, .iload_n 0, 1, 0, 0, 0, 0), (35, .iload_n 0, 1, 0, 0, 0, 0), (36, .bipush 8, 2, 0, 0, 0, 0), (38, .iushr, 1, 0, 0, 0, 0), (39, .iadd, 1, 0, 0, 0, 0), (40, .istore_n 0, 1, 0, 0, 0, 0), (41, .iload_n 0, 1, 0, 0, 0, 0), (42, .iload_n 0, 1, 0, 0, 0, 0), (43, .bipush 16, 2, 0, 0, 0, 0), (45, .iushr, 1, 0, 0, 0, 0), (46, .iadd, 1, 0, 0, 0, 0), (47, .istore_n 0, 1, 0, 0, 0, 0), (48, .iload_n 0, 1, 0, 0, 0, 0), (49, .bipush 63, 2, 0, 0, 0, 0), (51, .iand, 1, 0, 0, 0, 0), (52, .ireturn, 1, 0, 0, 0, 0)]
def zm180 : zMI := (⟨"java/lang/Integer", "bitCount", "(I)I"⟩, prog_13_method_49_code, 1, (Option.some Jvm.ClassFile.FieldType.int), true, 11, (570, 569, 0, 99), zc180)
/-- java/util/Arrays.fill([JJ)V -/
def zc181 : List zEnt := [(0, .iconst 0, 1, 0, 0, 0, 0), (1, .istore_n 3, 1, 0, 0, 0, 0), (2, .aload_n 0, 1, 0, 0, 0, 0), (3, .arraylength, 1, 0, 0, 0, 0), (4, .istore 4, 2, 0, 0, 0, 0), (6, .iload_n 3, 1, 0, 0, 0, 0), (7, .iload 4, 2, 0, 0, 0, 0), (9, .if_icmp .ge 13, 3, 0, 22, 0, 0), (12, .aload_n 0, 1, 0, 0, 0, 0), (13, .iload_n 3, 1, 0, 0, 0, 0), (14, .lload_n 1, 1, 0, 0, 0, 0), (15, .lastore, 1, 0, 0, 0, 0), (16, .iinc 3 1, 3, 0, 0, 0, 0), (19, .goto (-13), 3, 0, 6, 0, 0), (22, .return_, 1, 0, 0, 0, 0)]
def zm181 : zMI := (⟨"java/util/Arrays", "fill", "([JJ)V"⟩, prog_16_method_101_code, 5, (Option.none : Option Jvm.ClassFile.FieldType), true, 13, (662, 661, 0, 98), zc181)
/-- java/util/Arrays.fill([II)V -/
def zc182 : List zEnt := [(0, .iconst 0, 1, 0, 0, 0, 0), (1, .istore_n 2, 1, 0, 0, 0, 0), (2, .aload_n 0, 1, 0, 0, 0, 0), (3, .arraylength, 1, 0, 0, 0, 0), (4, .istore_n 3, 1, 0, 0, 0, 0), (5, .iload_n 2, 1, 0, 0, 0, 0), (6, .iload_n 3, 1, 0, 0, 0, 0), (7, .if_icmp .ge 13, 3, 0, 20, 0, 0), (10, .aload_n 0, 1, 0, 0, 0, 0), (11, .iload_n 2, 1, 0, 0, 0, 0), (12, .iload_n 1, 1, 0, 0, 0, 0), (13, .iastore, 1, 0, 0, 0, 0), (14, .iinc 2 1, 3, 0, 0, 0, 0), (17, .goto (-12), 3, 0, 5, 0, 0), (20, .return_, 1, 0, 0, 0, 0)]
def zm182 : zMI := (⟨"java/util/Arrays", "fill", "([II)V"⟩, prog_16_method_103_code, 4, (Option.none : Option Jvm.ClassFile.FieldType), true, 13, (457, 456, 0, 98), zc182)
def zMT : List zMI := [zm0, zm1, zm2, zm3, zm4, zm5, zm6, zm7, zm8, zm9, zm10, zm11, zm12, zm13, zm14, zm15, zm16, zm17, zm18, zm19, zm20, zm21, zm22, zm23, zm24, zm25, zm26, zm27, zm28, zm29, zm30, zm31, zm32, zm33, zm34, zm35, zm36, zm37, zm38, zm39, zm40, zm41, zm42, zm43, zm44, zm45, zm46, zm47, zm48, zm49, zm50, zm51, zm52, zm53, zm54, zm55, zm56, zm57, zm58, zm59, zm60, zm61, zm62, zm63, zm64, zm65, zm66, zm67, zm68, zm69, zm70, zm71, zm72, zm73, zm74, zm75, zm76, zm77, zm78, zm79, zm80, zm81, zm82, zm83, zm84, zm85, zm86, zm87, zm88, zm89, zm90, zm91, zm92, zm93, zm94, zm95, zm96, zm97, zm98, zm99, zm100, zm101, zm102, zm103, zm104, zm105, zm106, zm107, zm108, zm109, zm110, zm111, zm112, zm113, zm114, zm115, zm116, zm117, zm118, zm119, zm120, zm121, zm122, zm123, zm124, zm125, zm126, zm127, zm128, zm129, zm130, zm131, zm132, zm133, zm134, zm135, zm136, zm137, zm138, zm139, zm140, zm141, zm142, zm143, zm144, zm145, zm146, zm147, zm148, zm149, zm150, zm151, zm152, zm153, zm154, zm155, zm156, zm157, zm158, zm159, zm160, zm161, zm162, zm163, zm164, zm165, zm166, zm167, zm168, zm169, zm170, zm171, zm172, zm173, zm174, zm175, zm176, zm177, zm178, zm179, zm180, zm181, zm182]
end
section
/-! the tables hold: each entry decodes so, each link is a word of lw_tbl -/
def zlook : Nat → List zEnt → Option (Instr × Nat × Int × Nat × Nat × Nat)
  | _, [] => none
  | pc, e :: r => bif Nat.beq e.1 pc then some e.2 else zlook pc r
theorem zlook_mem {pc : Nat} {l : List zEnt} {x : Instr × Nat × Int × Nat × Nat × Nat} (h : zlook pc l = some x) : (pc, x) ∈ l := by
  induction l with
  | nil => cases h
  | cons e r ih =>
    unfold zlook at h
    cases hb : Nat.beq e.1 pc with
    | true =>
      rw [hb] at h
      have h1 : e.1 = pc := Nat.eq_of_beq_eq_true hb
      have h2 : e.2 = x := by simpa using h
      exact List.mem_cons.mpr (Or.inl (by rw [← h1, ← h2]))
    | false =>
      rw [hb] at h
      exact List.mem_cons_of_mem _ (ih h)
def zlkF (f : Nat × Nat × Nat × Nat × Bool × Nat × Nat) : Bool := match vwCl[f.2.2.1]?, zRN[f.1]? with
  | some (C, T, N), some own => decide (f.2.2.2.1 < N) && decide ((T f.2.2.2.1).1 = C) && (bif f.2.2.2.2.1 then decide (lw_tbl[f.2.2.2.2.2.1]? = some (.fieldLinkNest own f.2.1 C (T f.2.2.2.1).2.1 (T f.2.2.2.1).2.2.1 "CommaCopies")) else decide (lw_tbl[f.2.2.2.2.2.1]? = some (.fieldLink own f.2.1 C (T f.2.2.2.1).2.1 (T f.2.2.2.1).2.2.1)))
    && (match f.2.2.2.2.2.2 with
      | 0 => true
      | 1 => decide ((T f.2.2.2.1).2.2.2 = false) && decide ((T f.2.2.2.1).2.2.1 = "I")
      | _ => decide ((T f.2.2.2.1).2.2.2 = false) && decide ((T f.2.2.2.1).2.2.1 = "Z"))
  | _, _ => false
set_option maxRecDepth 100000 in
theorem zFT_ok : zFT.all zlkF = true := by decide +kernel
def zokM (I : zMI) : Bool := (bif I.2.2.2.2.1 then decide (lw_tbl[I.2.2.2.2.2.2.1.2.1]? = some (.static I.1)) else (decide (lw_tbl[I.2.2.2.2.2.2.1.2.1]? = some (.instanceMethod I.1)) && decide (lw_tbl[I.2.2.2.2.2.2.1.2.2.1]? = some (.selects I.1.cls I.1 I.1)))) &&
  decide (lw_tbl[I.2.2.2.2.2.2.1.2.2.2]? = some (.initialized I.1.cls)) && decide (zRN[I.2.2.2.2.2.1]? = some I.1.cls) && plainName I.1.cls && decide (I.1.cls ≠ "java/lang/invoke/MethodHandle") && decide (I.1.cls ≠ "java/lang/invoke/VarHandle") && decide (I.2.2.1 ≤ 30)
set_option maxRecDepth 100000 in
theorem zMT_ok : zMT.all zokM = true := by decide +kernel
def zlkC (f : Nat × Nat × Nat × Bool × Nat) : Bool := match zRN[f.1]? with
  | some own => (bif Nat.beq f.2.2.1 9999 then decide (lw_tbl[f.2.2.2.2]? = some (.methodLink own f.2.1 arraycopyName)) else bif Nat.beq f.2.2.1 9998 then decide (lw_tbl[f.2.2.2.2]? = some (.methodLink own f.2.1 Lib.Math.max.name)) else (match zMT[f.2.2.1]? with
    | some I => bif f.2.2.2.1 then decide (lw_tbl[f.2.2.2.2]? = some (.methodLinkNest own f.2.1 I.1 "CommaCopies")) else decide (lw_tbl[f.2.2.2.2]? = some (.methodLink own f.2.1 I.1))
    | none => false))
  | none => false
set_option maxRecDepth 100000 in
theorem zCT_ok : zCT.all zlkC = true := by decide +kernel
abbrev zR32 (x : Int) : Prop := -2147483648 ≤ x ∧ x < 2147483648
abbrev zR64 (x : Int) : Prop := -9223372036854775808 ≤ x ∧ x < 9223372036854775808
/-- of an entry what its kind needs -/
def zokI (I : zMI) (pc : Nat) (x : Instr × Nat × Int × Nat × Nat × Nat) : Bool := match x.1 with
  | .getfield ix => decide ((zFT[x.2.2.2.2.2]?).map (fun f => (f.1, f.2.1, f.2.2.1, f.2.2.2.1)) = some (I.2.2.2.2.2.1, ix, x.2.2.2.1, x.2.2.2.2.1))
  | .putfield ix => decide ((zFT[x.2.2.2.2.2]?).map (fun f => (f.1, f.2.1, f.2.2.1, f.2.2.2.1, (f.2.2.2.2.2.2 : Int))) = some (I.2.2.2.2.2.1, ix, x.2.2.2.1, x.2.2.2.2.1, x.2.2.1)) && decide (x.2.2.1 ≠ 0)
  | .invokevirtual ix => decide ((zCT[x.2.2.2.2.2]?).map (fun f => (f.1, f.2.1, f.2.2.1)) = some (I.2.2.2.2.2.1, ix, x.2.2.2.1)) && (match zMT[x.2.2.2.1]? with
    | some J => !J.2.2.2.2.1 && decide ((parseMethodDescriptor J.1.desc).map (fun d => d.parameters.length + 1) = some x.2.2.2.2.1)
    | none => false)
  | .invokestatic ix => decide ((zCT[x.2.2.2.2.2]?).map (fun f => (f.1, f.2.1, f.2.2.1)) = some (I.2.2.2.2.2.1, ix, x.2.2.2.1)) && (Nat.beq x.2.2.2.1 9999 || Nat.beq x.2.2.2.1 9998 || (match zMT[x.2.2.2.1]? with
    | some J => J.2.2.2.2.1 && decide ((parseMethodDescriptor J.1.desc).map (fun d => d.parameters.length) = some x.2.2.2.2.1)
    | none => false))
  | .ldc ix => decide (zR32 x.2.2.1) && decide (lw_tbl[x.2.2.2.2.2]? = some (.constant I.1.cls ix (Int32.ofInt x.2.2.1)))
  | .ldc_w ix => decide (zR32 x.2.2.1) && decide (lw_tbl[x.2.2.2.2.2]? = some (.constant I.1.cls ix (Int32.ofInt x.2.2.1)))
  | .ldc2_w ix => decide (zR64 x.2.2.1) && decide (lw_tbl[x.2.2.2.2.2]? = some (.constantLong I.1.cls ix (Int64.ofInt x.2.2.1)))
  | .ifCond _ off => decide ((pc : Int) + off = (x.2.2.2.1 : Int))
  | .if_icmp _ off => decide ((pc : Int) + off = (x.2.2.2.1 : Int))
  | .goto off => decide ((pc : Int) + off = (x.2.2.2.1 : Int))
  | .iconst n => decide (zR32 n)
  | .bipush n => decide ((Int8.ofInt n).toInt32 = Int32.ofInt n ∧ zR32 n)
  | .sipush n => decide ((Int16.ofInt n).toInt32 = Int32.ofInt n ∧ zR32 n)
  | _ => true
def zlenok : Instr → Nat → Bool
  | .bipush _, n => Nat.beq n 2
  | .ldc _, n => Nat.beq n 2
  | .iload _, n => Nat.beq n 2
  | .lload _, n => Nat.beq n 2
  | .aload _, n => Nat.beq n 2
  | .istore _, n => Nat.beq n 2
  | .lstore _, n => Nat.beq n 2
  | .astore _, n => Nat.beq n 2
  | .sipush _, n => Nat.beq n 3
  | .ldc_w _, n => Nat.beq n 3
  | .ldc2_w _, n => Nat.beq n 3
  | .iinc _ _, n => Nat.beq n 3
  | .ifCond _ _, n => Nat.beq n 3
  | .if_icmp _ _, n => Nat.beq n 3
  | .goto _, n => Nat.beq n 3
  | .getfield _, n => Nat.beq n 3
  | .putfield _, n => Nat.beq n 3
  | .invokevirtual _, n => Nat.beq n 3
  | .invokestatic _, n => Nat.beq n 3
  | .tableswitch .., _ => true
  | _, n => Nat.beq n 1
def zokE (I : zMI) (e : zEnt) : Bool := zlenok e.2.1 e.2.2.1 && decide (decode I.2.1 e.1 = .ok (e.2.1, e.2.2.1)) && zokI I e.1 e.2
def zokC (I : zMI) : Bool := I.2.2.2.2.2.2.2.all (zokE I)
end
section
set_option maxRecDepth 100000 in
theorem zok0 : zokC zm0 = true := by decide +kernel
set_option maxRecDepth 100000 in
theorem zok1 : zokC zm1 = true := by decide +kernel
set_option maxRecDepth 100000 in
theorem zok2 : zokC zm2 = true := by decide +kernel
set_option maxRecDepth 100000 in
theorem zok3 : zokC zm3 = true := by decide +kernel
set_option maxRecDepth 100000 in
theorem zok4 : zokC zm4 = true := by decide +kernel
set_option maxRecDepth 100000 in
theorem zok5 : zokC zm5 = true := by decide +kernel
set_option maxRecDepth 100000 in
theorem zok6 : zokC zm6 = true := by decide +kernel
set_option maxRecDepth 100000 in
theorem zok7 : zokC zm7 = true := by decide +kernel
set_option maxRecDepth 100000 in
theorem zok8 : zokC zm8 = true := by decide +kernel
set_option maxRecDepth 100000 in
theorem zok9 : zokC zm9 = true := by decide +kernel
set_option maxRecDepth 100000 in
theorem zok10 : zokC zm10 = true := by decide +kernel
set_option maxRecDepth 100000 in
theorem zok11 : zokC zm11 = true := by decide +kernel
set_option maxRecDepth 100000 in
theorem zok12 : zokC zm12 = true := by decide +kernel
set_option maxRecDepth 100000 in
theorem zok13 : zokC zm13 = true := by decide +kernel
set_option maxRecDepth 100000 in
theorem zok14 : zokC zm14 = true := by decide +kernel
set_option maxRecDepth 100000 in
theorem zok15 : zokC zm15 = true := by decide +kernel
set_option maxRecDepth 100000 in
theorem zok16 : zokC zm16 = true := by decide +kernel
set_option maxRecDepth 100000 in
theorem zok17 : zokC zm17 = true := by decide +kernel
set_option maxRecDepth 100000 in
theorem zok18 : zokC zm18 = true := by decide +kernel
set_option maxRecDepth 100000 in
theorem zok19 : zokC zm19 = true := by decide +kernel
set_option maxRecDepth 100000 in
theorem zok20 : zokC zm20 = true := by decide +kernel
set_option maxRecDepth 100000 in
theorem zok21 : zokC zm21 = true := by decide +kernel
set_option maxRecDepth 100000 in
theorem zok22 : zokC zm22 = true := by decide +kernel
set_option maxRecDepth 100000 in
theorem zok23 : zokC zm23 = true := by decide +kernel
set_option maxRecDepth 100000 in
theorem zok24 : zokC zm24 = true := by decide +kernel
set_option maxRecDepth 100000 in
theorem zok25 : zokC zm25 = true := by decide +kernel
set_option maxRecDepth 100000 in
theorem zok26 : zokC zm26 = true := by decide +kernel
set_option maxRecDepth 100000 in
theorem zok27 : zokC zm27 = true := by decide +kernel
set_option maxRecDepth 100000 in
theorem zok28 : zokC zm28 = true := by decide +kernel
set_option maxRecDepth 100000 in
theorem zok29 : zokC zm29 = true := by decide +kernel
set_option maxRecDepth 100000 in
theorem zok30 : zokC zm30 = true := by decide +kernel
set_option maxRecDepth 100000 in
theorem zok31 : zokC zm31 = true := by decide +kernel
set_option maxRecDepth 100000 in
theorem zok32 : zokC zm32 = true := by decide +kernel
set_option maxRecDepth 100000 in
theorem zok33 : zokC zm33 = true := by decide +kernel
set_option maxRecDepth 100000 in
theorem zok34 : zokC zm34 = true := by decide +kernel
set_option maxRecDepth 100000 in
theorem zok35 : zokC zm35 = true := by decide +kernel
set_option maxRecDepth 100000 in
theorem zok36 : zokC zm36 = true := by decide +kernel
set_option maxRecDepth 100000 in
theorem zok37 : zokC zm37 = true := by decide +kernel
set_option maxRecDepth 100000 in
theorem zok38 : zokC zm38 = true := by decide +kernel
set_option maxRecDepth 100000 in
theorem zok39 : zokC zm39 = true := by decide +kernel
set_option maxRecDepth 100000 in
theorem zok40 : zokC zm40 = true := by decide +kernel
set_option maxRecDepth 100000 in
theorem zok41 : zokC zm41 = true := by decide +kernel
set_option maxRecDepth 100000 in
theorem zok42 : zokC zm42 = true := by decide +kernel
set_option maxRecDepth 100000 in
theorem zok43 : zokC zm43 = true := by decide +kernel
set_option maxRecDepth 100000 in
theorem zok44 : zokC zm44 = true := by decide +kernel
set_option maxRecDepth 100000 in
theorem zok45 : zokC zm45 = true := by decide +kernel
set_option maxRecDepth 100000 in
theorem zok46 : zokC zm46 = true := by decide +kernel
set_option maxRecDepth 100000 in
theorem zok47 : zokC zm47 = true := by decide +kernel
set_option maxRecDepth 100000 in
theorem zok48 : zokC zm48 = true := by decide +kernel
set_option maxRecDepth 100000 in
theorem zok49 : zokC zm49 = true := by decide +kernel
set_option maxRecDepth 100000 in
theorem zok50 : zokC zm50 = true := by decide +kernel
set_option maxRecDepth 100000 in
theorem zok51 : zokC zm51 = true := by decide +kernel
set_option maxRecDepth 100000 in
theorem zok52 : zokC zm52 = true := by decide +kernel
set_option maxRecDepth 100000 in
theorem zok53 : zokC zm53 = true := by decide +kernel
set_option maxRecDepth 100000 in
theorem zok54 : zokC zm54 = true := by decide +kernel
set_option maxRecDepth 100000 in
theorem zok55 : zokC zm55 = true := by decide +kernel
set_option maxRecDepth 100000 in
theorem zok56 : zokC zm56 = true := by decide +kernel
set_option maxRecDepth 100000 in
theorem zok57 : zokC zm57 = true := by decide +kernel
set_option maxRecDepth 100000 in
theorem zok58 : zokC zm58 = true := by decide +kernel
set_option maxRecDepth 100000 in
theorem zok59 : zokC zm59 = true := by decide +kernel
set_option maxRecDepth 100000 in
theorem zok60 : zokC zm60 = true := by decide +kernel
set_option maxRecDepth 100000 in
theorem zok61 : zokC zm61 = true := by decide +kernel
set_option maxRecDepth 100000 in
theorem zok62 : zokC zm62 = true := by decide +kernel
set_option maxRecDepth 100000 in
theorem zok63 : zokC zm63 = true := by decide +kernel
set_option maxRecDepth 100000 in
theorem zok64 : zokC zm64 = true := by decide +kernel
set_option maxRecDepth 100000 in
theorem zok65 : zokC zm65 = true := by decide +kernel
set_option maxRecDepth 100000 in
theorem zok66 : zokC zm66 = true := by decide +kernel
set_option maxRecDepth 100000 in
theorem zok67 : zokC zm67 = true := by decide +kernel
set_option maxRecDepth 100000 in
theorem zok68 : zokC zm68 = true := by decide +kernel
set_option maxRecDepth 100000 in
theorem zok69 : zokC zm69 = true := by decide +kernel
set_option maxRecDepth 100000 in
theorem zok70 : zokC zm70 = true := by decide +kernel
set_option maxRecDepth 100000 in
theorem zok71 : zokC zm71 = true := by decide +kernel
set_option maxRecDepth 100000 in
theorem zok72 : zokC zm72 = true := by decide +kernel
set_option maxRecDepth 100000 in
theorem zok73 : zokC zm73 = true := by decide +kernel
set_option maxRecDepth 100000 in
theorem zok74 : zokC zm74 = true := by decide +kernel
set_option maxRecDepth 100000 in
theorem zok75 : zokC zm75 = true := by decide +kernel
set_option maxRecDepth 100000 in
theorem zok76 : zokC zm76 = true := by decide +kernel
set_option maxRecDepth 100000 in
theorem zok77 : zokC zm77 = true := by decide +kernel
set_option maxRecDepth 100000 in
theorem zok78 : zokC zm78 = true := by decide +kernel
set_option maxRecDepth 100000 in
theorem zok79 : zokC zm79 = true := by decide +kernel
set_option maxRecDepth 100000 in
theorem zok80 : zokC zm80 = true := by decide +kernel
set_option maxRecDepth 100000 in
theorem zok81 : zokC zm81 = true := by decide +kernel
set_option maxRecDepth 100000 in
theorem zok82 : zokC zm82 = true := by decide +kernel
set_option maxRecDepth 100000 in
theorem zok83 : zokC zm83 = true := by decide +kernel
set_option maxRecDepth 100000 in
theorem zok84 : zokC zm84 = true := by decide +kernel
set_option maxRecDepth 100000 in
theorem zok85 : zokC zm85 = true := by decide +kernel
set_option maxRecDepth 100000 in
theorem zok86 : zokC zm86 = true := by decide +kernel
set_option maxRecDepth 100000 in
theorem zok87 : zokC zm87 = true := by decide +kernel
set_option maxRecDepth 100000 in
theorem zok88 : zokC zm88 = true := by decide +kernel
set_option maxRecDepth 100000 in
theorem zok89 : zokC zm89 = true := by decide +kernel
set_option maxRecDepth 100000 in
theorem zok90 : zokC zm90 = true := by decide +kernel
set_option maxRecDepth 100000 in
theorem zok91 : zokC zm91 = true := by decide +kernel
set_option maxRecDepth 100000 in
theorem zok92 : zokC zm92 = true := by decide +kernel
set_option maxRecDepth 100000 in
theorem zok93 : zokC zm93 = true := by decide +kernel
set_option maxRecDepth 100000 in
theorem zok94 : zokC zm94 = true := by decide +kernel
set_option maxRecDepth 100000 in
theorem zok95 : zokC zm95 = true := by decide +kernel
set_option maxRecDepth 100000 in
theorem zok96 : zokC zm96 = true := by decide +kernel
set_option maxRecDepth 100000 in
theorem zok97 : zokC zm97 = true := by decide +kernel
set_option maxRecDepth 100000 in
theorem zok98 : zokC zm98 = true := by decide +kernel
set_option maxRecDepth 100000 in
theorem zok99 : zokC zm99 = true := by decide +kernel
set_option maxRecDepth 100000 in
theorem zok100 : zokC zm100 = true := by decide +kernel
set_option maxRecDepth 100000 in
theorem zok101 : zokC zm101 = true := by decide +kernel
set_option maxRecDepth 100000 in
theorem zok102 : zokC zm102 = true := by decide +kernel
set_option maxRecDepth 100000 in
theorem zok103 : zokC zm103 = true := by decide +kernel
set_option maxRecDepth 100000 in
theorem zok104 : zokC zm104 = true := by decide +kernel
set_option maxRecDepth 100000 in
theorem zok105 : zokC zm105 = true := by decide +kernel
set_option maxRecDepth 100000 in
theorem zok106 : zokC zm106 = true := by decide +kernel
set_option maxRecDepth 100000 in
theorem zok107 : zokC zm107 = true := by decide +kernel
set_option maxRecDepth 100000 in
theorem zok108 : zokC zm108 = true := by decide +kernel
set_option maxRecDepth 100000 in
theorem zok109 : zokC zm109 = true := by decide +kernel
set_option maxRecDepth 100000 in
theorem zok110 : zokC zm110 = true := by decide +kernel
set_option maxRecDepth 100000 in
theorem zok111 : zokC zm111 = true := by decide +kernel
set_option maxRecDepth 100000 in
theorem zok112 : zokC zm112 = true := by decide +kernel
set_option maxRecDepth 100000 in
theorem zok113 : zokC zm113 = true := by decide +kernel
set_option maxRecDepth 100000 in
theorem zok114 : zokC zm114 = true := by decide +kernel
set_option maxRecDepth 100000 in
theorem zok115 : zokC zm115 = true := by decide +kernel
set_option maxRecDepth 100000 in
theorem zok116 : zokC zm116 = true := by decide +kernel
set_option maxRecDepth 100000 in
theorem zok117 : zokC zm117 = true := by decide +kernel
set_option maxRecDepth 100000 in
theorem zok118 : zokC zm118 = true := by decide +kernel
set_option maxRecDepth 100000 in
theorem zok119 : zokC zm119 = true := by decide +kernel
set_option maxRecDepth 100000 in
theorem zok120 : zokC zm120 = true := by decide +kernel
set_option maxRecDepth 100000 in
theorem zok121 : zokC zm121 = true := by decide +kernel
set_option maxRecDepth 100000 in
theorem zok122 : zokC zm122 = true := by decide +kernel
set_option maxRecDepth 100000 in
theorem zok123 : zokC zm123 = true := by decide +kernel
set_option maxRecDepth 100000 in
theorem zok124 : zokC zm124 = true := by decide +kernel
set_option maxRecDepth 100000 in
theorem zok125 : zokC zm125 = true := by decide +kernel
set_option maxRecDepth 100000 in
theorem zok126 : zokC zm126 = true := by decide +kernel
set_option maxRecDepth 100000 in
theorem zok127 : zokC zm127 = true := by decide +kernel
set_option maxRecDepth 100000 in
theorem zok128 : zokC zm128 = true := by decide +kernel
set_option maxRecDepth 100000 in
theorem zok129 : zokC zm129 = true := by decide +kernel
set_option maxRecDepth 100000 in
theorem zok130 : zokC zm130 = true := by decide +kernel
set_option maxRecDepth 100000 in
theorem zok131 : zokC zm131 = true := by decide +kernel
set_option maxRecDepth 100000 in
theorem zok132 : zokC zm132 = true := by decide +kernel
set_option maxRecDepth 100000 in
theorem zok133 : zokC zm133 = true := by decide +kernel
set_option maxRecDepth 100000 in
theorem zok134 : zokC zm134 = true := by decide +kernel
set_option maxRecDepth 100000 in
theorem zok135 : zokC zm135 = true := by decide +kernel
set_option maxRecDepth 100000 in
theorem zok136 : zokC zm136 = true := by decide +kernel
set_option maxRecDepth 100000 in
theorem zok137 : zokC zm137 = true := by decide +kernel
set_option maxRecDepth 100000 in
theorem zok138 : zokC zm138 = true := by decide +kernel
set_option maxRecDepth 100000 in
theorem zok139 : zokC zm139 = true := by decide +kernel
set_option maxRecDepth 100000 in
theorem zok140 : zokC zm140 = true := by decide +kernel
set_option maxRecDepth 100000 in
theorem zok141 : zokC zm141 = true := by decide +kernel
set_option maxRecDepth 100000 in
theorem zok142 : zokC zm142 = true := by decide +kernel
set_option maxRecDepth 100000 in
theorem zok143 : zokC zm143 = true := by decide +kernel
set_option maxRecDepth 100000 in
theorem zok144 : zokC zm144 = true := by decide +kernel
set_option maxRecDepth 100000 in
theorem zok145 : zokC zm145 = true := by decide +kernel
set_option maxRecDepth 100000 in
theorem zok146 : zokC zm146 = true := by decide +kernel
set_option maxRecDepth 100000 in
theorem zok147 : zokC zm147 = true := by decide +kernel
set_option maxRecDepth 100000 in
theorem zok148 : zokC zm148 = true := by decide +kernel
set_option maxRecDepth 100000 in
theorem zok149 : zokC zm149 = true := by decide +kernel
set_option maxRecDepth 100000 in
theorem zok150 : zokC zm150 = true := by decide +kernel
set_option maxRecDepth 100000 in
theorem zok151 : zokC zm151 = true := by decide +kernel
set_option maxRecDepth 100000 in
theorem zok152 : zokC zm152 = true := by decide +kernel
set_option maxRecDepth 100000 in
theorem zok153 : zokC zm153 = true := by decide +kernel
set_option maxRecDepth 100000 in
theorem zok154 : zokC zm154 = true := by decide +kernel
set_option maxRecDepth 100000 in
theorem zok155 : zokC zm155 = true := by decide +kernel
set_option maxRecDepth 100000 in
theorem zok156 : zokC zm156 = true := by decide +kernel
set_option maxRecDepth 100000 in
theorem zok157 : zokC zm157 = true := by decide +kernel
set_option maxRecDepth 100000 in
theorem zok158 : zokC zm158 = true := by decide +kernel
set_option maxRecDepth 100000 in
theorem zok159 : zokC zm159 = true := by decide +kernel
set_option maxRecDepth 100000 in
theorem zok160 : zokC zm160 = true := by decide +kernel
set_option maxRecDepth 100000 in
theorem zok161 : zokC zm161 = true := by decide +kernel
set_option maxRecDepth 100000 in
theorem zok162 : zokC zm162 = true := by decide +kernel
set_option maxRecDepth 100000 in
theorem zok163 : zokC zm163 = true := by decide +kernel
set_option maxRecDepth 100000 in
theorem zok164 : zokC zm164 = true := by decide +kernel
set_option maxRecDepth 100000 in
theorem zok165 : zokC zm165 = true := by decide +kernel
set_option maxRecDepth 100000 in
theorem zok166 : zokC zm166 = true := by decide +kernel
set_option maxRecDepth 100000 in
theorem zok167 : zokC zm167 = true := by decide +kernel
set_option maxRecDepth 100000 in
theorem zok168 : zokC zm168 = true := by decide +kernel
set_option maxRecDepth 100000 in
theorem zok169 : zokC zm169 = true := by decide +kernel
set_option maxRecDepth 100000 in
theorem zok170 : zokC zm170 = true := by decide +kernel
set_option maxRecDepth 100000 in
theorem zok171 : zokC zm171 = true := by decide +kernel
set_option maxRecDepth 100000 in
theorem zok172 : zokC zm172 = true := by decide +kernel
set_option maxRecDepth 100000 in
theorem zok173 : zokC zm173 = true := by decide +kernel
set_option maxRecDepth 100000 in
theorem zok174 : zokC zm174 = true := by decide +kernel
set_option maxRecDepth 100000 in
theorem zok175 : zokC zm175 = true := by decide +kernel
set_option maxRecDepth 100000 in
theorem zok176 : zokC zm176 = true := by decide +kernel
set_option maxRecDepth 100000 in
theorem zok177 : zokC zm177 = true := by decide +kernel
set_option maxRecDepth 100000 in
theorem zok178 : zokC zm178 = true := by decide +kernel
set_option maxRecDepth 100000 in
theorem zok179 : zokC zm179 = true := by decide +kernel
set_option maxRecDepth 100000 in
theorem zok180 : zokC zm180 = true := by decide +kernel
set_option maxRecDepth 100000 in
theorem zok181 : zokC zm181 = true := by decide +kernel
set_option maxRecDepth 100000 in
theorem zok182 : zokC zm182 = true := by decide +kernel
set_option maxRecDepth 100000 in
theorem zCode_ok : ∀ I ∈ zMT, zokC I = true := by
  show ∀ I ∈ [zm0, zm1, zm2, zm3, zm4, zm5, zm6, zm7, zm8, zm9, zm10, zm11, zm12, zm13, zm14, zm15, zm16, zm17, zm18, zm19, zm20, zm21, zm22, zm23, zm24, zm25, zm26, zm27, zm28, zm29, zm30, zm31, zm32, zm33, zm34, zm35, zm36, zm37, zm38, zm39, zm40, zm41, zm42, zm43, zm44, zm45, zm46, zm47, zm48, zm49, zm50, zm51, zm52, zm53, zm54, zm55, zm56, zm57, zm58, zm59, zm60, zm61, zm62, zm63, zm64, zm65, zm66, zm67, zm68, zm69, zm70, zm71, zm72, zm73, zm74, zm75, zm76, zm77, zm78, zm79, zm80, zm81, zm82, zm83, zm84, zm85, zm86, zm87, zm88, zm89, zm90, zm91, zm92, zm93, zm94, zm95, zm96, zm97, zm98, zm99, zm100, zm101, zm102, zm103, zm104, zm105, zm106, zm107, zm108, zm109, zm110, zm111, zm112, zm113, zm114, zm115, zm116, zm117, zm118, zm119, zm120, zm121, zm122, zm123, zm124, zm125, zm126, zm127, zm128, zm129, zm130, zm131, zm132, zm133, zm134, zm135, zm136, zm137, zm138, zm139, zm140, zm141, zm142, zm143, zm144, zm145, zm146, zm147, zm148, zm149, zm150, zm151, zm152, zm153, zm154, zm155, zm156, zm157, zm158, zm159, zm160, zm161, zm162, zm163, zm164, zm165, zm166, zm167, zm168, zm169, zm170, zm171, zm172, zm173, zm174, zm175, zm176, zm177, zm178, zm179, zm180, zm181, zm182], zokC I = true
  exact List.forall_mem_cons.mpr ⟨zok0, List.forall_mem_cons.mpr ⟨zok1, List.forall_mem_cons.mpr ⟨zok2, List.forall_mem_cons.mpr ⟨zok3, List.forall_mem_cons.mpr ⟨zok4, List.forall_mem_cons.mpr ⟨zok5, List.forall_mem_cons.mpr ⟨zok6, List.forall_mem_cons.mpr ⟨zok7, List.forall_mem_cons.mpr ⟨zok8, List.forall_mem_cons.mpr ⟨zok9, List.forall_mem_cons.mpr ⟨zok10, List.forall_mem_cons.mpr ⟨zok11, List.forall_mem_cons.mpr ⟨zok12, List.forall_mem_cons.mpr ⟨zok13, List.forall_mem_cons.mpr ⟨zok14, List.forall_mem_cons.mpr ⟨zok15, List.forall_mem_cons.mpr ⟨zok16, List.forall_mem_cons.mpr ⟨zok17, List.forall_mem_cons.mpr ⟨zok18, List.forall_mem_cons.mpr ⟨zok19, List.forall_mem_cons.mpr ⟨zok20, List.forall_mem_cons.mpr ⟨zok21, List.forall_mem_cons.mpr ⟨zok22, List.forall_mem_cons.mpr ⟨zok23, List.forall_mem_cons.mpr ⟨zok24, List.forall_mem_cons.mpr ⟨zok25, List.forall_mem_cons.mpr ⟨zok26, List.forall_mem_cons.mpr ⟨zok27, List.forall_mem_cons.mpr ⟨zok28, List.forall_mem_cons.mpr ⟨zok29, List.forall_mem_cons.mpr ⟨zok30, List.forall_mem_cons.mpr ⟨zok31, List.forall_mem_cons.mpr ⟨zok32, List.forall_mem_cons.mpr ⟨zok33, List.forall_mem_cons.mpr ⟨zok34, List.forall_mem_cons.mpr ⟨zok35, List.forall_mem_cons.mpr ⟨zok36, List.forall_mem_cons.mpr ⟨zok37, List.forall_mem_cons.mpr ⟨zok38, List.forall_mem_cons.mpr ⟨zok39, List.forall_mem_cons.mpr ⟨zok40, List.forall_mem_cons.mpr ⟨zok41, List.forall_mem_cons.mpr ⟨zok42, List.forall_mem_cons.mpr ⟨zok43, List.forall_mem_cons.mpr ⟨zok44, List.forall_mem_cons.mpr ⟨zok45, List.forall_mem_cons.mpr ⟨zok46, List.forall_mem_cons.mpr ⟨zok47, List.forall_mem_cons.mpr ⟨zok48, List.forall_mem_cons.mpr ⟨zok49, List.forall_mem_cons.mpr ⟨zok50, List.forall_mem_cons.mpr ⟨zok51, List.forall_mem_cons.mpr ⟨zok52, List.forall_mem_cons.mpr ⟨zok53, List.forall_mem_cons.mpr ⟨zok54, List.forall_mem_cons.mpr ⟨zok55, List.forall_mem_cons.mpr ⟨zok56, List.forall_mem_cons.mpr ⟨zok57, List.forall_mem_cons.mpr ⟨zok58, List.forall_mem_cons.mpr ⟨zok59, List.forall_mem_cons.mpr ⟨zok60, List.forall_mem_cons.mpr ⟨zok61, List.forall_mem_cons.mpr ⟨zok62, List.forall_mem_cons.mpr ⟨zok63, List.forall_mem_cons.mpr ⟨zok64, List.forall_mem_cons.mpr ⟨zok65, List.forall_mem_cons.mpr ⟨zok66, List.forall_mem_cons.mpr ⟨zok67, List.forall_mem_cons.mpr ⟨zok68, List.forall_mem_cons.mpr ⟨zok69, List.forall_mem_cons.mpr ⟨zok70, List.forall_mem_cons.mpr ⟨zok71, List.forall_mem_cons.mpr ⟨zok72, List.forall_mem_cons.mpr ⟨zok73, List.forall_mem_cons.mpr ⟨zok74, List.forall_mem_cons.mpr ⟨zok75, List.forall_mem_cons.mpr ⟨zok76, List.forall_mem_cons.mpr ⟨zok77, List.forall_mem_cons.mpr ⟨zok78, List.forall_mem_cons.mpr ⟨zok79, List.forall_mem_cons.mpr ⟨zok80, List.forall_mem_cons.mpr ⟨zok81, List.forall_mem_cons.mpr ⟨zok82, List.forall_mem_cons.mpr ⟨zok83, List.forall_mem_cons.mpr ⟨zok84, List.forall_mem_cons.mpr ⟨zok85, List.forall_mem_cons.mpr ⟨zok86, List.forall_mem_cons.mpr ⟨zok87, List.forall_mem_cons.mpr ⟨zok88, List.forall_mem_cons.mpr ⟨zok89, List.forall_mem_cons.mpr ⟨zok90, List.forall_mem_cons.mpr ⟨zok91, List.forall_mem_cons.mpr ⟨zok92, List.forall_mem_cons.mpr ⟨zok93, List.forall_mem_cons.mpr ⟨zok94, List.forall_mem_cons.mpr ⟨zok95, List.forall_mem_cons.mpr ⟨zok96, List.forall_mem_cons.mpr ⟨zok97, List.forall_mem_cons.mpr ⟨zok98, List.forall_mem_cons.mpr ⟨zok99, List.forall_mem_cons.mpr ⟨zok100, List.forall_mem_cons.mpr ⟨zok101, List.forall_mem_cons.mpr ⟨zok102, List.forall_mem_cons.mpr ⟨zok103, List.forall_mem_cons.mpr ⟨zok104, List.forall_mem_cons.mpr ⟨zok105, List.forall_mem_cons.mpr ⟨zok106, List.forall_mem_cons.mpr ⟨zok107, List.forall_mem_cons.mpr ⟨zok108, List.forall_mem_cons.mpr ⟨zok109, List.forall_mem_cons.mpr ⟨zok110, List.forall_mem_cons.mpr ⟨zok111, List.forall_mem_cons.mpr ⟨zok112, List.forall_mem_cons.mpr ⟨zok113, List.forall_mem_cons.mpr ⟨zok114, List.forall_mem_cons.mpr ⟨zok115, List.forall_mem_cons.mpr ⟨zok116, List.forall_mem_cons.mpr ⟨zok117, List.forall_mem_cons.mpr ⟨zok118, List.forall_mem_cons.mpr ⟨zok119, List.forall_mem_cons.mpr ⟨zok120, List.forall_mem_cons.mpr ⟨zok121, List.forall_mem_cons.mpr ⟨zok122, List.forall_mem_cons.mpr ⟨zok123, List.forall_mem_cons.mpr ⟨zok124, List.forall_mem_cons.mpr ⟨zok125, List.forall_mem_cons.mpr ⟨zok126, List.forall_mem_cons.mpr ⟨zok127, List.forall_mem_cons.mpr ⟨zok128, List.forall_mem_cons.mpr ⟨zok129, List.forall_mem_cons.mpr ⟨zok130, List.forall_mem_cons.mpr ⟨zok131, List.forall_mem_cons.mpr ⟨zok132, List.forall_mem_cons.mpr ⟨zok133, List.forall_mem_cons.mpr ⟨zok134, List.forall_mem_cons.mpr ⟨zok135, List.forall_mem_cons.mpr ⟨zok136, List.forall_mem_cons.mpr ⟨zok137, List.forall_mem_cons.mpr ⟨zok138, List.forall_mem_cons.mpr ⟨zok139, List.forall_mem_cons.mpr ⟨zok140, List.forall_mem_cons.mpr ⟨zok141, List.forall_mem_cons.mpr ⟨zok142, List.forall_mem_cons.mpr ⟨zok143, List.forall_mem_cons.mpr ⟨zok144, List.forall_mem_cons.mpr ⟨zok145, List.forall_mem_cons.mpr ⟨zok146, List.forall_mem_cons.mpr ⟨zok147, List.forall_mem_cons.mpr ⟨zok148, List.forall_mem_cons.mpr ⟨zok149, List.forall_mem_cons.mpr ⟨zok150, List.forall_mem_cons.mpr ⟨zok151, List.forall_mem_cons.mpr ⟨zok152, List.forall_mem_cons.mpr ⟨zok153, List.forall_mem_cons.mpr ⟨zok154, List.forall_mem_cons.mpr ⟨zok155, List.forall_mem_cons.mpr ⟨zok156, List.forall_mem_cons.mpr ⟨zok157, List.forall_mem_cons.mpr ⟨zok158, List.forall_mem_cons.mpr ⟨zok159, List.forall_mem_cons.mpr ⟨zok160, List.forall_mem_cons.mpr ⟨zok161, List.forall_mem_cons.mpr ⟨zok162, List.forall_mem_cons.mpr ⟨zok163, List.forall_mem_cons.mpr ⟨zok164, List.forall_mem_cons.mpr ⟨zok165, List.forall_mem_cons.mpr ⟨zok166, List.forall_mem_cons.mpr ⟨zok167, List.forall_mem_cons.mpr ⟨zok168, List.forall_mem_cons.mpr ⟨zok169, List.forall_mem_cons.mpr ⟨zok170, List.forall_mem_cons.mpr ⟨zok171, List.forall_mem_cons.mpr ⟨zok172, List.forall_mem_cons.mpr ⟨zok173, List.forall_mem_cons.mpr ⟨zok174, List.forall_mem_cons.mpr ⟨zok175, List.forall_mem_cons.mpr ⟨zok176, List.forall_mem_cons.mpr ⟨zok177, List.forall_mem_cons.mpr ⟨zok178, List.forall_mem_cons.mpr ⟨zok179, List.forall_mem_cons.mpr ⟨zok180, List.forall_mem_cons.mpr ⟨zok181, List.forall_mem_cons.mpr ⟨zok182, fun _ h => absurd h List.not_mem_nil⟩⟩⟩⟩⟩⟩⟩⟩⟩⟩⟩⟩⟩⟩⟩⟩⟩⟩⟩⟩⟩⟩⟩⟩⟩⟩⟩⟩⟩⟩⟩⟩⟩⟩⟩⟩⟩⟩⟩⟩⟩⟩⟩⟩⟩⟩⟩⟩⟩⟩⟩⟩⟩⟩⟩⟩⟩⟩⟩⟩⟩⟩⟩⟩⟩⟩⟩⟩⟩⟩⟩⟩⟩⟩⟩⟩⟩⟩⟩⟩⟩⟩⟩⟩⟩⟩⟩⟩⟩⟩⟩⟩⟩⟩⟩⟩⟩⟩⟩⟩⟩⟩⟩⟩⟩⟩⟩⟩⟩⟩⟩⟩⟩⟩⟩⟩⟩⟩⟩⟩⟩⟩⟩⟩⟩⟩⟩⟩⟩⟩⟩⟩⟩⟩⟩⟩⟩⟩⟩⟩⟩⟩⟩⟩⟩⟩⟩⟩⟩⟩⟩⟩⟩⟩⟩⟩⟩⟩⟩⟩⟩⟩⟩⟩⟩⟩⟩⟩⟩⟩⟩⟩⟩⟩⟩⟩⟩⟩⟩⟩⟩⟩⟩
end
section
set_option maxRecDepth 100000 in
theorem zcw0 : lw_tbl[zm0.2.2.2.2.2.2.1.1]? = some (.code zm0.1 zm0.2.1 zm0.2.2.1 zm0.2.2.2.1) := by rfl
set_option maxRecDepth 100000 in
theorem zcw1 : lw_tbl[zm1.2.2.2.2.2.2.1.1]? = some (.code zm1.1 zm1.2.1 zm1.2.2.1 zm1.2.2.2.1) := by rfl
set_option maxRecDepth 100000 in
theorem zcw2 : lw_tbl[zm2.2.2.2.2.2.2.1.1]? = some (.code zm2.1 zm2.2.1 zm2.2.2.1 zm2.2.2.2.1) := by rfl
set_option maxRecDepth 100000 in
theorem zcw3 : lw_tbl[zm3.2.2.2.2.2.2.1.1]? = some (.code zm3.1 zm3.2.1 zm3.2.2.1 zm3.2.2.2.1) := by rfl
set_option maxRecDepth 100000 in
theorem zcw4 : lw_tbl[zm4.2.2.2.2.2.2.1.1]? = some (.code zm4.1 zm4.2.1 zm4.2.2.1 zm4.2.2.2.1) := by rfl
set_option maxRecDepth 100000 in
theorem zcw5 : lw_tbl[zm5.2.2.2.2.2.2.1.1]? = some (.code zm5.1 zm5.2.1 zm5.2.2.1 zm5.2.2.2.1) := by rfl
set_option maxRecDepth 100000 in
theorem zcw6 : lw_tbl[zm6.2.2.2.2.2.2.1.1]? = some (.code zm6.1 zm6.2.1 zm6.2.2.1 zm6.2.2.2.1) := by rfl
set_option maxRecDepth 100000 in
theorem zcw7 : lw_tbl[zm7.2.2.2.2.2.2.1.1]? = some (.code zm7.1 zm7.2.1 zm7.2.2.1 zm7.2.2.2.1) := by rfl
set_option maxRecDepth 100000 in
theorem zcw8 : lw_tbl[zm8.2.2.2.2.2.2.1.1]? = some (.code zm8.1 zm8.2.1 zm8.2.2.1 zm8.2.2.2.1) := by rfl
set_option maxRecDepth 100000 in
theorem zcw9 : lw_tbl[zm9.2.2.2.2.2.2.1.1]? = some (.code zm9.1 zm9.2.1 zm9.2.2.1 zm9.2.2.2.1) := by rfl
set_option maxRecDepth 100000 in
theorem zcw10 : lw_tbl[zm10.2.2.2.2.2.2.1.1]? = some (.code zm10.1 zm10.2.1 zm10.2.2.1 zm10.2.2.2.1) := by rfl
set_option maxRecDepth 100000 in
theorem zcw11 : lw_tbl[zm11.2.2.2.2.2.2.1.1]? = some (.code zm11.1 zm11.2.1 zm11.2.2.1 zm11.2.2.2.1) := by rfl
set_option maxRecDepth 100000 in
theorem zcw12 : lw_tbl[zm12.2.2.2.2.2.2.1.1]? = some (.code zm12.1 zm12.2.1 zm12.2.2.1 zm12.2.2.2.1) := by rfl
set_option maxRecDepth 100000 in
theorem zcw13 : lw_tbl[zm13.2.2.2.2.2.2.1.1]? = some (.code zm13.1 zm13.2.1 zm13.2.2.1 zm13.2.2.2.1) := by rfl
set_option maxRecDepth 100000 in
theorem zcw14 : lw_tbl[zm14.2.2.2.2.2.2.1.1]? = some (.code zm14.1 zm14.2.1 zm14.2.2.1 zm14.2.2.2.1) := by rfl
set_option maxRecDepth 100000 in
theorem zcw15 : lw_tbl[zm15.2.2.2.2.2.2.1.1]? = some (.code zm15.1 zm15.2.1 zm15.2.2.1 zm15.2.2.2.1) := by rfl
set_option maxRecDepth 100000 in
theorem zcw16 : lw_tbl[zm16.2.2.2.2.2.2.1.1]? = some (.code zm16.1 zm16.2.1 zm16.2.2.1 zm16.2.2.2.1) := by rfl
set_option maxRecDepth 100000 in
theorem zcw17 : lw_tbl[zm17.2.2.2.2.2.2.1.1]? = some (.code zm17.1 zm17.2.1 zm17.2.2.1 zm17.2.2.2.1) := by rfl
set_option maxRecDepth 100000 in
theorem zcw18 : lw_tbl[zm18.2.2.2.2.2.2.1.1]? = some (.code zm18.1 zm18.2.1 zm18.2.2.1 zm18.2.2.2.1) := by rfl
set_option maxRecDepth 100000 in
theorem zcw19 : lw_tbl[zm19.2.2.2.2.2.2.1.1]? = some (.code zm19.1 zm19.2.1 zm19.2.2.1 zm19.2.2.2.1) := by rfl
set_option maxRecDepth 100000 in
theorem zcw20 : lw_tbl[zm20.2.2.2.2.2.2.1.1]? = some (.code zm20.1 zm20.2.1 zm20.2.2.1 zm20.2.2.2.1) := by rfl
set_option maxRecDepth 100000 in
theorem zcw21 : lw_tbl[zm21.2.2.2.2.2.2.1.1]? = some (.code zm21.1 zm21.2.1 zm21.2.2.1 zm21.2.2.2.1) := by rfl
set_option maxRecDepth 100000 in
theorem zcw22 : lw_tbl[zm22.2.2.2.2.2.2.1.1]? = some (.code zm22.1 zm22.2.1 zm22.2.2.1 zm22.2.2.2.1) := by rfl
set_option maxRecDepth 100000 in
theorem zcw23 : lw_tbl[zm23.2.2.2.2.2.2.1.1]? = some (.code zm23.1 zm23.2.1 zm23.2.2.1 zm23.2.2.2.1) := by rfl
set_option maxRecDepth 100000 in
theorem zcw24 : lw_tbl[zm24.2.2.2.2.2.2.1.1]? = some (.code zm24.1 zm24.2.1 zm24.2.2.1 zm24.2.2.2.1) := by rfl
set_option maxRecDepth 100000 in
theorem zcw25 : lw_tbl[zm25.2.2.2.2.2.2.1.1]? = some (.code zm25.1 zm25.2.1 zm25.2.2.1 zm25.2.2.2.1) := by rfl
set_option maxRecDepth 100000 in
theorem zcw26 : lw_tbl[zm26.2.2.2.2.2.2.1.1]? = some (.code zm26.1 zm26.2.1 zm26.2.2.1 zm26.2.2.2.1) := by rfl
set_option maxRecDepth 100000 in
theorem zcw27 : lw_tbl[zm27.2.2.2.2.2.2.1.1]? = some (.code zm27.1 zm27.2.1 zm27.2.2.1 zm27.2.2.2.1) := by rfl
set_option maxRecDepth 100000 in
theorem zcw28 : lw_tbl[zm28.2.2.2.2.2.2.1.1]? = some (.code zm28.1 zm28.2.1 zm28.2.2.1 zm28.2.2.2.1) := by rfl
set_option maxRecDepth 100000 in
theorem zcw29 : lw_tbl[zm29.2.2.2.2.2.2.1.1]? = some (.code zm29.1 zm29.2.1 zm29.2.2.1 zm29.2.2.2.1) := by rfl
set_option maxRecDepth 100000 in
theorem zcw30 : lw_tbl[zm30.2.2.2.2.2.2.1.1]? = some (.code zm30.1 zm30.2.1 zm30.2.2.1 zm30.2.2.2.1) := by rfl
set_option maxRecDepth 100000 in
theorem zcw31 : lw_tbl[zm31.2.2.2.2.2.2.1.1]? = some (.code zm31.1 zm31.2.1 zm31.2.2.1 zm31.2.2.2.1) := by rfl
set_option maxRecDepth 100000 in
theorem zcw32 : lw_tbl[zm32.2.2.2.2.2.2.1.1]? = some (.code zm32.1 zm32.2.1 zm32.2.2.1 zm32.2.2.2.1) := by rfl
set_option maxRecDepth 100000 in
theorem zcw33 : lw_tbl[zm33.2.2.2.2.2.2.1.1]? = some (.code zm33.1 zm33.2.1 zm33.2.2.1 zm33.2.2.2.1) := by rfl
set_option maxRecDepth 100000 in
theorem zcw34 : lw_tbl[zm34.2.2.2.2.2.2.1.1]? = some (.code zm34.1 zm34.2.1 zm34.2.2.1 zm34.2.2.2.1) := by rfl
set_option maxRecDepth 100000 in
theorem zcw35 : lw_tbl[zm35.2.2.2.2.2.2.1.1]? = some (.code zm35.1 zm35.2.1 zm35.2.2.1 zm35.2.2.2.1) := by rfl
set_option maxRecDepth 100000 in
theorem zcw36 : lw_tbl[zm36.2.2.2.2.2.2.1.1]? = some (.code zm36.1 zm36.2.1 zm36.2.2.1 zm36.2.2.2.1) := by rfl
set_option maxRecDepth 100000 in
theorem zcw37 : lw_tbl[zm37.2.2.2.2.2.2.1.1]? = some (.code zm37.1 zm37.2.1 zm37.2.2.1 zm37.2.2.2.1) := by rfl
set_option maxRecDepth 100000 in
theorem zcw38 : lw_tbl[zm38.2.2.2.2.2.2.1.1]? = some (.code zm38.1 zm38.2.1 zm38.2.2.1 zm38.2.2.2.1) := by rfl
set_option maxRecDepth 100000 in
theorem zcw39 : lw_tbl[zm39.2.2.2.2.2.2.1.1]? = some (.code zm39.1 zm39.2.1 zm39.2.2.1 zm39.2.2.2.1) := by rfl
set_option maxRecDepth 100000 in
theorem zcw40 : lw_tbl[zm40.2.2.2.2.2.2.1.1]? = some (.code zm40.1 zm40.2.1 zm40.2.2.1 zm40.2.2.2.1) := by rfl
set_option maxRecDepth 100000 in
theorem zcw41 : lw_tbl[zm41.2.2.2.2.2.2.1.1]? = some (.code zm41.1 zm41.2.1 zm41.2.2.1 zm41.2.2.2.1) := by rfl
set_option maxRecDepth 100000 in
theorem zcw42 : lw_tbl[zm42.2.2.2.2.2.2.1.1]? = some (.code zm42.1 zm42.2.1 zm42.2.2.1 zm42.2.2.2.1) := by rfl
set_option maxRecDepth 100000 in
theorem zcw43 : lw_tbl[zm43.2.2.2.2.2.2.1.1]? = some (.code zm43.1 zm43.2.1 zm43.2.2.1 zm43.2.2.2.1) := by rfl
set_option maxRecDepth 100000 in
theorem zcw44 : lw_tbl[zm44.2.2.2.2.2.2.1.1]? = some (.code zm44.1 zm44.2.1 zm44.2.2.1 zm44.2.2.2.1) := by rfl
set_option maxRecDepth 100000 in
theorem zcw45 : lw_tbl[zm45.2.2.2.2.2.2.1.1]? = some (.code zm45.1 zm45.2.1 zm45.2.2.1 zm45.2.2.2.1) := by rfl
set_option maxRecDepth 100000 in
theorem zcw46 : lw_tbl[zm46.2.2.2.2.2.2.1.1]? = some (.code zm46.1 zm46.2.1 zm46.2.2.1 zm46.2.2.2.1) := by rfl
set_option maxRecDepth 100000 in
theorem zcw47 : lw_tbl[zm47.2.2.2.2.2.2.1.1]? = some (.code zm47.1 zm47.2.1 zm47.2.2.1 zm47.2.2.2.1) := by rfl
set_option maxRecDepth 100000 in
theorem zcw48 : lw_tbl[zm48.2.2.2.2.2.2.1.1]? = some (.code zm48.1 zm48.2.1 zm48.2.2.1 zm48.2.2.2.1) := by rfl
set_option maxRecDepth 100000 in
theorem zcw49 : lw_tbl[zm49.2.2.2.2.2.2.1.1]? = some (.code zm49.1 zm49.2.1 zm49.2.2.1 zm49.2.2.2.1) := by rfl
set_option maxRecDepth 100000 in
theorem zcw50 : lw_tbl[zm50.2.2.2.2.2.2.1.1]? = some (.code zm50.1 zm50.2.1 zm50.2.2.1 zm50.2.2.2.1) := by rfl
set_option maxRecDepth 100000 in
theorem zcw51 : lw_tbl[zm51.2.2.2.2.2.2.1.1]? = some (.code zm51.1 zm51.2.1 zm51.2.2.1 zm51.2.2.2.1) := by rfl
set_option maxRecDepth 100000 in
theorem zcw52 : lw_tbl[zm52.2.2.2.2.2.2.1.1]? = some (.code zm52.1 zm52.2.1 zm52.2.2.1 zm52.2.2.2.1) := by rfl
set_option maxRecDepth 100000 in
theorem zcw53 : lw_tbl[zm53.2.2.2.2.2.2.1.1]? = some (.code zm53.1 zm53.2.1 zm53.2.2.1 zm53.2.2.2.1) := by rfl
set_option maxRecDepth 100000 in
theorem zcw54 : lw_tbl[zm54.2.2.2.2.2.2.1.1]? = some (.code zm54.1 zm54.2.1 zm54.2.2.1 zm54.2.2.2.1) := by rfl
set_option maxRecDepth 100000 in
theorem zcw55 : lw_tbl[zm55.2.2.2.2.2.2.1.1]? = some (.code zm55.1 zm55.2.1 zm55.2.2.1 zm55.2.2.2.1) := by rfl
set_option maxRecDepth 100000 in
theorem zcw56 : lw_tbl[zm56.2.2.2.2.2.2.1.1]? = some (.code zm56.1 zm56.2.1 zm56.2.2.1 zm56.2.2.2.1) := by rfl
set_option maxRecDepth 100000 in
theorem zcw57 : lw_tbl[zm57.2.2.2.2.2.2.1.1]? = some (.code zm57.1 zm57.2.1 zm57.2.2.1 zm57.2.2.2.1) := by rfl
set_option maxRecDepth 100000 in
theorem zcw58 : lw_tbl[zm58.2.2.2.2.2.2.1.1]? = some (.code zm58.1 zm58.2.1 zm58.2.2.1 zm58.2.2.2.1) := by rfl
set_option maxRecDepth 100000 in
theorem zcw59 : lw_tbl[zm59.2.2.2.2.2.2.1.1]? = some (.code zm59.1 zm59.2.1 zm59.2.2.1 zm59.2.2.2.1) := by rfl
set_option maxRecDepth 100000 in
theorem zcw60 : lw_tbl[zm60.2.2.2.2.2.2.1.1]? = some (.code zm60.1 zm60.2.1 zm60.2.2.1 zm60.2.2.2.1) := by rfl
set_option maxRecDepth 100000 in
theorem zcw61 : lw_tbl[zm61.2.2.2.2.2.2.1.1]? = some (.code zm61.1 zm61.2.1 zm61.2.2.1 zm61.2.2.2.1) := by rfl
set_option maxRecDepth 100000 in
theorem zcw62 : lw_tbl[zm62.2.2.2.2.2.2.1.1]? = some (.code zm62.1 zm62.2.1 zm62.2.2.1 zm62.2.2.2.1) := by rfl
set_option maxRecDepth 100000 in
theorem zcw63 : lw_tbl[zm63.2.2.2.2.2.2.1.1]? = some (.code zm63.1 zm63.2.1 zm63.2.2.1 zm63.2.2.2.1) := by rfl
set_option maxRecDepth 100000 in
theorem zcw64 : lw_tbl[zm64.2.2.2.2.2.2.1.1]? = some (.code zm64.1 zm64.2.1 zm64.2.2.1 zm64.2.2.2.1) := by rfl
set_option maxRecDepth 100000 in
theorem zcw65 : lw_tbl[zm65.2.2.2.2.2.2.1.1]? = some (.code zm65.1 zm65.2.1 zm65.2.2.1 zm65.2.2.2.1) := by rfl
set_option maxRecDepth 100000 in
theorem zcw66 : lw_tbl[zm66.2.2.2.2.2.2.1.1]? = some (.code zm66.1 zm66.2.1 zm66.2.2.1 zm66.2.2.2.1) := by rfl
set_option maxRecDepth 100000 in
theorem zcw67 : lw_tbl[zm67.2.2.2.2.2.2.1.1]? = some (.code zm67.1 zm67.2.1 zm67.2.2.1 zm67.2.2.2.1) := by rfl
set_option maxRecDepth 100000 in
theorem zcw68 : lw_tbl[zm68.2.2.2.2.2.2.1.1]? = some (.code zm68.1 zm68.2.1 zm68.2.2.1 zm68.2.2.2.1) := by rfl
set_option maxRecDepth 100000 in
theorem zcw69 : lw_tbl[zm69.2.2.2.2.2.2.1.1]? = some (.code zm69.1 zm69.2.1 zm69.2.2.1 zm69.2.2.2.1) := by rfl
set_option maxRecDepth 100000 in
theorem zcw70 : lw_tbl[zm70.2.2.2.2.2.2.1.1]? = some (.code zm70.1 zm70.2.1 zm70.2.2.1 zm70.2.2.2.1) := by rfl
set_option maxRecDepth 100000 in
theorem zcw71 : lw_tbl[zm71.2.2.2.2.2.2.1.1]? = some (.code zm71.1 zm71.2.1 zm71.2.2.1 zm71.2.2.2.1) := by rfl
set_option maxRecDepth 100000 in
theorem zcw72 : lw_tbl[zm72.2.2.2.2.2.2.1.1]? = some (.code zm72.1 zm72.2.1 zm72.2.2.1 zm72.2.2.2.1) := by rfl
set_option maxRecDepth 100000 in
theorem zcw73 : lw_tbl[zm73.2.2.2.2.2.2.1.1]? = some (.code zm73.1 zm73.2.1 zm73.2.2.1 zm73.2.2.2.1) := by rfl
set_option maxRecDepth 100000 in
theorem zcw74 : lw_tbl[zm74.2.2.2.2.2.2.1.1]? = some (.code zm74.1 zm74.2.1 zm74.2.2.1 zm74.2.2.2.1) := by rfl
set_option maxRecDepth 100000 in
theorem zcw75 : lw_tbl[zm75.2.2.2.2.2.2.1.1]? = some (.code zm75.1 zm75.2.1 zm75.2.2.1 zm75.2.2.2.1) := by rfl
set_option maxRecDepth 100000 in
theorem zcw76 : lw_tbl[zm76.2.2.2.2.2.2.1.1]? = some (.code zm76.1 zm76.2.1 zm76.2.2.1 zm76.2.2.2.1) := by rfl
set_option maxRecDepth 100000 in
theorem zcw77 : lw_tbl[zm77.2.2.2.2.2.2.1.1]? = some (.code zm77.1 zm77.2.1 zm77.2.2.1 zm77.2.2.2.1) := by rfl
set_option maxRecDepth 100000 in
theorem zcw78 : lw_tbl[zm78.2.2.2.2.2.2.1.1]? = some (.code zm78.1 zm78.2.1 zm78.2.2.1 zm78.2.2.2.1) := by rfl
set_option maxRecDepth 100000 in
theorem zcw79 : lw_tbl[zm79.2.2.2.2.2.2.1.1]? = some (.code zm79.1 zm79.2.1 zm79.2.2.1 zm79.2.2.2.1) := by rfl
set_option maxRecDepth 100000 in
theorem zcw80 : lw_tbl[zm80.2.2.2.2.2.2.1.1]? = some (.code zm80.1 zm80.2.1 zm80.2.2.1 zm80.2.2.2.1) := by rfl
set_option maxRecDepth 100000 in
theorem zcw81 : lw_tbl[zm81.2.2.2.2.2.2.1.1]? = some (.code zm81.1 zm81.2.1 zm81.2.2.1 zm81.2.2.2.1) := by rfl
set_option maxRecDepth 100000 in
theorem zcw82 : lw_tbl[zm82.2.2.2.2.2.2.1.1]? = some (.code zm82.1 zm82.2.1 zm82.2.2.1 zm82.2.2.2.1) := by rfl
set_option maxRecDepth 100000 in
theorem zcw83 : lw_tbl[zm83.2.2.2.2.2.2.1.1]? = some (.code zm83.1 zm83.2.1 zm83.2.2.1 zm83.2.2.2.1) := by rfl
set_option maxRecDepth 100000 in
theorem zcw84 : lw_tbl[zm84.2.2.2.2.2.2.1.1]? = some (.code zm84.1 zm84.2.1 zm84.2.2.1 zm84.2.2.2.1) := by rfl
set_option maxRecDepth 100000 in
theorem zcw85 : lw_tbl[zm85.2.2.2.2.2.2.1.1]? = some (.code zm85.1 zm85.2.1 zm85.2.2.1 zm85.2.2.2.1) := by rfl
set_option maxRecDepth 100000 in
theorem zcw86 : lw_tbl[zm86.2.2.2.2.2.2.1.1]? = some (.code zm86.1 zm86.2.1 zm86.2.2.1 zm86.2.2.2.1) := by rfl
set_option maxRecDepth 100000 in
theorem zcw87 : lw_tbl[zm87.2.2.2.2.2.2.1.1]? = some (.code zm87.1 zm87.2.1 zm87.2.2.1 zm87.2.2.2.1) := by rfl
set_option maxRecDepth 100000 in
theorem zcw88 : lw_tbl[zm88.2.2.2.2.2.2.1.1]? = some (.code zm88.1 zm88.2.1 zm88.2.2.1 zm88.2.2.2.1) := by rfl
set_option maxRecDepth 100000 in
theorem zcw89 : lw_tbl[zm89.2.2.2.2.2.2.1.1]? = some (.code zm89.1 zm89.2.1 zm89.2.2.1 zm89.2.2.2.1) := by rfl
set_option maxRecDepth 100000 in
theorem zcw90 : lw_tbl[zm90.2.2.2.2.2.2.1.1]? = some (.code zm90.1 zm90.2.1 zm90.2.2.1 zm90.2.2.2.1) := by rfl
set_option maxRecDepth 100000 in
theorem zcw91 : lw_tbl[zm91.2.2.2.2.2.2.1.1]? = some (.code zm91.1 zm91.2.1 zm91.2.2.1 zm91.2.2.2.1) := by rfl
set_option maxRecDepth 100000 in
theorem zcw92 : lw_tbl[zm92.2.2.2.2.2.2.1.1]? = some (.code zm92.1 zm92.2.1 zm92.2.2.1 zm92.2.2.2.1) := by rfl
set_option maxRecDepth 100000 in
theorem zcw93 : lw_tbl[zm93.2.2.2.2.2.2.1.1]? = some (.code zm93.1 zm93.2.1 zm93.2.2.1 zm93.2.2.2.1) := by rfl
set_option maxRecDepth 100000 in
theorem zcw94 : lw_tbl[zm94.2.2.2.2.2.2.1.1]? = some (.code zm94.1 zm94.2.1 zm94.2.2.1 zm94.2.2.2.1) := by rfl
set_option maxRecDepth 100000 in
theorem zcw95 : lw_tbl[zm95.2.2.2.2.2.2.1.1]? = some (.code zm95.1 zm95.2.1 zm95.2.2.1 zm95.2.2.2.1) := by rfl
set_option maxRecDepth 100000 in
theorem zcw96 : lw_tbl[zm96.2.2.2.2.2.2.1.1]? = some (.code zm96.1 zm96.2.1 zm96.2.2.1 zm96.2.2.2.1) := by rfl
set_option maxRecDepth 100000 in
theorem zcw97 : lw_tbl[zm97.2.2.2.2.2.2.1.1]? = some (.code zm97.1 zm97.2.1 zm97.2.2.1 zm97.2.2.2.1) := by rfl
set_option maxRecDepth 100000 in
theorem zcw98 : lw_tbl[zm98.2.2.2.2.2.2.1.1]? = some (.code zm98.1 zm98.2.1 zm98.2.2.1 zm98.2.2.2.1) := by rfl
set_option maxRecDepth 100000 in
theorem zcw99 : lw_tbl[zm99.2.2.2.2.2.2.1.1]? = some (.code zm99.1 zm99.2.1 zm99.2.2.1 zm99.2.2.2.1) := by rfl
set_option maxRecDepth 100000 in
theorem zcw100 : lw_tbl[zm100.2.2.2.2.2.2.1.1]? = some (.code zm100.1 zm100.2.1 zm100.2.2.1 zm100.2.2.2.1) := by rfl
set_option maxRecDepth 100000 in
theorem zcw101 : lw_tbl[zm101.2.2.2.2.2.2.1.1]? = some (.code zm101.1 zm101.2.1 zm101.2.2.1 zm101.2.2.2.1) := by rfl
set_option maxRecDepth 100000 in
theorem zcw102 : lw_tbl[zm102.2.2.2.2.2.2.1.1]? = some (.code zm102.1 zm102.2.1 zm102.2.2.1 zm102.2.2.2.1) := by rfl
set_option maxRecDepth 100000 in
theorem zcw103 : lw_tbl[zm103.2.2.2.2.2.2.1.1]? = some (.code zm103.1 zm103.2.1 zm103.2.2.1 zm103.2.2.2.1) := by rfl
set_option maxRecDepth 100000 in
theorem zcw104 : lw_tbl[zm104.2.2.2.2.2.2.1.1]? = some (.code zm104.1 zm104.2.1 zm104.2.2.1 zm104.2.2.2.1) := by rfl
set_option maxRecDepth 100000 in
theorem zcw105 : lw_tbl[zm105.2.2.2.2.2.2.1.1]? = some (.code zm105.1 zm105.2.1 zm105.2.2.1 zm105.2.2.2.1) := by rfl
set_option maxRecDepth 100000 in
theorem zcw106 : lw_tbl[zm106.2.2.2.2.2.2.1.1]? = some (.code zm106.1 zm106.2.1 zm106.2.2.1 zm106.2.2.2.1) := by rfl
set_option maxRecDepth 100000 in
theorem zcw107 : lw_tbl[zm107.2.2.2.2.2.2.1.1]? = some (.code zm107.1 zm107.2.1 zm107.2.2.1 zm107.2.2.2.1) := by rfl
set_option maxRecDepth 100000 in
theorem zcw108 : lw_tbl[zm108.2.2.2.2.2.2.1.1]? = some (.code zm108.1 zm108.2.1 zm108.2.2.1 zm108.2.2.2.1) := by rfl
set_option maxRecDepth 100000 in
theorem zcw109 : lw_tbl[zm109.2.2.2.2.2.2.1.1]? = some (.code zm109.1 zm109.2.1 zm109.2.2.1 zm109.2.2.2.1) := by rfl
set_option maxRecDepth 100000 in
theorem zcw110 : lw_tbl[zm110.2.2.2.2.2.2.1.1]? = some (.code zm110.1 zm110.2.1 zm110.2.2.1 zm110.2.2.2.1) := by rfl
set_option maxRecDepth 100000 in
theorem zcw111 : lw_tbl[zm111.2.2.2.2.2.2.1.1]? = some (.code zm111.1 zm111.2.1 zm111.2.2.1 zm111.2.2.2.1) := by rfl
set_option maxRecDepth 100000 in
theorem zcw112 : lw_tbl[zm112.2.2.2.2.2.2.1.1]? = some (.code zm112.1 zm112.2.1 zm112.2.2.1 zm112.2.2.2.1) := by rfl
set_option maxRecDepth 100000 in
theorem zcw113 : lw_tbl[zm113.2.2.2.2.2.2.1.1]? = some (.code zm113.1 zm113.2.1 zm113.2.2.1 zm113.2.2.2.1) := by rfl
set_option maxRecDepth 100000 in
theorem zcw114 : lw_tbl[zm114.2.2.2.2.2.2.1.1]? = some (.code zm114.1 zm114.2.1 zm114.2.2.1 zm114.2.2.2.1) := by rfl
set_option maxRecDepth 100000 in
theorem zcw115 : lw_tbl[zm115.2.2.2.2.2.2.1.1]? = some (.code zm115.1 zm115.2.1 zm115.2.2.1 zm115.2.2.2.1) := by rfl
set_option maxRecDepth 100000 in
theorem zcw116 : lw_tbl[zm116.2.2.2.2.2.2.1.1]? = some (.code zm116.1 zm116.2.1 zm116.2.2.1 zm116.2.2.2.1) := by rfl
set_option maxRecDepth 100000 in
theorem zcw117 : lw_tbl[zm117.2.2.2.2.2.2.1.1]? = some (.code zm117.1 zm117.2.1 zm117.2.2.1 zm117.2.2.2.1) := by rfl
set_option maxRecDepth 100000 in
theorem zcw118 : lw_tbl[zm118.2.2.2.2.2.2.1.1]? = some (.code zm118.1 zm118.2.1 zm118.2.2.1 zm118.2.2.2.1) := by rfl
set_option maxRecDepth 100000 in
theorem zcw119 : lw_tbl[zm119.2.2.2.2.2.2.1.1]? = some (.code zm119.1 zm119.2.1 zm119.2.2.1 zm119.2.2.2.1) := by rfl
set_option maxRecDepth 100000 in
theorem zcw120 : lw_tbl[zm120.2.2.2.2.2.2.1.1]? = some (.code zm120.1 zm120.2.1 zm120.2.2.1 zm120.2.2.2.1) := by rfl
set_option maxRecDepth 100000 in
theorem zcw121 : lw_tbl[zm121.2.2.2.2.2.2.1.1]? = some (.code zm121.1 zm121.2.1 zm121.2.2.1 zm121.2.2.2.1) := by rfl
set_option maxRecDepth 100000 in
theorem zcw122 : lw_tbl[zm122.2.2.2.2.2.2.1.1]? = some (.code zm122.1 zm122.2.1 zm122.2.2.1 zm122.2.2.2.1) := by rfl
set_option maxRecDepth 100000 in
theorem zcw123 : lw_tbl[zm123.2.2.2.2.2.2.1.1]? = some (.code zm123.1 zm123.2.1 zm123.2.2.1 zm123.2.2.2.1) := by rfl
set_option maxRecDepth 100000 in
theorem zcw124 : lw_tbl[zm124.2.2.2.2.2.2.1.1]? = some (.code zm124.1 zm124.2.1 zm124.2.2.1 zm124.2.2.2.1) := by rfl
set_option maxRecDepth 100000 in
theorem zcw125 : lw_tbl[zm125.2.2.2.2.2.2.1.1]? = some (.code zm125.1 zm125.2.1 zm125.2.2.1 zm125.2.2.2.1) := by rfl
set_option maxRecDepth 100000 in
theorem zcw126 : lw_tbl[zm126.2.2.2.2.2.2.1.1]? = some (.code zm126.1 zm126.2.1 zm126.2.2.1 zm126.2.2.2.1) := by rfl
set_option maxRecDepth 100000 in
theorem zcw127 : lw_tbl[zm127.2.2.2.2.2.2.1.1]? = some (.code zm127.1 zm127.2.1 zm127.2.2.1 zm127.2.2.2.1) := by rfl
set_option maxRecDepth 100000 in
theorem zcw128 : lw_tbl[zm128.2.2.2.2.2.2.1.1]? = some (.code zm128.1 zm128.2.1 zm128.2.2.1 zm128.2.2.2.1) := by rfl
set_option maxRecDepth 100000 in
theorem zcw129 : lw_tbl[zm129.2.2.2.2.2.2.1.1]? = some (.code zm129.1 zm129.2.1 zm129.2.2.1 zm129.2.2.2.1) := by rfl
set_option maxRecDepth 100000 in
theorem zcw130 : lw_tbl[zm130.2.2.2.2.2.2.1.1]? = some (.code zm130.1 zm130.2.1 zm130.2.2.1 zm130.2.2.2.1) := by rfl
set_option maxRecDepth 100000 in
theorem zcw131 : lw_tbl[zm131.2.2.2.2.2.2.1.1]? = some (.code zm131.1 zm131.2.1 zm131.2.2.1 zm131.2.2.2.1) := by rfl
set_option maxRecDepth 100000 in
theorem zcw132 : lw_tbl[zm132.2.2.2.2.2.2.1.1]? = some (.code zm132.1 zm132.2.1 zm132.2.2.1 zm132.2.2.2.1) := by rfl
set_option maxRecDepth 100000 in
theorem zcw133 : lw_tbl[zm133.2.2.2.2.2.2.1.1]? = some (.code zm133.1 zm133.2.1 zm133.2.2.1 zm133.2.2.2.1) := by rfl
set_option maxRecDepth 100000 in
theorem zcw134 : lw_tbl[zm134.2.2.2.2.2.2.1.1]? = some (.code zm134.1 zm134.2.1 zm134.2.2.1 zm134.2.2.2.1) := by rfl
set_option maxRecDepth 100000 in
theorem zcw135 : lw_tbl[zm135.2.2.2.2.2.2.1.1]? = some (.code zm135.1 zm135.2.1 zm135.2.2.1 zm135.2.2.2.1) := by rfl
set_option maxRecDepth 100000 in
theorem zcw136 : lw_tbl[zm136.2.2.2.2.2.2.1.1]? = some (.code zm136.1 zm136.2.1 zm136.2.2.1 zm136.2.2.2.1) := by rfl
set_option maxRecDepth 100000 in
theorem zcw137 : lw_tbl[zm137.2.2.2.2.2.2.1.1]? = some (.code zm137.1 zm137.2.1 zm137.2.2.1 zm137.2.2.2.1) := by rfl
set_option maxRecDepth 100000 in
theorem zcw138 : lw_tbl[zm138.2.2.2.2.2.2.1.1]? = some (.code zm138.1 zm138.2.1 zm138.2.2.1 zm138.2.2.2.1) := by rfl
set_option maxRecDepth 100000 in
theorem zcw139 : lw_tbl[zm139.2.2.2.2.2.2.1.1]? = some (.code zm139.1 zm139.2.1 zm139.2.2.1 zm139.2.2.2.1) := by rfl
set_option maxRecDepth 100000 in
theorem zcw140 : lw_tbl[zm140.2.2.2.2.2.2.1.1]? = some (.code zm140.1 zm140.2.1 zm140.2.2.1 zm140.2.2.2.1) := by rfl
set_option maxRecDepth 100000 in
theorem zcw141 : lw_tbl[zm141.2.2.2.2.2.2.1.1]? = some (.code zm141.1 zm141.2.1 zm141.2.2.1 zm141.2.2.2.1) := by rfl
set_option maxRecDepth 100000 in
theorem zcw142 : lw_tbl[zm142.2.2.2.2.2.2.1.1]? = some (.code zm142.1 zm142.2.1 zm142.2.2.1 zm142.2.2.2.1) := by rfl
set_option maxRecDepth 100000 in
theorem zcw143 : lw_tbl[zm143.2.2.2.2.2.2.1.1]? = some (.code zm143.1 zm143.2.1 zm143.2.2.1 zm143.2.2.2.1) := by rfl
set_option maxRecDepth 100000 in
theorem zcw144 : lw_tbl[zm144.2.2.2.2.2.2.1.1]? = some (.code zm144.1 zm144.2.1 zm144.2.2.1 zm144.2.2.2.1) := by rfl
set_option maxRecDepth 100000 in
theorem zcw145 : lw_tbl[zm145.2.2.2.2.2.2.1.1]? = some (.code zm145.1 zm145.2.1 zm145.2.2.1 zm145.2.2.2.1) := by rfl
set_option maxRecDepth 100000 in
theorem zcw146 : lw_tbl[zm146.2.2.2.2.2.2.1.1]? = some (.code zm146.1 zm146.2.1 zm146.2.2.1 zm146.2.2.2.1) := by rfl
set_option maxRecDepth 100000 in
theorem zcw147 : lw_tbl[zm147.2.2.2.2.2.2.1.1]? = some (.code zm147.1 zm147.2.1 zm147.2.2.1 zm147.2.2.2.1) := by rfl
set_option maxRecDepth 100000 in
theorem zcw148 : lw_tbl[zm148.2.2.2.2.2.2.1.1]? = some (.code zm148.1 zm148.2.1 zm148.2.2.1 zm148.2.2.2.1) := by rfl
set_option maxRecDepth 100000 in
theorem zcw149 : lw_tbl[zm149.2.2.2.2.2.2.1.1]? = some (.code zm149.1 zm149.2.1 zm149.2.2.1 zm149.2.2.2.1) := by rfl
set_option maxRecDepth 100000 in
theorem zcw150 : lw_tbl[zm150.2.2.2.2.2.2.1.1]? = some (.code zm150.1 zm150.2.1 zm150.2.2.1 zm150.2.2.2.1) := by rfl
set_option maxRecDepth 100000 in
theorem zcw151 : lw_tbl[zm151.2.2.2.2.2.2.1.1]? = some (.code zm151.1 zm151.2.1 zm151.2.2.1 zm151.2.2.2.1) := by rfl
set_option maxRecDepth 100000 in
theorem zcw152 : lw_tbl[zm152.2.2.2.2.2.2.1.1]? = some (.code zm152.1 zm152.2.1 zm152.2.2.1 zm152.2.2.2.1) := by rfl
set_option maxRecDepth 100000 in
theorem zcw153 : lw_tbl[zm153.2.2.2.2.2.2.1.1]? = some (.code zm153.1 zm153.2.1 zm153.2.2.1 zm153.2.2.2.1) := by rfl
set_option maxRecDepth 100000 in
theorem zcw154 : lw_tbl[zm154.2.2.2.2.2.2.1.1]? = some (.code zm154.1 zm154.2.1 zm154.2.2.1 zm154.2.2.2.1) := by rfl
set_option maxRecDepth 100000 in
theorem zcw155 : lw_tbl[zm155.2.2.2.2.2.2.1.1]? = some (.code zm155.1 zm155.2.1 zm155.2.2.1 zm155.2.2.2.1) := by rfl
set_option maxRecDepth 100000 in
theorem zcw156 : lw_tbl[zm156.2.2.2.2.2.2.1.1]? = some (.code zm156.1 zm156.2.1 zm156.2.2.1 zm156.2.2.2.1) := by rfl
set_option maxRecDepth 100000 in
theorem zcw157 : lw_tbl[zm157.2.2.2.2.2.2.1.1]? = some (.code zm157.1 zm157.2.1 zm157.2.2.1 zm157.2.2.2.1) := by rfl
set_option maxRecDepth 100000 in
theorem zcw158 : lw_tbl[zm158.2.2.2.2.2.2.1.1]? = some (.code zm158.1 zm158.2.1 zm158.2.2.1 zm158.2.2.2.1) := by rfl
set_option maxRecDepth 100000 in
theorem zcw159 : lw_tbl[zm159.2.2.2.2.2.2.1.1]? = some (.code zm159.1 zm159.2.1 zm159.2.2.1 zm159.2.2.2.1) := by rfl
set_option maxRecDepth 100000 in
theorem zcw160 : lw_tbl[zm160.2.2.2.2.2.2.1.1]? = some (.code zm160.1 zm160.2.1 zm160.2.2.1 zm160.2.2.2.1) := by rfl
set_option maxRecDepth 100000 in
theorem zcw161 : lw_tbl[zm161.2.2.2.2.2.2.1.1]? = some (.code zm161.1 zm161.2.1 zm161.2.2.1 zm161.2.2.2.1) := by rfl
set_option maxRecDepth 100000 in
theorem zcw162 : lw_tbl[zm162.2.2.2.2.2.2.1.1]? = some (.code zm162.1 zm162.2.1 zm162.2.2.1 zm162.2.2.2.1) := by rfl
set_option maxRecDepth 100000 in
theorem zcw163 : lw_tbl[zm163.2.2.2.2.2.2.1.1]? = some (.code zm163.1 zm163.2.1 zm163.2.2.1 zm163.2.2.2.1) := by rfl
set_option maxRecDepth 100000 in
theorem zcw164 : lw_tbl[zm164.2.2.2.2.2.2.1.1]? = some (.code zm164.1 zm164.2.1 zm164.2.2.1 zm164.2.2.2.1) := by rfl
set_option maxRecDepth 100000 in
theorem zcw165 : lw_tbl[zm165.2.2.2.2.2.2.1.1]? = some (.code zm165.1 zm165.2.1 zm165.2.2.1 zm165.2.2.2.1) := by rfl
set_option maxRecDepth 100000 in
theorem zcw166 : lw_tbl[zm166.2.2.2.2.2.2.1.1]? = some (.code zm166.1 zm166.2.1 zm166.2.2.1 zm166.2.2.2.1) := by rfl
set_option maxRecDepth 100000 in
theorem zcw167 : lw_tbl[zm167.2.2.2.2.2.2.1.1]? = some (.code zm167.1 zm167.2.1 zm167.2.2.1 zm167.2.2.2.1) := by rfl
set_option maxRecDepth 100000 in
theorem zcw168 : lw_tbl[zm168.2.2.2.2.2.2.1.1]? = some (.code zm168.1 zm168.2.1 zm168.2.2.1 zm168.2.2.2.1) := by rfl
set_option maxRecDepth 100000 in
theorem zcw169 : lw_tbl[zm169.2.2.2.2.2.2.1.1]? = some (.code zm169.1 zm169.2.1 zm169.2.2.1 zm169.2.2.2.1) := by rfl
set_option maxRecDepth 100000 in
theorem zcw170 : lw_tbl[zm170.2.2.2.2.2.2.1.1]? = some (.code zm170.1 zm170.2.1 zm170.2.2.1 zm170.2.2.2.1) := by rfl
set_option maxRecDepth 100000 in
theorem zcw171 : lw_tbl[zm171.2.2.2.2.2.2.1.1]? = some (.code zm171.1 zm171.2.1 zm171.2.2.1 zm171.2.2.2.1) := by rfl
set_option maxRecDepth 100000 in
theorem zcw172 : lw_tbl[zm172.2.2.2.2.2.2.1.1]? = some (.code zm172.1 zm172.2.1 zm172.2.2.1 zm172.2.2.2.1) := by rfl
set_option maxRecDepth 100000 in
theorem zcw173 : lw_tbl[zm173.2.2.2.2.2.2.1.1]? = some (.code zm173.1 zm173.2.1 zm173.2.2.1 zm173.2.2.2.1) := by rfl
set_option maxRecDepth 100000 in
theorem zcw174 : lw_tbl[zm174.2.2.2.2.2.2.1.1]? = some (.code zm174.1 zm174.2.1 zm174.2.2.1 zm174.2.2.2.1) := by rfl
set_option maxRecDepth 100000 in
theorem zcw175 : lw_tbl[zm175.2.2.2.2.2.2.1.1]? = some (.code zm175.1 zm175.2.1 zm175.2.2.1 zm175.2.2.2.1) := by rfl
set_option maxRecDepth 100000 in
theorem zcw176 : lw_tbl[zm176.2.2.2.2.2.2.1.1]? = some (.code zm176.1 zm176.2.1 zm176.2.2.1 zm176.2.2.2.1) := by rfl
set_option maxRecDepth 100000 in
theorem zcw177 : lw_tbl[zm177.2.2.2.2.2.2.1.1]? = some (.code zm177.1 zm177.2.1 zm177.2.2.1 zm177.2.2.2.1) := by rfl
set_option maxRecDepth 100000 in
theorem zcw178 : lw_tbl[zm178.2.2.2.2.2.2.1.1]? = some (.code zm178.1 zm178.2.1 zm178.2.2.1 zm178.2.2.2.1) := by rfl
set_option maxRecDepth 100000 in
theorem zcw179 : lw_tbl[zm179.2.2.2.2.2.2.1.1]? = some (.code zm179.1 zm179.2.1 zm179.2.2.1 zm179.2.2.2.1) := by rfl
set_option maxRecDepth 100000 in
theorem zcw180 : lw_tbl[zm180.2.2.2.2.2.2.1.1]? = some (.code zm180.1 zm180.2.1 zm180.2.2.1 zm180.2.2.2.1) := by rfl
set_option maxRecDepth 100000 in
theorem zcw181 : lw_tbl[zm181.2.2.2.2.2.2.1.1]? = some (.code zm181.1 zm181.2.1 zm181.2.2.1 zm181.2.2.2.1) := by rfl
set_option maxRecDepth 100000 in
theorem zcw182 : lw_tbl[zm182.2.2.2.2.2.2.1.1]? = some (.code zm182.1 zm182.2.1 zm182.2.2.1 zm182.2.2.2.1) := by rfl
set_option maxRecDepth 100000 in
theorem zCw : ∀ I ∈ zMT, lw_tbl[I.2.2.2.2.2.2.1.1]? = some (.code I.1 I.2.1 I.2.2.1 I.2.2.2.1) := by
  show ∀ I ∈ [zm0, zm1, zm2, zm3, zm4, zm5, zm6, zm7, zm8, zm9, zm10, zm11, zm12, zm13, zm14, zm15, zm16, zm17, zm18, zm19, zm20, zm21, zm22, zm23, zm24, zm25, zm26, zm27, zm28, zm29, zm30, zm31, zm32, zm33, zm34, zm35, zm36, zm37, zm38, zm39, zm40, zm41, zm42, zm43, zm44, zm45, zm46, zm47, zm48, zm49, zm50, zm51, zm52, zm53, zm54, zm55, zm56, zm57, zm58, zm59, zm60, zm61, zm62, zm63, zm64, zm65, zm66, zm67, zm68, zm69, zm70, zm71, zm72, zm73, zm74, zm75, zm76, zm77, zm78, zm79, zm80, zm81, zm82, zm83, zm84, zm85, zm86, zm87, zm88, zm89, zm90, zm91, zm92, zm93, zm94, zm95, zm96, zm97, zm98, zm99, zm100, zm101, zm102, zm103, zm104, zm105, zm106, zm107, zm108, zm109, zm110, zm111, zm112, zm113, zm114, zm115, zm116, zm117, zm118, zm119, zm120, zm121, zm122, zm123, zm124, zm125, zm126, zm127, zm128, zm129, zm130, zm131, zm132, zm133, zm134, zm135, zm136, zm137, zm138, zm139, zm140, zm141, zm142, zm143, zm144, zm145, zm146, zm147, zm148, zm149, zm150, zm151, zm152, zm153, zm154, zm155, zm156, zm157, zm158, zm159, zm160, zm161, zm162, zm163, zm164, zm165, zm166, zm167, zm168, zm169, zm170, zm171, zm172, zm173, zm174, zm175, zm176, zm177, zm178, zm179, zm180, zm181, zm182], lw_tbl[I.2.2.2.2.2.2.1.1]? = some (.code I.1 I.2.1 I.2.2.1 I.2.2.2.1)
  exact List.forall_mem_cons.mpr ⟨zcw0, List.forall_mem_cons.mpr ⟨zcw1, List.forall_mem_cons.mpr ⟨zcw2, List.forall_mem_cons.mpr ⟨zcw3, List.forall_mem_cons.mpr ⟨zcw4, List.forall_mem_cons.mpr ⟨zcw5, List.forall_mem_cons.mpr ⟨zcw6, List.forall_mem_cons.mpr ⟨zcw7, List.forall_mem_cons.mpr ⟨zcw8, List.forall_mem_cons.mpr ⟨zcw9, List.forall_mem_cons.mpr ⟨zcw10, List.forall_mem_cons.mpr ⟨zcw11, List.forall_mem_cons.mpr ⟨zcw12, List.forall_mem_cons.mpr ⟨zcw13, List.forall_mem_cons.mpr ⟨zcw14, List.forall_mem_cons.mpr ⟨zcw15, List.forall_mem_cons.mpr ⟨zcw16, List.forall_mem_cons.mpr ⟨zcw17, List.forall_mem_cons.mpr ⟨zcw18, List.forall_mem_cons.mpr ⟨zcw19, List.forall_mem_cons.mpr ⟨zcw20, List.forall_mem_cons.mpr ⟨zcw21, List.forall_mem_cons.mpr ⟨zcw22, List.forall_mem_cons.mpr ⟨zcw23, List.forall_mem_cons.mpr ⟨zcw24, List.forall_mem_cons.mpr ⟨zcw25, List.forall_mem_cons.mpr ⟨zcw26, List.forall_mem_cons.mpr ⟨zcw27, List.forall_mem_cons.mpr ⟨zcw28, List.forall_mem_cons.mpr ⟨zcw29, List.forall_mem_cons.mpr ⟨zcw30, List.forall_mem_cons.mpr ⟨zcw31, List.forall_mem_cons.mpr ⟨zcw32, List.forall_mem_cons.mpr ⟨zcw33, List.forall_mem_cons.mpr ⟨zcw34, List.forall_mem_cons.mpr ⟨zcw35, List.forall_mem_cons.mpr ⟨zcw36, List.forall_mem_cons.mpr ⟨zcw37, List.forall_mem_cons.mpr ⟨zcw38, List.forall_mem_cons.mpr ⟨zcw39, List.forall_mem_cons.mpr ⟨zcw40, List.forall_mem_cons.mpr ⟨zcw41, List.forall_mem_cons.mpr ⟨zcw42, List.forall_mem_cons.mpr ⟨zcw43, List.forall_mem_cons.mpr ⟨zcw44, List.forall_mem_cons.mpr ⟨zcw45, List.forall_mem_cons.mpr ⟨zcw46, List.forall_mem_cons.mpr ⟨zcw47, List.forall_mem_cons.mpr ⟨zcw48, List.forall_mem_cons.mpr ⟨zcw49, List.forall_mem_cons.mpr ⟨zcw50, List.forall_mem_cons.mpr ⟨zcw51, List.forall_mem_cons.mpr ⟨zcw52, List.forall_mem_cons.mpr ⟨zcw53, List.forall_mem_cons.mpr ⟨zcw54, List.forall_mem_cons.mpr ⟨zcw55, List.forall_mem_cons.mpr ⟨zcw56, List.forall_mem_cons.mpr ⟨zcw57, List.forall_mem_cons.mpr ⟨zcw58, List.forall_mem_cons.mpr ⟨zcw59, List.forall_mem_cons.mpr ⟨zcw60, List.forall_mem_cons.mpr ⟨zcw61, List.forall_mem_cons.mpr ⟨zcw62, List.forall_mem_cons.mpr ⟨zcw63, List.forall_mem_cons.mpr ⟨zcw64, List.forall_mem_cons.mpr ⟨zcw65, List.forall_mem_cons.mpr ⟨zcw66, List.forall_mem_cons.mpr ⟨zcw67, List.forall_mem_cons.mpr ⟨zcw68, List.forall_mem_cons.mpr ⟨zcw69, List.forall_mem_cons.mpr ⟨zcw70, List.forall_mem_cons.mpr ⟨zcw71, List.forall_mem_cons.mpr ⟨zcw72, List.forall_mem_cons.mpr ⟨zcw73, List.forall_mem_cons.mpr ⟨zcw74, List.forall_mem_cons.mpr ⟨zcw75, List.forall_mem_cons.mpr ⟨zcw76, List.forall_mem_cons.mpr ⟨zcw77, List.forall_mem_cons.mpr ⟨zcw78, List.forall_mem_cons.mpr ⟨zcw79, List.forall_mem_cons.mpr ⟨zcw80, List.forall_mem_cons.mpr ⟨zcw81, List.forall_mem_cons.mpr ⟨zcw82, List.forall_mem_cons.mpr ⟨zcw83, List.forall_mem_cons.mpr ⟨zcw84, List.forall_mem_cons.mpr ⟨zcw85, List.forall_mem_cons.mpr ⟨zcw86, List.forall_mem_cons.mpr ⟨zcw87, List.forall_mem_cons.mpr ⟨zcw88, List.forall_mem_cons.mpr ⟨zcw89, List.forall_mem_cons.mpr ⟨zcw90, List.forall_mem_cons.mpr ⟨zcw91, List.forall_mem_cons.mpr ⟨zcw92, List.forall_mem_cons.mpr ⟨zcw93, List.forall_mem_cons.mpr ⟨zcw94, List.forall_mem_cons.mpr ⟨zcw95, List.forall_mem_cons.mpr ⟨zcw96, List.forall_mem_cons.mpr ⟨zcw97, List.forall_mem_cons.mpr ⟨zcw98, List.forall_mem_cons.mpr ⟨zcw99, List.forall_mem_cons.mpr ⟨zcw100, List.forall_mem_cons.mpr ⟨zcw101, List.forall_mem_cons.mpr ⟨zcw102, List.forall_mem_cons.mpr ⟨zcw103, List.forall_mem_cons.mpr ⟨zcw104, List.forall_mem_cons.mpr ⟨zcw105, List.forall_mem_cons.mpr ⟨zcw106, List.forall_mem_cons.mpr ⟨zcw107, List.forall_mem_cons.mpr ⟨zcw108, List.forall_mem_cons.mpr ⟨zcw109, List.forall_mem_cons.mpr ⟨zcw110, List.forall_mem_cons.mpr ⟨zcw111, List.forall_mem_cons.mpr ⟨zcw112, List.forall_mem_cons.mpr ⟨zcw113, List.forall_mem_cons.mpr ⟨zcw114, List.forall_mem_cons.mpr ⟨zcw115, List.forall_mem_cons.mpr ⟨zcw116, List.forall_mem_cons.mpr ⟨zcw117, List.forall_mem_cons.mpr ⟨zcw118, List.forall_mem_cons.mpr ⟨zcw119, List.forall_mem_cons.mpr ⟨zcw120, List.forall_mem_cons.mpr ⟨zcw121, List.forall_mem_cons.mpr ⟨zcw122, List.forall_mem_cons.mpr ⟨zcw123, List.forall_mem_cons.mpr ⟨zcw124, List.forall_mem_cons.mpr ⟨zcw125, List.forall_mem_cons.mpr ⟨zcw126, List.forall_mem_cons.mpr ⟨zcw127, List.forall_mem_cons.mpr ⟨zcw128, List.forall_mem_cons.mpr ⟨zcw129, List.forall_mem_cons.mpr ⟨zcw130, List.forall_mem_cons.mpr ⟨zcw131, List.forall_mem_cons.mpr ⟨zcw132, List.forall_mem_cons.mpr ⟨zcw133, List.forall_mem_cons.mpr ⟨zcw134, List.forall_mem_cons.mpr ⟨zcw135, List.forall_mem_cons.mpr ⟨zcw136, List.forall_mem_cons.mpr ⟨zcw137, List.forall_mem_cons.mpr ⟨zcw138, List.forall_mem_cons.mpr ⟨zcw139, List.forall_mem_cons.mpr ⟨zcw140, List.forall_mem_cons.mpr ⟨zcw141, List.forall_mem_cons.mpr ⟨zcw142, List.forall_mem_cons.mpr ⟨zcw143, List.forall_mem_cons.mpr ⟨zcw144, List.forall_mem_cons.mpr ⟨zcw145, List.forall_mem_cons.mpr ⟨zcw146, List.forall_mem_cons.mpr ⟨zcw147, List.forall_mem_cons.mpr ⟨zcw148, List.forall_mem_cons.mpr ⟨zcw149, List.forall_mem_cons.mpr ⟨zcw150, List.forall_mem_cons.mpr ⟨zcw151, List.forall_mem_cons.mpr ⟨zcw152, List.forall_mem_cons.mpr ⟨zcw153, List.forall_mem_cons.mpr ⟨zcw154, List.forall_mem_cons.mpr ⟨zcw155, List.forall_mem_cons.mpr ⟨zcw156, List.forall_mem_cons.mpr ⟨zcw157, List.forall_mem_cons.mpr ⟨zcw158, List.forall_mem_cons.mpr ⟨zcw159, List.forall_mem_cons.mpr ⟨zcw160, List.forall_mem_cons.mpr ⟨zcw161, List.forall_mem_cons.mpr ⟨zcw162, List.forall_mem_cons.mpr ⟨zcw163, List.forall_mem_cons.mpr ⟨zcw164, List.forall_mem_cons.mpr ⟨zcw165, List.forall_mem_cons.mpr ⟨zcw166, List.forall_mem_cons.mpr ⟨zcw167, List.forall_mem_cons.mpr ⟨zcw168, List.forall_mem_cons.mpr ⟨zcw169, List.forall_mem_cons.mpr ⟨zcw170, List.forall_mem_cons.mpr ⟨zcw171, List.forall_mem_cons.mpr ⟨zcw172, List.forall_mem_cons.mpr ⟨zcw173, List.forall_mem_cons.mpr ⟨zcw174, List.forall_mem_cons.mpr ⟨zcw175, List.forall_mem_cons.mpr ⟨zcw176, List.forall_mem_cons.mpr ⟨zcw177, List.forall_mem_cons.mpr ⟨zcw178, List.forall_mem_cons.mpr ⟨zcw179, List.forall_mem_cons.mpr ⟨zcw180, List.forall_mem_cons.mpr ⟨zcw181, List.forall_mem_cons.mpr ⟨zcw182, fun _ h => absurd h List.not_mem_nil⟩⟩⟩⟩⟩⟩⟩⟩⟩⟩⟩⟩⟩⟩⟩⟩⟩⟩⟩⟩⟩⟩⟩⟩⟩⟩⟩⟩⟩⟩⟩⟩⟩⟩⟩⟩⟩⟩⟩⟩⟩⟩⟩⟩⟩⟩⟩⟩⟩⟩⟩⟩⟩⟩⟩⟩⟩⟩⟩⟩⟩⟩⟩⟩⟩⟩⟩⟩⟩⟩⟩⟩⟩⟩⟩⟩⟩⟩⟩⟩⟩⟩⟩⟩⟩⟩⟩⟩⟩⟩⟩⟩⟩⟩⟩⟩⟩⟩⟩⟩⟩⟩⟩⟩⟩⟩⟩⟩⟩⟩⟩⟩⟩⟩⟩⟩⟩⟩⟩⟩⟩⟩⟩⟩⟩⟩⟩⟩⟩⟩⟩⟩⟩⟩⟩⟩⟩⟩⟩⟩⟩⟩⟩⟩⟩⟩⟩⟩⟩⟩⟩⟩⟩⟩⟩⟩⟩⟩⟩⟩⟩⟩⟩⟩⟩⟩⟩⟩⟩⟩⟩⟩⟩⟩⟩⟩⟩⟩⟩⟩⟩⟩⟩
end
section
/-! THE PURE MACHINE: a frame's values are integers and places of cells, the memory is a function; 'zBg' says that the real machine, from a frame that looks so, comes to an end with Q; each instruction has one row -/
abbrev zV : Type := Int ⊕ (Int ⊕ Nat)
abbrev zMem : Type := Nat → Nat → Int
abbrev zI (x : Int) : Option zV := some (.inl x)
abbrev zL (x : Int) : Option zV := some (.inr (.inl x))
abbrev zR (k : Nat) : Option zV := some (.inr (.inr k))
def zcv (ad : Nat → Nat) : zV → Value
  | .inl x => .int (Int32.ofInt x)
  | .inr (.inl x) => .long (Int64.ofInt x)
  | .inr (.inr k) => .ref (ad k)
def zrg : zV → Prop
  | .inl x => zR32 x
  | .inr (.inl x) => zR64 x
  | .inr (.inr _) => True
def zrgc (k : Nat) (x : Int) : Prop := match zSHL[k]? with
  | some (.inl (1, _)) => -128 ≤ x ∧ x < 128
  | some (.inl (2, _)) => zR64 x
  | _ => zR32 x
def zrgM (M : zMem) : Prop := ∀ k i, zrgc k (M k i)
def zcell (cA : Nat → ClassId) (ad : Nat → Nat) (M : zMem) (k : Nat) : zSh → va_E
  | .inl (2, n) => .inl (cA 2, n, .inr (.inl (fun i => Int64.ofInt (M k i))))
  | .inl (t, n) => .inl (cA t, n, .inl (fun i => Int32.ofInt (M k i)))
  | .inr (ci, fs) => .inr (ci, fs.mapIdx (fun j o => match o with
    | none => .int (Int32.ofInt (M k j))
    | some q => .ref (ad q)))
def zwd (cA : Nat → ClassId) (ad : Nat → Nat) (M : zMem) : va_W := zSHL.mapIdx (fun k s => (ad k, zcell cA ad M k s))
abbrev ztys (cA : Nat → ClassId) : List (ClassId × FieldType) := [(cA 0, .int), (cA 1, .byte), (cA 2, .long)]
def zA (ad : Nat → Nat) : Nat → Prop := fun q => ∃ k, k < zSHL.length ∧ q = ad k
def zinj (ad : Nat → Nat) : Prop := ∀ i j, i < zSHL.length → j < zSHL.length → ad i = ad j → i = j
def zup (M : zMem) (k i : Nat) (v : Int) : zMem := fun k' i' => if k' = k then (if i' = i then v else M k' i') else M k' i'
def zcpy (M : zMem) (a p b q n : Nat) : zMem := fun k i => if k = b then (if q ≤ i ∧ i < q + n then M a (p + (i - q)) else M k i) else M k i
theorem zwd_get {cA : Nat → ClassId} {ad : Nat → Nat} {M : zMem} {k : Nat} {sh : zSh} (h : zSHL[k]? = some sh) : (zwd cA ad M)[k]? = some (ad k, zcell cA ad M k sh) := by
  simp [zwd, List.getElem?_mapIdx, h]
theorem zwd_len {cA : Nat → ClassId} {ad : Nat → Nat} {M : zMem} : (zwd cA ad M).length = zSHL.length := by simp [zwd]
theorem zwd_at {cA : Nat → ClassId} {ad : Nat → Nat} {M : zMem} {k : Nat} {q : Nat × va_E} (h : (zwd cA ad M)[k]? = some q) : k < zSHL.length ∧ q.1 = ad k := by
  have h1 : k < zSHL.length := by rw [← zwd_len (cA := cA) (ad := ad) (M := M)]; exact (List.getElem?_eq_some_iff.mp h).1
  obtain ⟨sh, hs⟩ : ∃ sh, zSHL[k]? = some sh := ⟨_, List.getElem?_eq_getElem h1⟩
  rw [zwd_get hs] at h
  cases h
  exact ⟨h1, rfl⟩
theorem zwd_D {cA : Nat → ClassId} {ad : Nat → Nat} (M : zMem) (h : zinj ad) : va_D (zA ad) (zwd cA ad M) := by
  refine ⟨fun i j p q hp hq e => ?_, fun k q hq => ?_⟩
  · obtain ⟨h1, h2⟩ := zwd_at hp
    obtain ⟨h3, h4⟩ := zwd_at hq
    exact h i j h1 h3 (by rw [← h2, ← h4]; exact e)
  · obtain ⟨h1, h2⟩ := zwd_at hq
    exact ⟨k, h1, h2⟩
theorem zcell_eq {cA : Nat → ClassId} {ad : Nat → Nat} {M M' : zMem} {k : Nat} {sh : zSh} (h : ∀ i, M' k i = M k i) : zcell cA ad M' k sh = zcell cA ad M k sh := by
  unfold zcell
  split <;> simp [h]
theorem zwd_set {cA : Nat → ClassId} {ad : Nat → Nat} {M M' : zMem} {k : Nat} {sh : zSh} {e : va_E} (h : zSHL[k]? = some sh) (he : e = zcell cA ad M' k sh) (hne : ∀ k', k' ≠ k → ∀ i, M' k' i = M k' i) : (zwd cA ad M).set k (ad k, e) = zwd cA ad M' := by
  apply List.ext_getElem?
  intro j
  rw [List.getElem?_set]
  by_cases hj : k = j
  · subst hj
    rw [if_pos rfl, zwd_get h, he, if_pos (by rw [zwd_len]; exact (List.getElem?_eq_some_iff.mp h).1)]
  · rw [if_neg hj]
    simp only [zwd, List.getElem?_mapIdx]
    cases zSHL[j]? with
    | none => rfl
    | some s => simp [zcell_eq (sh := s) (cA := cA) (ad := ad) (hne j (fun q => hj q.symm))]
def zroom (d : Nat) : Room := { frames := d + 1, cells := 0, slots := 0, locals := 60 * (d + 1) }
def zGW : List Cond := lw_tbl.filter goodWord
def zws (I : zMI) : List Cond := .code I.1 I.2.1 I.2.2.1 I.2.2.2.1 :: zGW
def zNest : Cond → Bool
  | .fieldLinkNest .. => true
  | .methodLinkNest .. => true
  | _ => false
def zNW (U : State) : Prop := ∀ w ∈ lw_tbl, zNest w = true → va_Nw w U
theorem zNW.warm {s U : State} (hW : s.WarmedH U.vm) (h : zNW s) : zNW U := by
  intro w hw hn
  have h1 := h w hw hn
  cases w <;> first | exact va_Nw.warmF hW h1 | exact va_Nw.warmM hW h1 | exact absurd hn (by simp [zNest])
theorem zNW.same {s U : State} (hv : s.vm = U.vm) (h : zNW s) : zNW U := by
  intro w hw hn
  have h1 := h w hw hn
  exact va_Nw.same (by cases w <;> first | rfl | exact absurd hn (by simp [zNest])) hv h1
def zPre (D : va_G) (cA : Nat → ClassId) (ad : Nat → Nat) (av : List zV) (M : zMem) : Array Value → State → Prop := va_Pc (av.map (zcv ad)) (fun U => zNW U ∧ va_P D vwCl (zwd cA ad M) U.heap ∧ va_K D vwCl (ztys cA) U)
def zPost (D : va_G) (cA : Nat → ClassId) (ad : Nat → Nat) (Q : Option zV → zMem → Prop) : Array Value → State → Outcome → State → Prop := fun _ st oc t => (∃ (r : Option zV) (M' : zMem), oc = .returned (r.map (zcv ad)) ∧ Q r M' ∧ (∀ v, r = some v → zrg v) ∧ zrgM M' ∧ va_P D vwCl (zwd cA ad M') t.heap ∧ va_K D vwCl (ztys cA) t) ∧ va_F (zA ad) st t
/-- the contract of method mi: called with the values av over the memory M it returns, and Q of its answer and of the memory then -/
def zCt (d mi : Nat) (av : List zV) (M : zMem) (Q : Option zV → zMem → Prop) : Prop := ∀ I, zMT[mi]? = some I → zrgM M → (∀ v ∈ av, zrg v) → ∀ (l : Launch) (D : va_G) (cA : Nat → ClassId) (ad : Nat → Nat), zinj ad → Met l I.1 (zws I) (zroom d) (zPre D cA ad av M) (zPost D cA ad Q) 0 0 (zA ad)
def zCx (I : zMI) (p : Program) (s : State) (m : MethodId) (args : Array Value) (meth : Method) (c : Code) : Prop :=
  p.tables.exec = Jvm.exec ∧ c.code = I.2.1 ∧ c.maxLocals = I.2.2.1 ∧ s.vm.findClass I.1.cls = some m.cls ∧ (∀ w ∈ zGW, w.before args s = true) ∧ zNW s ∧ meth.sig.returnType = I.2.2.2.1 ∧ meth.locks = false
def zlv (ad : Nat → Nat) : Nat → List (Option zV) → List (Nat × Value)
  | _, [] => []
  | i, none :: r => zlv ad (i + 1) r
  | i, some v :: r => (i, zcv ad v) :: zlv ad (i + 1) r
theorem zlv_mem {ad : Nat → Nat} {ls : List (Option zV)} : ∀ {i : Nat} {q : Nat × Value}, q ∈ zlv ad i ls ↔ ∃ (j : Nat) (v : zV), ls[j]? = some (some v) ∧ q = (i + j, zcv ad v) := by
  induction ls with
  | nil => intro i q; simp [zlv]
  | cons o r ih =>
    intro i q
    have key : (∃ (j : Nat) (v : zV), r[j]? = some (some v) ∧ q = (i + 1 + j, zcv ad v)) ↔ ∃ (j : Nat) (v : zV), (o :: r)[j + 1]? = some (some v) ∧ q = (i + (j + 1), zcv ad v) := by
      constructor
      · rintro ⟨j, v, h1, h2⟩; exact ⟨j, v, by simpa using h1, by rw [h2]; congr 1; omega⟩
      · rintro ⟨j, v, h1, h2⟩; exact ⟨j, v, by simpa using h1, by rw [h2]; congr 1; omega⟩
    cases o with
    | none =>
      simp only [zlv]
      rw [ih, key]
      constructor
      · rintro ⟨j, v, h1, h2⟩; exact ⟨j + 1, v, h1, h2⟩
      · rintro ⟨j, v, h1, h2⟩
        cases j with
        | zero => simp at h1
        | succ j => exact ⟨j, v, h1, h2⟩
    | some w =>
      simp only [zlv, List.mem_cons]
      rw [ih, key]
      constructor
      · rintro (h | ⟨j, v, h1, h2⟩)
        · exact ⟨0, w, by simp, by simpa using h⟩
        · exact ⟨j + 1, v, h1, h2⟩
      · rintro ⟨j, v, h1, h2⟩
        cases j with
        | zero =>
          simp at h1
          subst h1
          exact Or.inl (by simpa using h2)
        | succ j => exact Or.inr ⟨j, v, h1, h2⟩
/-- the frame of method mi at pc, with locals ls, stack st, memory M: the machine comes to its end, with Q -/
def zBg (d mi pc : Nat) (ls : List (Option zV)) (st : List zV) (M : zMem) (Q : Option zV → zMem → Prop) : Prop :=
  zrgM M → (∀ v ∈ st, zrg v) → (∀ v, some v ∈ ls → zrg v) → ∀ I, zMT[mi]? = some I → ls.length ≤ I.2.2.1 →
  ∀ (l : Launch) (D : va_G) (cA : Nat → ClassId) (ad : Nat → Nat) (p : Program) (e : Env) (s : State) (m : MethodId) (args : Array Value) (below : List Frame) (meth : Method) (c : Code) (H : Heap) (locs : List Loc) (cls : Array Slot),
    zinj ad → zCx I p s m args meth c → va_K D vwCl (ztys cA) s → va_P D vwCl (zwd cA ad M) H → va_S (zA ad) s.heap H locs → lv_has cls I.2.2.1 (zlv ad 0 ls) →
    W p l e (zroom d) s m args below meth c H locs 0 0 (MQ below (zPost D cA ad Q) args s 0 0 (zA ad)) (F0 m pc cls (st.map (zcv ad)))
theorem zlv_at {ad : Nat → Nat} {ls : List (Option zV)} {cls : Array Slot} {n i : Nat} {v : zV} (h : lv_has cls n (zlv ad 0 ls)) (hi : ls[i]? = some (some v)) : cls[i]? = some (.val (zcv ad v)) :=
  h.2.2 (i, zcv ad v) (zlv_mem.mpr ⟨i, v, hi, by simp⟩)
theorem zlv_sub {ad : Nat → Nat} {ls ls' : List (Option zV)} {cls : Array Slot} {n : Nat} (h : lv_has cls n (zlv ad 0 ls)) (hs : ∀ (j : Nat) (v : zV), ls'[j]? = some (some v) → ls[j]? = some (some v)) : lv_has cls n (zlv ad 0 ls') := by
  refine ⟨h.1, h.2.1, fun q hq => ?_⟩
  obtain ⟨j, v, h1, rfl⟩ := zlv_mem.mp hq
  exact h.2.2 _ (zlv_mem.mpr ⟨j, v, hs j v h1, rfl⟩)
theorem zBg.weak {d mi pc : Nat} {ls ls' : List (Option zV)} {st : List zV} {M : zMem} {Q : Option zV → zMem → Prop} (hlen : ls'.length = ls.length) (hs : ∀ (j : Nat) (v : zV), ls'[j]? = some (some v) → ls[j]? = some (some v)) (h : zBg d mi pc ls' st M Q) : zBg d mi pc ls st M Q := by
  intro h1 h2 h3 I h4 h5 l D cA ad p e s m args below meth c H locs cls k1 k2 k3 k4 k5 k6
  refine h h1 h2 (fun v hv => ?_) I h4 (by rw [hlen]; exact h5) l D cA ad p e s m args below meth c H locs cls k1 k2 k3 k4 k5 (zlv_sub k6 hs)
  obtain ⟨j, hj⟩ := List.getElem?_of_mem hv
  exact h3 v (List.mem_of_getElem? (hs j v hj))
end
section
/-! one instruction: what must hold so that the frame comes to its end, K being what holds behind it -/
def z1 (st : List zV) (f : Int → List zV → Prop) : Prop := match st with
  | .inl a :: r => f a r
  | _ => False
def z2 (st : List zV) (f : Int → Int → List zV → Prop) : Prop := match st with
  | .inl b :: .inl a :: r => f a b r
  | _ => False
def zl1 (st : List zV) (f : Int → List zV → Prop) : Prop := match st with
  | .inr (.inl a) :: r => f a r
  | _ => False
def zl2 (st : List zV) (f : Int → Int → List zV → Prop) : Prop := match st with
  | .inr (.inl b) :: .inr (.inl a) :: r => f a b r
  | _ => False
def zli (st : List zV) (f : Int → Int → List zV → Prop) : Prop := match st with
  | .inl b :: .inr (.inl a) :: r => f a b r
  | _ => False
def zr1 (st : List zV) (f : Nat → List zV → Prop) : Prop := match st with
  | .inr (.inr k) :: r => f k r
  | _ => False
def zri (st : List zV) (f : Nat → Int → List zV → Prop) : Prop := match st with
  | .inl i :: .inr (.inr k) :: r => f k i r
  | _ => False
def zrii (st : List zV) (f : Nat → Int → Int → List zV → Prop) : Prop := match st with
  | .inl v :: .inl i :: .inr (.inr k) :: r => f k i v r
  | _ => False
def zril (st : List zV) (f : Nat → Int → Int → List zV → Prop) : Prop := match st with
  | .inr (.inl v) :: .inl i :: .inr (.inr k) :: r => f k i v r
  | _ => False
def zgI (o : Option (Option zV)) (f : Int → Prop) : Prop := match o with
  | some (some (.inl x)) => f x
  | _ => False
def zgL (o : Option (Option zV)) (f : Int → Prop) : Prop := match o with
  | some (some (.inr (.inl x))) => f x
  | _ => False
def zgR (o : Option (Option zV)) (f : Nat → Prop) : Prop := match o with
  | some (some (.inr (.inr x))) => f x
  | _ => False
def zar (k t : Nat) (f : Nat → Prop) : Prop := match zSHL[k]? with
  | some (.inl (t', n)) => bif Nat.beq t' t then f n else False
  | _ => False
def zln (k : Nat) (f : Nat → Prop) : Prop := match zSHL[k]? with
  | some (.inl (_, n)) => f n
  | _ => False
def zob (k ci : Nat) (f : List (Option Nat) → Prop) : Prop := match zSHL[k]? with
  | some (.inr (c', fs)) => bif Nat.beq c' ci then f fs else False
  | _ => False
def zisL (o : Option (Option zV)) : Bool := match o with
  | some (some (.inr (.inl _))) => true
  | _ => false
/-- a value of one word may be stored at i: there is such a local, and no long stands ahead of it -/
def zfr (ls : List (Option zV)) (i : Nat) : Bool := Nat.ble (i + 1) ls.length && (match i with
  | 0 => true
  | j + 1 => !zisL ls[j]?)
def zch (c : ClassFile.Cond) (a b : Int) : Prop := match c with
  | .eq => a = b
  | .ne => a ≠ b
  | .lt => a < b
  | .ge => a ≥ b
  | .gt => a > b
  | .le => a ≤ b
def ziand (a b : Int) : Int := (Int32.ofInt a &&& Int32.ofInt b).toInt
def zior (a b : Int) : Int := (Int32.ofInt a ||| Int32.ofInt b).toInt
def zixor (a b : Int) : Int := (Int32.ofInt a ^^^ Int32.ofInt b).toInt
def zishl (a b : Int) : Int := (Int32.ofInt a <<< (Int32.ofInt b &&& 31)).toInt
def zishr (a b : Int) : Int := (Int32.ofInt a >>> (Int32.ofInt b &&& 31)).toInt
def ziushr (a b : Int) : Int := (((Int32.ofInt a).toUInt32 >>> ((Int32.ofInt b).toUInt32 &&& Int32.toUInt32 31)).toInt32).toInt
def zidiv (a b : Int) : Int := (Int32.ofInt a / Int32.ofInt b).toInt
def zirem (a b : Int) : Int := (Int32.ofInt a - Int32.ofInt a / Int32.ofInt b * Int32.ofInt b).toInt
def zland (a b : Int) : Int := (Int64.ofInt a &&& Int64.ofInt b).toInt
def zlor (a b : Int) : Int := (Int64.ofInt a ||| Int64.ofInt b).toInt
def zlxor (a b : Int) : Int := (Int64.ofInt a ^^^ Int64.ofInt b).toInt
def zlsub (a b : Int) : Int := (Int64.ofInt a - Int64.ofInt b).toInt
def zladd (a b : Int) : Int := (Int64.ofInt a + Int64.ofInt b).toInt
def zlmul (a b : Int) : Int := (Int64.ofInt a * Int64.ofInt b).toInt
def zlshl (a b : Int) : Int := (Int64.ofInt a <<< ((Int32.ofInt b).toInt64 &&& 63)).toInt
def zlshr (a b : Int) : Int := (Int64.ofInt a >>> ((Int32.ofInt b).toInt64 &&& 63)).toInt
def zlushr (a b : Int) : Int := (((Int64.ofInt a).toUInt64 >>> ((Int32.ofInt b).toInt64.toUInt64 &&& Int64.toUInt64 63)).toInt64).toInt
def zi2b (a : Int) : Int := a.bmod 256
def zi2s (a : Int) : Int := a.bmod 65536
def zl2i (a : Int) : Int := a.bmod 4294967296
def zlcmp (a b : Int) : Int := if b < a then 1 else if a = b then 0 else -1
def ztsw (pc : Nat) (a : Int) (K : Nat → Prop) : Int → List Int → Prop
  | _, [] => True
  | v, o :: r => (a = v → K (((pc : Int) + o).toNat)) ∧ ztsw pc a K (v + 1) r
def zcls (k : Nat) : Option Nat := match zSHL[k]? with
  | some (.inr (c, _)) => some c
  | _ => none
abbrev zCv (d mi : Nat) (av : List zV) (M : zMem) (Q : zMem → Prop) : Prop := zCt d mi av M (fun r M' => r = none ∧ Q M')
abbrev zCi (d mi : Nat) (av : List zV) (M : zMem) (Q : Int → zMem → Prop) : Prop := zCt d mi av M (fun r M' => ∃ v : Int, r = some (.inl v) ∧ Q v M')
abbrev zCl (d mi : Nat) (av : List zV) (M : zMem) (Q : Int → zMem → Prop) : Prop := zCt d mi av M (fun r M' => ∃ v : Int, r = some (.inr (.inl v)) ∧ Q v M')
abbrev zCr (d mi : Nat) (av : List zV) (M : zMem) (Q : zMem → Prop) : Prop := zCt d mi av M (fun r M' => r = some (.inr (.inr 42)) ∧ Q M')
/-- the answer's kind of a method: 0 none, 1 int or boolean, 2 long, 3 a reference -/
def zkd : Option FieldType → Nat
  | none => 0
  | some .int => 1
  | some .boolean => 1
  | some .long => 2
  | some (.object _) => 3
  | _ => 9
def zcall (d mi : Nat) (av : List zV) (rest : List zV) (M : zMem) (K : List zV → zMem → Prop) : Prop := match (zMT[mi]?).map (fun I => zkd I.2.2.2.1) with
  | some 0 => ∃ Q, zCv (d - 1) mi av M Q ∧ ∀ M', Q M' → K rest M'
  | some 1 => ∃ Q, zCi (d - 1) mi av M Q ∧ ∀ v M', Q v M' → K (.inl v :: rest) M'
  | some 2 => ∃ Q, zCl (d - 1) mi av M Q ∧ ∀ v M', Q v M' → K (.inr (.inl v) :: rest) M'
  | some 3 => ∃ Q, zCr (d - 1) mi av M Q ∧ ∀ M', Q M' → K (.inr (.inr 42) :: rest) M'
  | _ => False
def zrcv (mi : Nat) (av : List zV) : Bool := match av with
  | .inr (.inr k) :: _ => decide ((zMT[mi]?).map (fun I => I.2.2.2.2.2.1) = zcls k)
  | _ => false
def zacp (st : List zV) (M : zMem) (K : List zV → zMem → Prop) : Prop := match st with
  | .inl n :: .inl q :: .inr (.inr b) :: .inl p :: .inr (.inr a) :: r => bif Nat.ble r.length 4 then (match zSHL[a]?, zSHL[b]? with
    | some (.inl (t, la)), some (.inl (t', lb)) => bif (Nat.beq t t' && Nat.ble (t + 1) 2) then (0 ≤ p ∧ 0 ≤ q ∧ 0 ≤ n ∧ p + n ≤ la ∧ q + n ≤ lb ∧ K r (zcpy M a p.toNat b q.toNat n.toNat)) else False
    | _, _ => False) else False
  | _ => False
def zst (d : Nat) (I : zMI) (Q : Option zV → zMem → Prop) (pc : Nat) (ls : List (Option zV)) (st : List zV) (M : zMem) (x : Instr × Nat × Int × Nat × Nat × Nat) (K : Nat → List (Option zV) → List zV → zMem → Prop) : Prop := match x.1 with
  | .iconst n => K (pc + 1) ls (.inl n :: st) M
  | .bipush n => K (pc + 2) ls (.inl n :: st) M
  | .sipush n => K (pc + 3) ls (.inl n :: st) M
  | .ldc _ => K (pc + 2) ls (.inl x.2.2.1 :: st) M
  | .ldc_w _ => K (pc + 3) ls (.inl x.2.2.1 :: st) M
  | .ldc2_w _ => K (pc + 3) ls (.inr (.inl x.2.2.1) :: st) M
  | .lconst n => K (pc + 1) ls (.inr (.inl ((n : Nat) : Int)) :: st) M
  | .iload i => zgI ls[i]? fun v => K (pc + 2) ls (.inl v :: st) M
  | .iload_n i => zgI ls[(i : Nat)]? fun v => K (pc + 1) ls (.inl v :: st) M
  | .lload i => zgL ls[i]? fun v => K (pc + 2) ls (.inr (.inl v) :: st) M
  | .lload_n i => zgL ls[(i : Nat)]? fun v => K (pc + 1) ls (.inr (.inl v) :: st) M
  | .aload i => zgR ls[i]? fun v => K (pc + 2) ls (.inr (.inr v) :: st) M
  | .aload_n i => zgR ls[(i : Nat)]? fun v => K (pc + 1) ls (.inr (.inr v) :: st) M
  | .istore i => z1 st fun v r => bif zfr ls i then K (pc + 2) (ls.set i (zI v)) r M else False
  | .istore_n i => z1 st fun v r => bif zfr ls i then K (pc + 1) (ls.set i (zI v)) r M else False
  | .lstore i => zl1 st fun v r => bif (zfr ls i && zfr (ls.set i none) (i + 1)) then K (pc + 2) ((ls.set i (zL v)).set (i + 1) none) r M else False
  | .lstore_n i => zl1 st fun v r => bif (zfr ls i && zfr (ls.set i none) (i + 1)) then K (pc + 1) ((ls.set i (zL v)).set (i + 1) none) r M else False
  | .astore i => zr1 st fun v r => bif zfr ls i then K (pc + 2) (ls.set i (zR v)) r M else False
  | .astore_n i => zr1 st fun v r => bif zfr ls i then K (pc + 1) (ls.set i (zR v)) r M else False
  | .iinc i n => zgI ls[i]? fun v => bif zfr ls i then (zR32 (v + n) ∧ K (pc + 3) (ls.set i (zI (v + n))) st M) else False
  | .iadd => z2 st fun a b r => zR32 (a + b) ∧ K (pc + 1) ls (.inl (a + b) :: r) M
  | .isub => z2 st fun a b r => zR32 (a - b) ∧ K (pc + 1) ls (.inl (a - b) :: r) M
  | .imul => z2 st fun a b r => zR32 (a * b) ∧ K (pc + 1) ls (.inl (a * b) :: r) M
  | .iand => z2 st fun a b r => K (pc + 1) ls (.inl (ziand a b) :: r) M
  | .ior => z2 st fun a b r => K (pc + 1) ls (.inl (zior a b) :: r) M
  | .ixor => z2 st fun a b r => K (pc + 1) ls (.inl (zixor a b) :: r) M
  | .ishl => z2 st fun a b r => K (pc + 1) ls (.inl (zishl a b) :: r) M
  | .ishr => z2 st fun a b r => K (pc + 1) ls (.inl (zishr a b) :: r) M
  | .iushr => z2 st fun a b r => K (pc + 1) ls (.inl (ziushr a b) :: r) M
  | .idiv => z2 st fun a b r => b ≠ 0 ∧ K (pc + 1) ls (.inl (zidiv a b) :: r) M
  | .irem => z2 st fun a b r => b ≠ 0 ∧ K (pc + 1) ls (.inl (zirem a b) :: r) M
  | .i2b => z1 st fun a r => K (pc + 1) ls (.inl (zi2b a) :: r) M
  | .i2s => z1 st fun a r => K (pc + 1) ls (.inl (zi2s a) :: r) M
  | .i2l => z1 st fun a r => K (pc + 1) ls (.inr (.inl a) :: r) M
  | .l2i => zl1 st fun a r => K (pc + 1) ls (.inl (zl2i a) :: r) M
  | .ladd => zl2 st fun a b r => K (pc + 1) ls (.inr (.inl (zladd a b)) :: r) M
  | .lsub => zl2 st fun a b r => K (pc + 1) ls (.inr (.inl (zlsub a b)) :: r) M
  | .lmul => zl2 st fun a b r => K (pc + 1) ls (.inr (.inl (zlmul a b)) :: r) M
  | .land => zl2 st fun a b r => K (pc + 1) ls (.inr (.inl (zland a b)) :: r) M
  | .lor => zl2 st fun a b r => K (pc + 1) ls (.inr (.inl (zlor a b)) :: r) M
  | .lxor => zl2 st fun a b r => K (pc + 1) ls (.inr (.inl (zlxor a b)) :: r) M
  | .lshl => zli st fun a b r => K (pc + 1) ls (.inr (.inl (zlshl a b)) :: r) M
  | .lshr => zli st fun a b r => K (pc + 1) ls (.inr (.inl (zlshr a b)) :: r) M
  | .lushr => zli st fun a b r => K (pc + 1) ls (.inr (.inl (zlushr a b)) :: r) M
  | .lcmp => zl2 st fun a b r => K (pc + 1) ls (.inl (zlcmp a b) :: r) M
  | .dup => match st with
    | .inl a :: r => K (pc + 1) ls (.inl a :: .inl a :: r) M
    | .inr (.inr a) :: r => K (pc + 1) ls (.inr (.inr a) :: .inr (.inr a) :: r) M
    | _ => False
  | .dup2 => zri st fun k i r => K (pc + 1) ls (.inl i :: .inr (.inr k) :: .inl i :: .inr (.inr k) :: r) M
  | .ifCond c _ => z1 st fun a r => (zch c a 0 → K x.2.2.2.1 ls r M) ∧ (¬ zch c a 0 → K (pc + 3) ls r M)
  | .if_icmp c _ => z2 st fun a b r => (zch c a b → K x.2.2.2.1 ls r M) ∧ (¬ zch c a b → K (pc + 3) ls r M)
  | .goto _ => K x.2.2.2.1 ls st M
  | .tableswitch df lo hi offs => z1 st fun a r => bif (decide (lo + offs.size = hi + 1) && offs.toList.all (fun o => decide (0 ≤ (pc : Int) + o)) && decide (0 ≤ (pc : Int) + df)) then (ztsw pc a (fun t => K t ls r M) lo offs.toList ∧ ((a < lo ∨ hi < a) → K (((pc : Int) + df).toNat) ls r M)) else False
  | .getfield _ => zr1 st fun k r => zob k x.2.2.2.1 fun fs => match fs[x.2.2.2.2.1]? with
    | some none => K (pc + 3) ls (.inl (M k x.2.2.2.2.1) :: r) M
    | some (some q) => K (pc + 3) ls (.inr (.inr q) :: r) M
    | none => False
  | .putfield _ => match st with
    | .inl v :: .inr (.inr k) :: r => zob k x.2.2.2.1 fun fs => match fs[x.2.2.2.2.1]? with
      | some none => bif Nat.beq x.2.2.1.toNat 1 then K (pc + 3) ls r (zup M k x.2.2.2.2.1 v) else ((v = 0 ∨ v = 1) ∧ K (pc + 3) ls r (zup M k x.2.2.2.2.1 v))
      | _ => False
    | _ => False
  | .iaload => zri st fun k i r => zar k 0 fun n => 0 ≤ i ∧ i < n ∧ K (pc + 1) ls (.inl (M k i.toNat) :: r) M
  | .baload => zri st fun k i r => zar k 1 fun n => 0 ≤ i ∧ i < n ∧ K (pc + 1) ls (.inl (M k i.toNat) :: r) M
  | .laload => zri st fun k i r => zar k 2 fun n => 0 ≤ i ∧ i < n ∧ K (pc + 1) ls (.inr (.inl (M k i.toNat)) :: r) M
  | .iastore => zrii st fun k i v r => zar k 0 fun n => 0 ≤ i ∧ i < n ∧ K (pc + 1) ls r (zup M k i.toNat v)
  | .bastore => zrii st fun k i v r => zar k 1 fun n => 0 ≤ i ∧ i < n ∧ K (pc + 1) ls r (zup M k i.toNat (zi2b v))
  | .lastore => zril st fun k i v r => zar k 2 fun n => 0 ≤ i ∧ i < n ∧ K (pc + 1) ls r (zup M k i.toNat v)
  | .arraylength => zr1 st fun k r => zln k fun n => K (pc + 1) ls (.inl (n : Int) :: r) M
  | .invokevirtual _ => bif (Nat.ble x.2.2.2.2.1 st.length && Nat.ble (st.drop x.2.2.2.2.1).length 4 && Nat.ble 1 d && zrcv x.2.2.2.1 (st.take x.2.2.2.2.1).reverse) then zcall d x.2.2.2.1 (st.take x.2.2.2.2.1).reverse (st.drop x.2.2.2.2.1) M (fun st' M' => K (pc + 3) ls st' M') else False
  | .invokestatic _ => bif Nat.beq x.2.2.2.1 9999 then zacp st M (fun st' M' => K (pc + 3) ls st' M') else bif Nat.beq x.2.2.2.1 9998 then (z2 st fun a b r => bif Nat.ble r.length 4 then K (pc + 3) ls (.inl (if a < b then b else a) :: r) M else False)
    else bif (Nat.ble x.2.2.2.2.1 st.length && Nat.ble (st.drop x.2.2.2.2.1).length 4 && Nat.ble 1 d) then zcall d x.2.2.2.1 (st.take x.2.2.2.2.1).reverse (st.drop x.2.2.2.2.1) M (fun st' M' => K (pc + 3) ls st' M') else False
  | .ireturn => match st with
    | [.inl v] => (match I.2.2.2.1 with
      | some .int => Q (some (.inl v)) M
      | some .boolean => (v = 0 ∨ v = 1) ∧ Q (some (.inl v)) M
      | _ => False)
    | _ => False
  | .lreturn => match st with
    | [.inr (.inl v)] => (match I.2.2.2.1 with
      | some .long => Q (some (.inr (.inl v))) M
      | _ => False)
    | _ => False
  | .areturn => match st with
    | [.inr (.inr v)] => (match I.2.2.2.1 with
      | some (.object _) => Q (some (.inr (.inr v))) M
      | _ => False)
    | _ => False
  | .return_ => match st, I.2.2.2.1 with
    | [], none => Q none M
    | _, _ => False
  | _ => False
theorem zif {b : Bool} {P : Prop} (h : bif b then P else False) : b = true ∧ P := by
  cases b with
  | true => exact ⟨rfl, h⟩
  | false => exact (show False from h).elim
/-- an entry of a method's code -/
def zAt (mi : Nat) (I : zMI) (pc : Nat) (x : Instr × Nat × Int × Nat × Nat × Nat) : Prop := zMT[mi]? = some I ∧ zlook pc I.2.2.2.2.2.2.2 = some x
theorem zAt.ok {mi pc : Nat} {I : zMI} {x : Instr × Nat × Int × Nat × Nat × Nat} (h : zAt mi I pc x) : decode I.2.1 pc = .ok (x.1, x.2.1) ∧ zokI I pc x = true ∧ zlenok x.1 x.2.1 = true := by
  have h1 := zCode_ok I (List.mem_of_getElem? h.1)
  have h2 := List.all_eq_true.mp h1 _ (zlook_mem h.2)
  simp only [zokE, Bool.and_eq_true, decide_eq_true_eq] at h2
  exact ⟨h2.1.2, h2.2, h2.1.1⟩
end
section
/-! the rows: each instruction of the pure machine is the real one's -/
theorem z1_ex {st : List zV} {f : Int → List zV → Prop} (h : z1 st f) : ∃ a r, st = .inl a :: r ∧ f a r := by
  unfold z1 at h
  split at h
  · exact ⟨_, _, rfl, h⟩
  · exact h.elim
theorem z2_ex {st : List zV} {f : Int → Int → List zV → Prop} (h : z2 st f) : ∃ a b r, st = .inl b :: .inl a :: r ∧ f a b r := by
  unfold z2 at h
  split at h
  · exact ⟨_, _, _, rfl, h⟩
  · exact h.elim
theorem zl1_ex {st : List zV} {f : Int → List zV → Prop} (h : zl1 st f) : ∃ a r, st = .inr (.inl a) :: r ∧ f a r := by
  unfold zl1 at h
  split at h
  · exact ⟨_, _, rfl, h⟩
  · exact h.elim
theorem zl2_ex {st : List zV} {f : Int → Int → List zV → Prop} (h : zl2 st f) : ∃ a b r, st = .inr (.inl b) :: .inr (.inl a) :: r ∧ f a b r := by
  unfold zl2 at h
  split at h
  · exact ⟨_, _, _, rfl, h⟩
  · exact h.elim
theorem zli_ex {st : List zV} {f : Int → Int → List zV → Prop} (h : zli st f) : ∃ a b r, st = .inl b :: .inr (.inl a) :: r ∧ f a b r := by
  unfold zli at h
  split at h
  · exact ⟨_, _, _, rfl, h⟩
  · exact h.elim
theorem zr1_ex {st : List zV} {f : Nat → List zV → Prop} (h : zr1 st f) : ∃ a r, st = .inr (.inr a) :: r ∧ f a r := by
  unfold zr1 at h
  split at h
  · exact ⟨_, _, rfl, h⟩
  · exact h.elim
theorem zri_ex {st : List zV} {f : Nat → Int → List zV → Prop} (h : zri st f) : ∃ k i r, st = .inl i :: .inr (.inr k) :: r ∧ f k i r := by
  unfold zri at h
  split at h
  · exact ⟨_, _, _, rfl, h⟩
  · exact h.elim
theorem zrii_ex {st : List zV} {f : Nat → Int → Int → List zV → Prop} (h : zrii st f) : ∃ k i v r, st = .inl v :: .inl i :: .inr (.inr k) :: r ∧ f k i v r := by
  unfold zrii at h
  split at h
  · exact ⟨_, _, _, _, rfl, h⟩
  · exact h.elim
theorem zril_ex {st : List zV} {f : Nat → Int → Int → List zV → Prop} (h : zril st f) : ∃ k i v r, st = .inr (.inl v) :: .inl i :: .inr (.inr k) :: r ∧ f k i v r := by
  unfold zril at h
  split at h
  · exact ⟨_, _, _, _, rfl, h⟩
  · exact h.elim
theorem zgI_ex {o : Option (Option zV)} {f : Int → Prop} (h : zgI o f) : ∃ x, o = some (some (.inl x)) ∧ f x := by
  unfold zgI at h
  split at h
  · exact ⟨_, rfl, h⟩
  · exact h.elim
theorem zgL_ex {o : Option (Option zV)} {f : Int → Prop} (h : zgL o f) : ∃ x, o = some (some (.inr (.inl x))) ∧ f x := by
  unfold zgL at h
  split at h
  · exact ⟨_, rfl, h⟩
  · exact h.elim
theorem zgR_ex {o : Option (Option zV)} {f : Nat → Prop} (h : zgR o f) : ∃ x, o = some (some (.inr (.inr x))) ∧ f x := by
  unfold zgR at h
  split at h
  · exact ⟨_, rfl, h⟩
  · exact h.elim
theorem zar_ex {k t : Nat} {f : Nat → Prop} (h : zar k t f) : ∃ n, zSHL[k]? = some (.inl (t, n)) ∧ f n := by
  unfold zar at h
  split at h
  · rename_i t' n hk
    cases hb : Nat.beq t' t with
    | true =>
      rw [hb] at h
      have h1 := Nat.eq_of_beq_eq_true hb
      subst h1
      exact ⟨n, hk, h⟩
    | false => rw [hb] at h; exact h.elim
  · exact h.elim
theorem zob_ex {k t : Nat} {f : List (Option Nat) → Prop} (h : zob k t f) : ∃ n, zSHL[k]? = some (.inr (t, n)) ∧ f n := by
  unfold zob at h
  split at h
  · rename_i t' n hk
    cases hb : Nat.beq t' t with
    | true =>
      rw [hb] at h
      have h1 := Nat.eq_of_beq_eq_true hb
      subst h1
      exact ⟨n, hk, h⟩
    | false => rw [hb] at h; exact h.elim
  · exact h.elim
theorem zrgs {v : zV} {r : List zV} (h1 : zrg v) (h2 : ∀ v ∈ r, zrg v) : ∀ w ∈ v :: r, zrg w := List.forall_mem_cons.mpr ⟨h1, h2⟩
theorem zrgt {v : zV} {r : List zV} (h : ∀ w ∈ v :: r, zrg w) : ∀ w ∈ r, zrg w := fun w hw => h w (List.mem_cons_of_mem _ hw)
theorem zrgh {v : zV} {r : List zV} (h : ∀ w ∈ v :: r, zrg w) : zrg v := h v List.mem_cons_self
theorem zrgl {ls : List (Option zV)} {i : Nat} {v : zV} (h : ∀ v, some v ∈ ls → zrg v) (hi : ls[i]? = some (some v)) : zrg v := h v (List.mem_of_getElem? hi)
theorem zrgset {ls : List (Option zV)} {i : Nat} {o : Option zV} (h : ∀ v, some v ∈ ls → zrg v) (ho : ∀ v, o = some v → zrg v) : ∀ v, some v ∈ ls.set i o → zrg v := by
  intro v hv
  rcases List.mem_or_eq_of_mem_set hv with h1 | h1
  · exact h v h1
  · exact ho v h1.symm
theorem z32 {a : Int} (h : zR32 a) : (Int32.ofInt a).toInt = a := Int32.toInt_ofInt_of_le (by have := h.1; omega) (by have := h.2; omega)
theorem z64 {a : Int} (h : zR64 a) : (Int64.ofInt a).toInt = a := Int64.toInt_ofInt_of_le (by have := h.1; omega) (by have := h.2; omega)
theorem zr32 (x : Int32) : zR32 x.toInt := ⟨by have := x.le_toInt; omega, by have := x.toInt_lt; omega⟩
theorem zr64 (x : Int64) : zR64 x.toInt := ⟨by have := x.le_toInt; omega, by have := x.toInt_lt; omega⟩
theorem zeq32 {a b : Int} (ha : zR32 a) (hb : zR32 b) : Int32.ofInt a = Int32.ofInt b ↔ a = b := ⟨fun h => by rw [← z32 ha, ← z32 hb, h], fun h => by rw [h]⟩
theorem zlt32 {a b : Int} (ha : zR32 a) (hb : zR32 b) : Int32.ofInt a < Int32.ofInt b ↔ a < b := by rw [Int32.lt_iff_toInt_lt, z32 ha, z32 hb]
theorem zle32 {a b : Int} (ha : zR32 a) (hb : zR32 b) : Int32.ofInt a ≤ Int32.ofInt b ↔ a ≤ b := by rw [Int32.le_iff_toInt_le, z32 ha, z32 hb]
theorem zcl32 {a : Int} (h : zR32 a) : (Int32.ofInt a).toNatClampNeg = a.toNat := by rw [← Int32.toNat_toInt, z32 h]
theorem zin32 {i : Int} {n : Nat} (h : zR32 i) (h1 : 0 ≤ i) (h2 : i < n) : vp_in (Int32.ofInt i) n := by
  unfold vp_in
  rw [zcl32 h, Int32.lt_iff_toInt_lt, z32 h, Int32.toInt_zero]
  omega
theorem zlv_store {ad : Nat → Nat} {ls : List (Option zV)} {cls : Array Slot} {n i : Nat} {v : zV} {lv : List (Nat × Value)} (hv : (zcv ad v).category = 1) (hf : zfr ls i = true) (hL : lv_has cls n lv) (he : lv = (i, zcv ad v) :: (zlv ad 0 ls).filter (fun q => !(q.1 == i) && !(q.1 + 1 == i && q.2.category == 2))) : lv_has cls n (zlv ad 0 (ls.set i (some v))) := by
  refine ⟨hL.1, hL.2.1, fun q hq => ?_⟩
  obtain ⟨j, w, h1, rfl⟩ := zlv_mem.mp hq
  apply hL.2.2
  rw [he]
  rw [List.getElem?_set] at h1
  by_cases hj : i = j
  · subst hj
    split at h1
    · split at h1
      · cases h1
        exact List.mem_cons.mpr (Or.inl (by simp))
      · cases h1
    · rename_i hne
      exact absurd rfl hne
  · rw [if_neg hj] at h1
    refine List.mem_cons_of_mem _ (List.mem_filter.mpr ⟨zlv_mem.mpr ⟨j, w, h1, rfl⟩, ?_⟩)
    have hj2 : ¬ j = i := fun q => hj q.symm
    by_cases hk : j + 1 = i
    · subst hk
      have hw : zisL ls[j]? = false := by
        simp only [zfr, Bool.and_eq_true, Bool.not_eq_true'] at hf
        exact hf.2
      rw [h1] at hw
      match w, hw with
      | .inl y, _ => simp [hj2, zcv, Value.category]
      | .inr (.inr y), _ => simp [hj2, zcv, Value.category]
    · simp [hj2, hk]
theorem zfr_lt {ls : List (Option zV)} {i : Nat} (h : zfr ls i = true) : i < ls.length := by
  simp only [zfr, Bool.and_eq_true] at h
  exact Nat.le_of_ble_eq_true h.1
theorem zGW_in {w : Cond} {pl : Nat} (h : lw_tbl[pl]? = some w) (hg : goodWord w = true) : w ∈ zGW := List.mem_filter.mpr ⟨List.mem_of_getElem? h, hg⟩
abbrev zKp (d mi : Nat) (Q : Option zV → zMem → Prop) (K : Nat → List (Option zV) → List zV → zMem → Prop) : Prop := ∀ pc ls st M, K pc ls st M → zBg d mi pc ls st M Q
section zRows
variable {d mi pc : Nat} {I : zMI} {ls : List (Option zV)} {st : List zV} {M : zMem} {Q : Option zV → zMem → Prop} {K : Nat → List (Option zV) → List zV → zMem → Prop} {n : Nat} {xa : Int} {xb xc xe : Nat}
theorem zi2b_r (x : Int) : zR32 (zi2b x) := by unfold zi2b zR32; have := @Int.le_bmod x 256 (by decide); have := @Int.bmod_lt x 256 (by decide); omega
theorem zi2s_r (x : Int) : zR32 (zi2s x) := by unfold zi2s zR32; have := @Int.le_bmod x 65536 (by decide); have := @Int.bmod_lt x 65536 (by decide); omega
theorem zlcmp_r (x y : Int) : zR32 (zlcmp x y) := by
  unfold zlcmp
  split
  · decide
  · split <;> decide
theorem zs_iconst {k : Int} (hA : zAt mi I pc (.iconst k, n, xa, xb, xc, xe)) (hK : zKp d mi Q K) (h : zst d I Q pc ls st M (.iconst k, n, xa, xb, xc, xe) K) : zBg d mi pc ls st M Q := by
  obtain ⟨hdg, hok, hn⟩ := hA.ok
  have hn : n = 1 := Nat.eq_of_beq_eq_true hn
  subst hn
  intro hM hs hl I' hI' hlen l D cA ad p e s m args below meth c H locs cls hinj hC hmK hP hS hL
  have hII := Option.some.inj (hA.1.symm.trans hI')
  subst hII
  have hC0 := hC
  obtain ⟨hx, hb, hml, hown, hts, hnw, hr, hlk⟩ := hC0
  refine lv_iconst hx hb hdg rfl ?_
  exact hK _ _ _ _ h hM (zrgs (show zR32 k from of_decide_eq_true hok) hs) hl I hI' hlen l D cA ad p e s m args below meth c H locs cls hinj hC hmK hP hS hL
theorem zs_bipush {k : Int} (hA : zAt mi I pc (.bipush k, n, xa, xb, xc, xe)) (hK : zKp d mi Q K) (h : zst d I Q pc ls st M (.bipush k, n, xa, xb, xc, xe) K) : zBg d mi pc ls st M Q := by
  obtain ⟨hdg, hok, hn⟩ := hA.ok
  have hn : n = 2 := Nat.eq_of_beq_eq_true hn
  subst hn
  have hok2 : (Int8.ofInt k).toInt32 = Int32.ofInt k ∧ zR32 k := of_decide_eq_true hok
  intro hM hs hl I' hI' hlen l D cA ad p e s m args below meth c H locs cls hinj hC hmK hP hS hL
  have hII := Option.some.inj (hA.1.symm.trans hI')
  subst hII
  have hC0 := hC
  obtain ⟨hx, hb, hml, hown, hts, hnw, hr, hlk⟩ := hC0
  refine lv_bipush hx hb hdg hok2.1 ?_
  exact hK _ _ _ _ h hM (zrgs hok2.2 hs) hl I hI' hlen l D cA ad p e s m args below meth c H locs cls hinj hC hmK hP hS hL
theorem zs_sipush {k : Int} (hA : zAt mi I pc (.sipush k, n, xa, xb, xc, xe)) (hK : zKp d mi Q K) (h : zst d I Q pc ls st M (.sipush k, n, xa, xb, xc, xe) K) : zBg d mi pc ls st M Q := by
  obtain ⟨hdg, hok, hn⟩ := hA.ok
  have hn : n = 3 := Nat.eq_of_beq_eq_true hn
  subst hn
  have hok2 : (Int16.ofInt k).toInt32 = Int32.ofInt k ∧ zR32 k := of_decide_eq_true hok
  intro hM hs hl I' hI' hlen l D cA ad p e s m args below meth c H locs cls hinj hC hmK hP hS hL
  have hII := Option.some.inj (hA.1.symm.trans hI')
  subst hII
  have hC0 := hC
  obtain ⟨hx, hb, hml, hown, hts, hnw, hr, hlk⟩ := hC0
  refine lv_sipush hx hb hdg hok2.1 ?_
  exact hK _ _ _ _ h hM (zrgs hok2.2 hs) hl I hI' hlen l D cA ad p e s m args below meth c H locs cls hinj hC hmK hP hS hL
theorem zs_ldc {k : Nat} (hA : zAt mi I pc (.ldc k, n, xa, xb, xc, xe)) (hK : zKp d mi Q K) (h : zst d I Q pc ls st M (.ldc k, n, xa, xb, xc, xe) K) : zBg d mi pc ls st M Q := by
  obtain ⟨hdg, hok, hn⟩ := hA.ok
  have hn : n = 2 := Nat.eq_of_beq_eq_true hn
  subst hn
  have hok2 : zR32 xa ∧ lw_tbl[xe]? = some (.constant I.1.cls k (Int32.ofInt xa)) := by
    have h1 := Bool.and_eq_true_iff.mp hok
    exact ⟨of_decide_eq_true h1.1, of_decide_eq_true h1.2⟩
  intro hM hs hl I' hI' hlen l D cA ad p e s m args below meth c H locs cls hinj hC hmK hP hS hL
  have hII := Option.some.inj (hA.1.symm.trans hI')
  subst hII
  have hC0 := hC
  obtain ⟨hx, hb, hml, hown, hts, hnw, hr, hlk⟩ := hC0
  refine lv_ldc hx hb hown (hts _ (zGW_in hok2.2 rfl)) hdg ?_
  exact hK _ _ _ _ h hM (zrgs hok2.1 hs) hl I hI' hlen l D cA ad p e s m args below meth c H locs cls hinj hC hmK hP hS hL
theorem zs_ldc_w {k : Nat} (hA : zAt mi I pc (.ldc_w k, n, xa, xb, xc, xe)) (hK : zKp d mi Q K) (h : zst d I Q pc ls st M (.ldc_w k, n, xa, xb, xc, xe) K) : zBg d mi pc ls st M Q := by
  obtain ⟨hdg, hok, hn⟩ := hA.ok
  have hn : n = 3 := Nat.eq_of_beq_eq_true hn
  subst hn
  have hok2 : zR32 xa ∧ lw_tbl[xe]? = some (.constant I.1.cls k (Int32.ofInt xa)) := by
    have h1 := Bool.and_eq_true_iff.mp hok
    exact ⟨of_decide_eq_true h1.1, of_decide_eq_true h1.2⟩
  intro hM hs hl I' hI' hlen l D cA ad p e s m args below meth c H locs cls hinj hC hmK hP hS hL
  have hII := Option.some.inj (hA.1.symm.trans hI')
  subst hII
  have hC0 := hC
  obtain ⟨hx, hb, hml, hown, hts, hnw, hr, hlk⟩ := hC0
  refine lv_ldcw hx hb hown (hts _ (zGW_in hok2.2 rfl)) hdg ?_
  exact hK _ _ _ _ h hM (zrgs hok2.1 hs) hl I hI' hlen l D cA ad p e s m args below meth c H locs cls hinj hC hmK hP hS hL
theorem zs_ldc2_w {k : Nat} (hA : zAt mi I pc (.ldc2_w k, n, xa, xb, xc, xe)) (hK : zKp d mi Q K) (h : zst d I Q pc ls st M (.ldc2_w k, n, xa, xb, xc, xe) K) : zBg d mi pc ls st M Q := by
  obtain ⟨hdg, hok, hn⟩ := hA.ok
  have hn : n = 3 := Nat.eq_of_beq_eq_true hn
  subst hn
  have hok2 : zR64 xa ∧ lw_tbl[xe]? = some (.constantLong I.1.cls k (Int64.ofInt xa)) := by
    have h1 := Bool.and_eq_true_iff.mp hok
    exact ⟨of_decide_eq_true h1.1, of_decide_eq_true h1.2⟩
  intro hM hs hl I' hI' hlen l D cA ad p e s m args below meth c H locs cls hinj hC hmK hP hS hL
  have hII := Option.some.inj (hA.1.symm.trans hI')
  subst hII
  have hC0 := hC
  obtain ⟨hx, hb, hml, hown, hts, hnw, hr, hlk⟩ := hC0
  refine lv_ldc2 hx hb hown (hts _ (zGW_in hok2.2 rfl)) hdg ?_
  exact hK _ _ _ _ h hM (zrgs hok2.1 hs) hl I hI' hlen l D cA ad p e s m args below meth c H locs cls hinj hC hmK hP hS hL
theorem zs_lconst {k : Fin 2} (hA : zAt mi I pc (.lconst k, n, xa, xb, xc, xe)) (hK : zKp d mi Q K) (h : zst d I Q pc ls st M (.lconst k, n, xa, xb, xc, xe) K) : zBg d mi pc ls st M Q := by
  obtain ⟨hdg, hok, hn⟩ := hA.ok
  have hn : n = 1 := Nat.eq_of_beq_eq_true hn
  subst hn
  intro hM hs hl I' hI' hlen l D cA ad p e s m args below meth c H locs cls hinj hC hmK hP hS hL
  have hII := Option.some.inj (hA.1.symm.trans hI')
  subst hII
  have hC0 := hC
  obtain ⟨hx, hb, hml, hown, hts, hnw, hr, hlk⟩ := hC0
  refine lv_lconst (v := Int64.ofInt ((k : Nat) : Int)) hx hb hdg (by rw [Int64.ofInt_eq_ofNat]) ?_
  exact hK _ _ _ _ h hM (zrgs (show zR64 ((k : Nat) : Int) by have := k.2; omega) hs) hl I hI' hlen l D cA ad p e s m args below meth c H locs cls hinj hC hmK hP hS hL
theorem zs_iload {k : Nat} (hA : zAt mi I pc (.iload k, n, xa, xb, xc, xe)) (hK : zKp d mi Q K) (h : zst d I Q pc ls st M (.iload k, n, xa, xb, xc, xe) K) : zBg d mi pc ls st M Q := by
  obtain ⟨hdg, hok, hn⟩ := hA.ok
  have hn : n = 2 := Nat.eq_of_beq_eq_true hn
  subst hn
  obtain ⟨v, hv, h⟩ := zgI_ex h
  intro hM hs hl I' hI' hlen l D cA ad p e s m args below meth c H locs cls hinj hC hmK hP hS hL
  have hII := Option.some.inj (hA.1.symm.trans hI')
  subst hII
  have hC0 := hC
  obtain ⟨hx, hb, hml, hown, hts, hnw, hr, hlk⟩ := hC0
  refine lv_iload hx hb hdg (zlv_at hL hv) ?_
  exact hK _ _ _ _ h hM (zrgs (zrgl hl hv) hs) hl I hI' hlen l D cA ad p e s m args below meth c H locs cls hinj hC hmK hP hS hL
theorem zs_iload_n {k : Fin 4} (hA : zAt mi I pc (.iload_n k, n, xa, xb, xc, xe)) (hK : zKp d mi Q K) (h : zst d I Q pc ls st M (.iload_n k, n, xa, xb, xc, xe) K) : zBg d mi pc ls st M Q := by
  obtain ⟨hdg, hok, hn⟩ := hA.ok
  have hn : n = 1 := Nat.eq_of_beq_eq_true hn
  subst hn
  obtain ⟨v, hv, h⟩ := zgI_ex h
  intro hM hs hl I' hI' hlen l D cA ad p e s m args below meth c H locs cls hinj hC hmK hP hS hL
  have hII := Option.some.inj (hA.1.symm.trans hI')
  subst hII
  have hC0 := hC
  obtain ⟨hx, hb, hml, hown, hts, hnw, hr, hlk⟩ := hC0
  refine lv_iload_n hx hb hdg rfl (zlv_at hL hv) ?_
  exact hK _ _ _ _ h hM (zrgs (zrgl hl hv) hs) hl I hI' hlen l D cA ad p e s m args below meth c H locs cls hinj hC hmK hP hS hL
theorem zs_lload {k : Nat} (hA : zAt mi I pc (.lload k, n, xa, xb, xc, xe)) (hK : zKp d mi Q K) (h : zst d I Q pc ls st M (.lload k, n, xa, xb, xc, xe) K) : zBg d mi pc ls st M Q := by
  obtain ⟨hdg, hok, hn⟩ := hA.ok
  have hn : n = 2 := Nat.eq_of_beq_eq_true hn
  subst hn
  obtain ⟨v, hv, h⟩ := zgL_ex h
  intro hM hs hl I' hI' hlen l D cA ad p e s m args below meth c H locs cls hinj hC hmK hP hS hL
  have hII := Option.some.inj (hA.1.symm.trans hI')
  subst hII
  have hC0 := hC
  obtain ⟨hx, hb, hml, hown, hts, hnw, hr, hlk⟩ := hC0
  refine lv_lload hx hb hdg (zlv_at hL hv) ?_
  exact hK _ _ _ _ h hM (zrgs (zrgl hl hv) hs) hl I hI' hlen l D cA ad p e s m args below meth c H locs cls hinj hC hmK hP hS hL
theorem zs_lload_n {k : Fin 4} (hA : zAt mi I pc (.lload_n k, n, xa, xb, xc, xe)) (hK : zKp d mi Q K) (h : zst d I Q pc ls st M (.lload_n k, n, xa, xb, xc, xe) K) : zBg d mi pc ls st M Q := by
  obtain ⟨hdg, hok, hn⟩ := hA.ok
  have hn : n = 1 := Nat.eq_of_beq_eq_true hn
  subst hn
  obtain ⟨v, hv, h⟩ := zgL_ex h
  intro hM hs hl I' hI' hlen l D cA ad p e s m args below meth c H locs cls hinj hC hmK hP hS hL
  have hII := Option.some.inj (hA.1.symm.trans hI')
  subst hII
  have hC0 := hC
  obtain ⟨hx, hb, hml, hown, hts, hnw, hr, hlk⟩ := hC0
  refine lv_lload_n hx hb hdg rfl (zlv_at hL hv) ?_
  exact hK _ _ _ _ h hM (zrgs (zrgl hl hv) hs) hl I hI' hlen l D cA ad p e s m args below meth c H locs cls hinj hC hmK hP hS hL
theorem zs_aload {k : Nat} (hA : zAt mi I pc (.aload k, n, xa, xb, xc, xe)) (hK : zKp d mi Q K) (h : zst d I Q pc ls st M (.aload k, n, xa, xb, xc, xe) K) : zBg d mi pc ls st M Q := by
  obtain ⟨hdg, hok, hn⟩ := hA.ok
  have hn : n = 2 := Nat.eq_of_beq_eq_true hn
  subst hn
  obtain ⟨v, hv, h⟩ := zgR_ex h
  intro hM hs hl I' hI' hlen l D cA ad p e s m args below meth c H locs cls hinj hC hmK hP hS hL
  have hII := Option.some.inj (hA.1.symm.trans hI')
  subst hII
  have hC0 := hC
  obtain ⟨hx, hb, hml, hown, hts, hnw, hr, hlk⟩ := hC0
  refine lv_aload hx hb hdg (zlv_at hL hv) ?_
  exact hK _ _ _ _ h hM (zrgs (zrgl hl hv) hs) hl I hI' hlen l D cA ad p e s m args below meth c H locs cls hinj hC hmK hP hS hL
theorem zs_aload_n {k : Fin 4} (hA : zAt mi I pc (.aload_n k, n, xa, xb, xc, xe)) (hK : zKp d mi Q K) (h : zst d I Q pc ls st M (.aload_n k, n, xa, xb, xc, xe) K) : zBg d mi pc ls st M Q := by
  obtain ⟨hdg, hok, hn⟩ := hA.ok
  have hn : n = 1 := Nat.eq_of_beq_eq_true hn
  subst hn
  obtain ⟨v, hv, h⟩ := zgR_ex h
  intro hM hs hl I' hI' hlen l D cA ad p e s m args below meth c H locs cls hinj hC hmK hP hS hL
  have hII := Option.some.inj (hA.1.symm.trans hI')
  subst hII
  have hC0 := hC
  obtain ⟨hx, hb, hml, hown, hts, hnw, hr, hlk⟩ := hC0
  refine lv_aload_n hx hb hdg rfl (zlv_at hL hv) ?_
  exact hK _ _ _ _ h hM (zrgs (zrgl hl hv) hs) hl I hI' hlen l D cA ad p e s m args below meth c H locs cls hinj hC hmK hP hS hL
theorem zs_istore {k : Nat} (hA : zAt mi I pc (.istore k, n, xa, xb, xc, xe)) (hK : zKp d mi Q K) (h : zst d I Q pc ls st M (.istore k, n, xa, xb, xc, xe) K) : zBg d mi pc ls st M Q := by
  obtain ⟨hdg, hok, hn⟩ := hA.ok
  have hn : n = 2 := Nat.eq_of_beq_eq_true hn
  subst hn
  obtain ⟨v, r, rfl, h7⟩ := z1_ex h
  obtain ⟨hf, h⟩ := zif h7
  intro hM hs hl I' hI' hlen l D cA ad p e s m args below meth c H locs cls hinj hC hmK hP hS hL
  have hII := Option.some.inj (hA.1.symm.trans hI')
  subst hII
  have hC0 := hC
  obtain ⟨hx, hb, hml, hown, hts, hnw, hr, hlk⟩ := hC0
  refine lv_istore hx hb hdg hL (Nat.lt_of_lt_of_le (zfr_lt hf) hlen) rfl (fun cls hL => ?_)
  exact hK _ _ _ _ h hM (zrgt hs) (zrgset hl (fun w hw => by cases hw; exact zrgh hs)) I hI' (by rw [List.length_set]; exact hlen) l D cA ad p e s m args below meth c H locs cls hinj hC hmK hP hS (zlv_store rfl hf hL rfl)
theorem zs_istore_n {k : Fin 4} (hA : zAt mi I pc (.istore_n k, n, xa, xb, xc, xe)) (hK : zKp d mi Q K) (h : zst d I Q pc ls st M (.istore_n k, n, xa, xb, xc, xe) K) : zBg d mi pc ls st M Q := by
  obtain ⟨hdg, hok, hn⟩ := hA.ok
  have hn : n = 1 := Nat.eq_of_beq_eq_true hn
  subst hn
  obtain ⟨v, r, rfl, h7⟩ := z1_ex h
  obtain ⟨hf, h⟩ := zif h7
  intro hM hs hl I' hI' hlen l D cA ad p e s m args below meth c H locs cls hinj hC hmK hP hS hL
  have hII := Option.some.inj (hA.1.symm.trans hI')
  subst hII
  have hC0 := hC
  obtain ⟨hx, hb, hml, hown, hts, hnw, hr, hlk⟩ := hC0
  refine lv_istore_n hx hb hdg rfl hL (Nat.lt_of_lt_of_le (zfr_lt hf) hlen) rfl (fun cls hL => ?_)
  exact hK _ _ _ _ h hM (zrgt hs) (zrgset hl (fun w hw => by cases hw; exact zrgh hs)) I hI' (by rw [List.length_set]; exact hlen) l D cA ad p e s m args below meth c H locs cls hinj hC hmK hP hS (zlv_store rfl hf hL rfl)
theorem zs_astore {k : Nat} (hA : zAt mi I pc (.astore k, n, xa, xb, xc, xe)) (hK : zKp d mi Q K) (h : zst d I Q pc ls st M (.astore k, n, xa, xb, xc, xe) K) : zBg d mi pc ls st M Q := by
  obtain ⟨hdg, hok, hn⟩ := hA.ok
  have hn : n = 2 := Nat.eq_of_beq_eq_true hn
  subst hn
  obtain ⟨v, r, rfl, h7⟩ := zr1_ex h
  obtain ⟨hf, h⟩ := zif h7
  intro hM hs hl I' hI' hlen l D cA ad p e s m args below meth c H locs cls hinj hC hmK hP hS hL
  have hII := Option.some.inj (hA.1.symm.trans hI')
  subst hII
  have hC0 := hC
  obtain ⟨hx, hb, hml, hown, hts, hnw, hr, hlk⟩ := hC0
  refine lv_astore hx hb hdg hL (Nat.lt_of_lt_of_le (zfr_lt hf) hlen) rfl (fun cls hL => ?_)
  exact hK _ _ _ _ h hM (zrgt hs) (zrgset hl (fun w hw => by cases hw; exact zrgh hs)) I hI' (by rw [List.length_set]; exact hlen) l D cA ad p e s m args below meth c H locs cls hinj hC hmK hP hS (zlv_store rfl hf hL rfl)
theorem zs_astore_n {k : Fin 4} (hA : zAt mi I pc (.astore_n k, n, xa, xb, xc, xe)) (hK : zKp d mi Q K) (h : zst d I Q pc ls st M (.astore_n k, n, xa, xb, xc, xe) K) : zBg d mi pc ls st M Q := by
  obtain ⟨hdg, hok, hn⟩ := hA.ok
  have hn : n = 1 := Nat.eq_of_beq_eq_true hn
  subst hn
  obtain ⟨v, r, rfl, h7⟩ := zr1_ex h
  obtain ⟨hf, h⟩ := zif h7
  intro hM hs hl I' hI' hlen l D cA ad p e s m args below meth c H locs cls hinj hC hmK hP hS hL
  have hII := Option.some.inj (hA.1.symm.trans hI')
  subst hII
  have hC0 := hC
  obtain ⟨hx, hb, hml, hown, hts, hnw, hr, hlk⟩ := hC0
  refine lv_astore_n hx hb hdg rfl hL (Nat.lt_of_lt_of_le (zfr_lt hf) hlen) rfl (fun cls hL => ?_)
  exact hK _ _ _ _ h hM (zrgt hs) (zrgset hl (fun w hw => by cases hw; exact zrgh hs)) I hI' (by rw [List.length_set]; exact hlen) l D cA ad p e s m args below meth c H locs cls hinj hC hmK hP hS (zlv_store rfl hf hL rfl)
theorem zlv_store2 {ad : Nat → Nat} {ls : List (Option zV)} {cls : Array Slot} {n i : Nat} {v : Int} {lv : List (Nat × Value)} (hf : (zfr ls i && zfr (ls.set i none) (i + 1)) = true) (hL : lv_has cls n lv) (he : lv = (i, Value.long (Int64.ofInt v)) :: (zlv ad 0 ls).filter (fun q => !(q.1 == i) && (!(q.1 == i + 1) && !(q.1 + 1 == i && q.2.category == 2)))) : lv_has cls n (zlv ad 0 ((ls.set i (zL v)).set (i + 1) none)) := by
  refine ⟨hL.1, hL.2.1, fun q hq => ?_⟩
  obtain ⟨j, w, h1, rfl⟩ := zlv_mem.mp hq
  apply hL.2.2
  rw [he]
  simp only [Bool.and_eq_true] at hf
  rw [List.getElem?_set] at h1
  by_cases hj : i + 1 = j
  · rw [if_pos hj] at h1
    split at h1 <;> cases h1
  · rw [if_neg hj, List.getElem?_set] at h1
    by_cases hj1 : i = j
    · subst hj1
      rw [if_pos rfl] at h1
      split at h1
      · cases h1
        exact List.mem_cons.mpr (Or.inl (by simp [zcv]))
      · cases h1
    · rw [if_neg hj1] at h1
      refine List.mem_cons_of_mem _ (List.mem_filter.mpr ⟨zlv_mem.mpr ⟨j, w, h1, rfl⟩, ?_⟩)
      have hj2 : ¬ j = i := fun q => hj1 q.symm
      have hj3 : ¬ j = i + 1 := fun q => hj q.symm
      by_cases hk : j + 1 = i
      · subst hk
        have hw : zisL ls[j]? = false := by
          have h2 := hf.1
          simp only [zfr, Bool.and_eq_true, Bool.not_eq_true'] at h2
          exact h2.2
        rw [h1] at hw
        match w, hw with
        | .inl y, _ => simp [hj2, hj3, zcv, Value.category]
        | .inr (.inr y), _ => simp [hj2, hj3, zcv, Value.category]
      · simp [hj2, hj3, hk]
theorem zs_lstore {k : Nat} (hA : zAt mi I pc (.lstore k, n, xa, xb, xc, xe)) (hK : zKp d mi Q K) (h : zst d I Q pc ls st M (.lstore k, n, xa, xb, xc, xe) K) : zBg d mi pc ls st M Q := by
  obtain ⟨hdg, hok, hn⟩ := hA.ok
  have hn : n = 2 := Nat.eq_of_beq_eq_true hn
  subst hn
  obtain ⟨v, r, rfl, h7⟩ := zl1_ex h
  obtain ⟨hf, h⟩ := zif h7
  have hf2 := Bool.and_eq_true_iff.mp hf
  intro hM hs hl I' hI' hlen l D cA ad p e s m args below meth c H locs cls hinj hC hmK hP hS hL
  have hII := Option.some.inj (hA.1.symm.trans hI')
  subst hII
  have hC0 := hC
  obtain ⟨hx, hb, hml, hown, hts, hnw, hr, hlk⟩ := hC0
  refine lv_lstore hx hb hdg hL (by have h9 := zfr_lt hf2.2; rw [List.length_set] at h9; exact Nat.lt_of_lt_of_le h9 hlen) rfl (fun cls hL => ?_)
  exact hK _ _ _ _ h hM (zrgt hs) (zrgset (zrgset hl (fun w hw => by cases hw; exact zrgh hs)) (fun w hw => by cases hw)) I hI' (by rw [List.length_set, List.length_set]; exact hlen) l D cA ad p e s m args below meth c H locs cls hinj hC hmK hP hS (zlv_store2 hf hL rfl)
theorem zs_lstore_n {k : Fin 4} (hA : zAt mi I pc (.lstore_n k, n, xa, xb, xc, xe)) (hK : zKp d mi Q K) (h : zst d I Q pc ls st M (.lstore_n k, n, xa, xb, xc, xe) K) : zBg d mi pc ls st M Q := by
  obtain ⟨hdg, hok, hn⟩ := hA.ok
  have hn : n = 1 := Nat.eq_of_beq_eq_true hn
  subst hn
  obtain ⟨v, r, rfl, h7⟩ := zl1_ex h
  obtain ⟨hf, h⟩ := zif h7
  have hf2 := Bool.and_eq_true_iff.mp hf
  intro hM hs hl I' hI' hlen l D cA ad p e s m args below meth c H locs cls hinj hC hmK hP hS hL
  have hII := Option.some.inj (hA.1.symm.trans hI')
  subst hII
  have hC0 := hC
  obtain ⟨hx, hb, hml, hown, hts, hnw, hr, hlk⟩ := hC0
  refine lv_lstore_n hx hb hdg rfl hL (by have h9 := zfr_lt hf2.2; rw [List.length_set] at h9; exact Nat.lt_of_lt_of_le h9 hlen) rfl (fun cls hL => ?_)
  exact hK _ _ _ _ h hM (zrgt hs) (zrgset (zrgset hl (fun w hw => by cases hw; exact zrgh hs)) (fun w hw => by cases hw)) I hI' (by rw [List.length_set, List.length_set]; exact hlen) l D cA ad p e s m args below meth c H locs cls hinj hC hmK hP hS (zlv_store2 hf hL rfl)
theorem zlv_idx {ad : Nat → Nat} {ls : List (Option zV)} {i : Nat} {v : zV} (h : ls[i]? = some (some v)) : ∃ k : Nat, (zlv ad 0 ls)[k]? = some (i, zcv ad v) := by
  have h1 : (i, zcv ad v) ∈ zlv ad 0 ls := zlv_mem.mpr ⟨i, v, h, by simp⟩
  exact List.getElem?_of_mem h1
theorem zs_iinc {k : Nat} {j : Int} (hA : zAt mi I pc (.iinc k j, n, xa, xb, xc, xe)) (hK : zKp d mi Q K) (h : zst d I Q pc ls st M (.iinc k j, n, xa, xb, xc, xe) K) : zBg d mi pc ls st M Q := by
  obtain ⟨hdg, hok, hn⟩ := hA.ok
  have hn : n = 3 := Nat.eq_of_beq_eq_true hn
  subst hn
  obtain ⟨v, hv, h7⟩ := zgI_ex h
  obtain ⟨hf, hrr, h⟩ := zif h7
  intro hM hs hl I' hI' hlen l D cA ad p e s m args below meth c H locs cls hinj hC hmK hP hS hL
  have hII := Option.some.inj (hA.1.symm.trans hI')
  subst hII
  have hC0 := hC
  obtain ⟨hx, hb, hml, hown, hts, hnw, hr, hlk⟩ := hC0
  obtain ⟨q, hq⟩ := zlv_idx (ad := ad) hv
  refine lv_iinc (v := Int32.ofInt (v + j)) hx hb hdg hL hq (by rw [Int32.ofInt_add]) (Nat.lt_of_lt_of_le (zfr_lt hf) hlen) rfl (fun cls hL => ?_)
  exact hK _ _ _ _ h hM hs (zrgset hl (fun w hw => by cases hw; exact hrr)) I hI' (by rw [List.length_set]; exact hlen) l D cA ad p e s m args below meth c H locs cls hinj hC hmK hP hS (zlv_store (v := .inl (v + j)) rfl hf hL rfl)
theorem zs_iadd  (hA : zAt mi I pc (.iadd, n, xa, xb, xc, xe)) (hK : zKp d mi Q K) (h : zst d I Q pc ls st M (.iadd, n, xa, xb, xc, xe) K) : zBg d mi pc ls st M Q := by
  obtain ⟨hdg, hok, hn⟩ := hA.ok
  have hn : n = 1 := Nat.eq_of_beq_eq_true hn
  subst hn
  obtain ⟨x, y, r, rfl, hrr, h⟩ := z2_ex h
  intro hM hs hl I' hI' hlen l D cA ad p e s m args below meth c H locs cls hinj hC hmK hP hS hL
  have hII := Option.some.inj (hA.1.symm.trans hI')
  subst hII
  have hC0 := hC
  obtain ⟨hx, hb, hml, hown, hts, hnw, hr, hlk⟩ := hC0
  refine lv_iadd hx hb hdg ?_
  rw [← Int32.ofInt_add]
  exact hK _ _ _ _ h hM (zrgs hrr (zrgt (zrgt hs))) hl I hI' hlen l D cA ad p e s m args below meth c H locs cls hinj hC hmK hP hS hL
theorem zs_isub  (hA : zAt mi I pc (.isub, n, xa, xb, xc, xe)) (hK : zKp d mi Q K) (h : zst d I Q pc ls st M (.isub, n, xa, xb, xc, xe) K) : zBg d mi pc ls st M Q := by
  obtain ⟨hdg, hok, hn⟩ := hA.ok
  have hn : n = 1 := Nat.eq_of_beq_eq_true hn
  subst hn
  obtain ⟨x, y, r, rfl, hrr, h⟩ := z2_ex h
  intro hM hs hl I' hI' hlen l D cA ad p e s m args below meth c H locs cls hinj hC hmK hP hS hL
  have hII := Option.some.inj (hA.1.symm.trans hI')
  subst hII
  have hC0 := hC
  obtain ⟨hx, hb, hml, hown, hts, hnw, hr, hlk⟩ := hC0
  refine lv_isub hx hb hdg ?_
  rw [← Int32.ofInt_sub]
  exact hK _ _ _ _ h hM (zrgs hrr (zrgt (zrgt hs))) hl I hI' hlen l D cA ad p e s m args below meth c H locs cls hinj hC hmK hP hS hL
theorem zs_imul  (hA : zAt mi I pc (.imul, n, xa, xb, xc, xe)) (hK : zKp d mi Q K) (h : zst d I Q pc ls st M (.imul, n, xa, xb, xc, xe) K) : zBg d mi pc ls st M Q := by
  obtain ⟨hdg, hok, hn⟩ := hA.ok
  have hn : n = 1 := Nat.eq_of_beq_eq_true hn
  subst hn
  obtain ⟨x, y, r, rfl, hrr, h⟩ := z2_ex h
  intro hM hs hl I' hI' hlen l D cA ad p e s m args below meth c H locs cls hinj hC hmK hP hS hL
  have hII := Option.some.inj (hA.1.symm.trans hI')
  subst hII
  have hC0 := hC
  obtain ⟨hx, hb, hml, hown, hts, hnw, hr, hlk⟩ := hC0
  refine lv_imul hx hb hdg ?_
  rw [← Int32.ofInt_mul]
  exact hK _ _ _ _ h hM (zrgs hrr (zrgt (zrgt hs))) hl I hI' hlen l D cA ad p e s m args below meth c H locs cls hinj hC hmK hP hS hL
theorem zs_iand  (hA : zAt mi I pc (.iand, n, xa, xb, xc, xe)) (hK : zKp d mi Q K) (h : zst d I Q pc ls st M (.iand, n, xa, xb, xc, xe) K) : zBg d mi pc ls st M Q := by
  obtain ⟨hdg, hok, hn⟩ := hA.ok
  have hn : n = 1 := Nat.eq_of_beq_eq_true hn
  subst hn
  obtain ⟨x, y, r, rfl, h⟩ := z2_ex h
  intro hM hs hl I' hI' hlen l D cA ad p e s m args below meth c H locs cls hinj hC hmK hP hS hL
  have hII := Option.some.inj (hA.1.symm.trans hI')
  subst hII
  have hC0 := hC
  obtain ⟨hx, hb, hml, hown, hts, hnw, hr, hlk⟩ := hC0
  refine lv_iand hx hb hdg ?_
  refine W.eq (g2 := F0 m (pc + 1) cls ((.inl (ziand x y) :: r).map (zcv ad))) (by simp only [List.map_cons, zcv, ziand, Int32.ofInt_toInt, Int64.ofInt_toInt]) ?_
  exact hK _ _ _ _ h hM (zrgs (zr32 _) (zrgt (zrgt hs))) hl I hI' hlen l D cA ad p e s m args below meth c H locs cls hinj hC hmK hP hS hL
theorem zs_ior  (hA : zAt mi I pc (.ior, n, xa, xb, xc, xe)) (hK : zKp d mi Q K) (h : zst d I Q pc ls st M (.ior, n, xa, xb, xc, xe) K) : zBg d mi pc ls st M Q := by
  obtain ⟨hdg, hok, hn⟩ := hA.ok
  have hn : n = 1 := Nat.eq_of_beq_eq_true hn
  subst hn
  obtain ⟨x, y, r, rfl, h⟩ := z2_ex h
  intro hM hs hl I' hI' hlen l D cA ad p e s m args below meth c H locs cls hinj hC hmK hP hS hL
  have hII := Option.some.inj (hA.1.symm.trans hI')
  subst hII
  have hC0 := hC
  obtain ⟨hx, hb, hml, hown, hts, hnw, hr, hlk⟩ := hC0
  refine lv_ior hx hb hdg ?_
  refine W.eq (g2 := F0 m (pc + 1) cls ((.inl (zior x y) :: r).map (zcv ad))) (by simp only [List.map_cons, zcv, zior, Int32.ofInt_toInt, Int64.ofInt_toInt]) ?_
  exact hK _ _ _ _ h hM (zrgs (zr32 _) (zrgt (zrgt hs))) hl I hI' hlen l D cA ad p e s m args below meth c H locs cls hinj hC hmK hP hS hL
theorem zs_ixor  (hA : zAt mi I pc (.ixor, n, xa, xb, xc, xe)) (hK : zKp d mi Q K) (h : zst d I Q pc ls st M (.ixor, n, xa, xb, xc, xe) K) : zBg d mi pc ls st M Q := by
  obtain ⟨hdg, hok, hn⟩ := hA.ok
  have hn : n = 1 := Nat.eq_of_beq_eq_true hn
  subst hn
  obtain ⟨x, y, r, rfl, h⟩ := z2_ex h
  intro hM hs hl I' hI' hlen l D cA ad p e s m args below meth c H locs cls hinj hC hmK hP hS hL
  have hII := Option.some.inj (hA.1.symm.trans hI')
  subst hII
  have hC0 := hC
  obtain ⟨hx, hb, hml, hown, hts, hnw, hr, hlk⟩ := hC0
  refine lv_ixor hx hb hdg ?_
  refine W.eq (g2 := F0 m (pc + 1) cls ((.inl (zixor x y) :: r).map (zcv ad))) (by simp only [List.map_cons, zcv, zixor, Int32.ofInt_toInt, Int64.ofInt_toInt]) ?_
  exact hK _ _ _ _ h hM (zrgs (zr32 _) (zrgt (zrgt hs))) hl I hI' hlen l D cA ad p e s m args below meth c H locs cls hinj hC hmK hP hS hL
theorem zs_ishl  (hA : zAt mi I pc (.ishl, n, xa, xb, xc, xe)) (hK : zKp d mi Q K) (h : zst d I Q pc ls st M (.ishl, n, xa, xb, xc, xe) K) : zBg d mi pc ls st M Q := by
  obtain ⟨hdg, hok, hn⟩ := hA.ok
  have hn : n = 1 := Nat.eq_of_beq_eq_true hn
  subst hn
  obtain ⟨x, y, r, rfl, h⟩ := z2_ex h
  intro hM hs hl I' hI' hlen l D cA ad p e s m args below meth c H locs cls hinj hC hmK hP hS hL
  have hII := Option.some.inj (hA.1.symm.trans hI')
  subst hII
  have hC0 := hC
  obtain ⟨hx, hb, hml, hown, hts, hnw, hr, hlk⟩ := hC0
  refine lv_ishl hx hb hdg ?_
  refine W.eq (g2 := F0 m (pc + 1) cls ((.inl (zishl x y) :: r).map (zcv ad))) (by simp only [List.map_cons, zcv, zishl, Int32.ofInt_toInt, Int64.ofInt_toInt]) ?_
  exact hK _ _ _ _ h hM (zrgs (zr32 _) (zrgt (zrgt hs))) hl I hI' hlen l D cA ad p e s m args below meth c H locs cls hinj hC hmK hP hS hL
theorem zs_ishr  (hA : zAt mi I pc (.ishr, n, xa, xb, xc, xe)) (hK : zKp d mi Q K) (h : zst d I Q pc ls st M (.ishr, n, xa, xb, xc, xe) K) : zBg d mi pc ls st M Q := by
  obtain ⟨hdg, hok, hn⟩ := hA.ok
  have hn : n = 1 := Nat.eq_of_beq_eq_true hn
  subst hn
  obtain ⟨x, y, r, rfl, h⟩ := z2_ex h
  intro hM hs hl I' hI' hlen l D cA ad p e s m args below meth c H locs cls hinj hC hmK hP hS hL
  have hII := Option.some.inj (hA.1.symm.trans hI')
  subst hII
  have hC0 := hC
  obtain ⟨hx, hb, hml, hown, hts, hnw, hr, hlk⟩ := hC0
  refine lv_ishr hx hb hdg ?_
  refine W.eq (g2 := F0 m (pc + 1) cls ((.inl (zishr x y) :: r).map (zcv ad))) (by simp only [List.map_cons, zcv, zishr, Int32.ofInt_toInt, Int64.ofInt_toInt]) ?_
  exact hK _ _ _ _ h hM (zrgs (zr32 _) (zrgt (zrgt hs))) hl I hI' hlen l D cA ad p e s m args below meth c H locs cls hinj hC hmK hP hS hL
theorem zs_iushr  (hA : zAt mi I pc (.iushr, n, xa, xb, xc, xe)) (hK : zKp d mi Q K) (h : zst d I Q pc ls st M (.iushr, n, xa, xb, xc, xe) K) : zBg d mi pc ls st M Q := by
  obtain ⟨hdg, hok, hn⟩ := hA.ok
  have hn : n = 1 := Nat.eq_of_beq_eq_true hn
  subst hn
  obtain ⟨x, y, r, rfl, h⟩ := z2_ex h
  intro hM hs hl I' hI' hlen l D cA ad p e s m args below meth c H locs cls hinj hC hmK hP hS hL
  have hII := Option.some.inj (hA.1.symm.trans hI')
  subst hII
  have hC0 := hC
  obtain ⟨hx, hb, hml, hown, hts, hnw, hr, hlk⟩ := hC0
  refine lv_iushr hx hb hdg rfl ?_
  refine W.eq (g2 := F0 m (pc + 1) cls ((.inl (ziushr x y) :: r).map (zcv ad))) (by simp only [List.map_cons, zcv, ziushr, Int32.ofInt_toInt]) ?_
  exact hK _ _ _ _ h hM (zrgs (zr32 _) (zrgt (zrgt hs))) hl I hI' hlen l D cA ad p e s m args below meth c H locs cls hinj hC hmK hP hS hL
theorem zs_idiv  (hA : zAt mi I pc (.idiv, n, xa, xb, xc, xe)) (hK : zKp d mi Q K) (h : zst d I Q pc ls st M (.idiv, n, xa, xb, xc, xe) K) : zBg d mi pc ls st M Q := by
  obtain ⟨hdg, hok, hn⟩ := hA.ok
  have hn : n = 1 := Nat.eq_of_beq_eq_true hn
  subst hn
  obtain ⟨x, y, r, rfl, hne, h⟩ := z2_ex h
  intro hM hs hl I' hI' hlen l D cA ad p e s m args below meth c H locs cls hinj hC hmK hP hS hL
  have hII := Option.some.inj (hA.1.symm.trans hI')
  subst hII
  have hC0 := hC
  obtain ⟨hx, hb, hml, hown, hts, hnw, hr, hlk⟩ := hC0
  refine lv_idiv hx hb hdg (fun q => hne ((zeq32 (zrgh hs) (by decide)).mp (q.trans (by decide : (0 : Int32) = Int32.ofInt 0)))) ?_
  refine W.eq (g2 := F0 m (pc + 1) cls ((.inl (zidiv x y) :: r).map (zcv ad))) (by simp only [List.map_cons, zcv, zidiv, Int32.ofInt_toInt, Int64.ofInt_toInt]) ?_
  exact hK _ _ _ _ h hM (zrgs (zr32 _) (zrgt (zrgt hs))) hl I hI' hlen l D cA ad p e s m args below meth c H locs cls hinj hC hmK hP hS hL
theorem zs_irem  (hA : zAt mi I pc (.irem, n, xa, xb, xc, xe)) (hK : zKp d mi Q K) (h : zst d I Q pc ls st M (.irem, n, xa, xb, xc, xe) K) : zBg d mi pc ls st M Q := by
  obtain ⟨hdg, hok, hn⟩ := hA.ok
  have hn : n = 1 := Nat.eq_of_beq_eq_true hn
  subst hn
  obtain ⟨x, y, r, rfl, hne, h⟩ := z2_ex h
  intro hM hs hl I' hI' hlen l D cA ad p e s m args below meth c H locs cls hinj hC hmK hP hS hL
  have hII := Option.some.inj (hA.1.symm.trans hI')
  subst hII
  have hC0 := hC
  obtain ⟨hx, hb, hml, hown, hts, hnw, hr, hlk⟩ := hC0
  refine lv_irem hx hb hdg (fun q => hne ((zeq32 (zrgh hs) (by decide)).mp (q.trans (by decide : (0 : Int32) = Int32.ofInt 0)))) ?_
  refine W.eq (g2 := F0 m (pc + 1) cls ((.inl (zirem x y) :: r).map (zcv ad))) (by simp only [List.map_cons, zcv, zirem, Int32.ofInt_toInt, Int64.ofInt_toInt]) ?_
  exact hK _ _ _ _ h hM (zrgs (zr32 _) (zrgt (zrgt hs))) hl I hI' hlen l D cA ad p e s m args below meth c H locs cls hinj hC hmK hP hS hL
theorem zs_i2b  (hA : zAt mi I pc (.i2b, n, xa, xb, xc, xe)) (hK : zKp d mi Q K) (h : zst d I Q pc ls st M (.i2b, n, xa, xb, xc, xe) K) : zBg d mi pc ls st M Q := by
  obtain ⟨hdg, hok, hn⟩ := hA.ok
  have hn : n = 1 := Nat.eq_of_beq_eq_true hn
  subst hn
  obtain ⟨x, r, rfl, h⟩ := z1_ex h
  intro hM hs hl I' hI' hlen l D cA ad p e s m args below meth c H locs cls hinj hC hmK hP hS hL
  have hII := Option.some.inj (hA.1.symm.trans hI')
  subst hII
  have hC0 := hC
  obtain ⟨hx, hb, hml, hown, hts, hnw, hr, hlk⟩ := hC0
  refine lv_i2b (v := Int32.ofInt (zi2b x)) hx hb hdg (by apply Int32.toInt_inj.mp; rw [Int8.toInt_toInt32, Int32.toInt_toInt8, z32 (zrgh hs), z32 (zi2b_r x)]; rfl) ?_
  exact hK _ _ _ _ h hM (zrgs (zi2b_r x) (zrgt hs)) hl I hI' hlen l D cA ad p e s m args below meth c H locs cls hinj hC hmK hP hS hL
theorem zs_i2s  (hA : zAt mi I pc (.i2s, n, xa, xb, xc, xe)) (hK : zKp d mi Q K) (h : zst d I Q pc ls st M (.i2s, n, xa, xb, xc, xe) K) : zBg d mi pc ls st M Q := by
  obtain ⟨hdg, hok, hn⟩ := hA.ok
  have hn : n = 1 := Nat.eq_of_beq_eq_true hn
  subst hn
  obtain ⟨x, r, rfl, h⟩ := z1_ex h
  intro hM hs hl I' hI' hlen l D cA ad p e s m args below meth c H locs cls hinj hC hmK hP hS hL
  have hII := Option.some.inj (hA.1.symm.trans hI')
  subst hII
  have hC0 := hC
  obtain ⟨hx, hb, hml, hown, hts, hnw, hr, hlk⟩ := hC0
  refine lv_i2s (v := Int32.ofInt (zi2s x)) hx hb hdg (by apply Int32.toInt_inj.mp; rw [Int16.toInt_toInt32, Int32.toInt_toInt16, z32 (zrgh hs), z32 (zi2s_r x)]; rfl) ?_
  exact hK _ _ _ _ h hM (zrgs (zi2s_r x) (zrgt hs)) hl I hI' hlen l D cA ad p e s m args below meth c H locs cls hinj hC hmK hP hS hL
theorem zs_i2l  (hA : zAt mi I pc (.i2l, n, xa, xb, xc, xe)) (hK : zKp d mi Q K) (h : zst d I Q pc ls st M (.i2l, n, xa, xb, xc, xe) K) : zBg d mi pc ls st M Q := by
  obtain ⟨hdg, hok, hn⟩ := hA.ok
  have hn : n = 1 := Nat.eq_of_beq_eq_true hn
  subst hn
  obtain ⟨x, r, rfl, h⟩ := z1_ex h
  intro hM hs hl I' hI' hlen l D cA ad p e s m args below meth c H locs cls hinj hC hmK hP hS hL
  have hII := Option.some.inj (hA.1.symm.trans hI')
  subst hII
  have hC0 := hC
  obtain ⟨hx, hb, hml, hown, hts, hnw, hr, hlk⟩ := hC0
  have hx32 : zR32 x := zrgh hs
  have hx64 : zR64 x := by omega
  refine lv_i2l (v := Int64.ofInt x) hx hb hdg (by apply Int64.toInt_inj.mp; rw [Int32.toInt_toInt64, z32 hx32, z64 hx64]) ?_
  exact hK _ _ _ _ h hM (zrgs hx64 (zrgt hs)) hl I hI' hlen l D cA ad p e s m args below meth c H locs cls hinj hC hmK hP hS hL
theorem zs_l2i  (hA : zAt mi I pc (.l2i, n, xa, xb, xc, xe)) (hK : zKp d mi Q K) (h : zst d I Q pc ls st M (.l2i, n, xa, xb, xc, xe) K) : zBg d mi pc ls st M Q := by
  obtain ⟨hdg, hok, hn⟩ := hA.ok
  have hn : n = 1 := Nat.eq_of_beq_eq_true hn
  subst hn
  obtain ⟨x, r, rfl, h⟩ := zl1_ex h
  intro hM hs hl I' hI' hlen l D cA ad p e s m args below meth c H locs cls hinj hC hmK hP hS hL
  have hII := Option.some.inj (hA.1.symm.trans hI')
  subst hII
  have hC0 := hC
  obtain ⟨hx, hb, hml, hown, hts, hnw, hr, hlk⟩ := hC0
  have hx32 : zR32 (zl2i x) := by unfold zl2i zR32; have := @Int.le_bmod x 4294967296 (by decide); have := @Int.bmod_lt x 4294967296 (by decide); omega
  refine lv_l2i (v := Int32.ofInt (zl2i x)) hx hb hdg (by apply Int32.toInt_inj.mp; rw [Int64.toInt_toInt32, z32 hx32, z64 (zrgh hs)]; rfl) ?_
  exact hK _ _ _ _ h hM (zrgs hx32 (zrgt hs)) hl I hI' hlen l D cA ad p e s m args below meth c H locs cls hinj hC hmK hP hS hL
theorem zs_ladd  (hA : zAt mi I pc (.ladd, n, xa, xb, xc, xe)) (hK : zKp d mi Q K) (h : zst d I Q pc ls st M (.ladd, n, xa, xb, xc, xe) K) : zBg d mi pc ls st M Q := by
  obtain ⟨hdg, hok, hn⟩ := hA.ok
  have hn : n = 1 := Nat.eq_of_beq_eq_true hn
  subst hn
  obtain ⟨x, y, r, rfl, h⟩ := zl2_ex h
  intro hM hs hl I' hI' hlen l D cA ad p e s m args below meth c H locs cls hinj hC hmK hP hS hL
  have hII := Option.some.inj (hA.1.symm.trans hI')
  subst hII
  have hC0 := hC
  obtain ⟨hx, hb, hml, hown, hts, hnw, hr, hlk⟩ := hC0
  refine lv_ladd hx hb hdg ?_
  refine W.eq (g2 := F0 m (pc + 1) cls ((.inr (.inl (zladd x y)) :: r).map (zcv ad))) (by simp only [List.map_cons, zcv, zladd, Int32.ofInt_toInt, Int64.ofInt_toInt]) ?_
  exact hK _ _ _ _ h hM (zrgs (zr64 _) (zrgt (zrgt hs))) hl I hI' hlen l D cA ad p e s m args below meth c H locs cls hinj hC hmK hP hS hL
theorem zs_lsub  (hA : zAt mi I pc (.lsub, n, xa, xb, xc, xe)) (hK : zKp d mi Q K) (h : zst d I Q pc ls st M (.lsub, n, xa, xb, xc, xe) K) : zBg d mi pc ls st M Q := by
  obtain ⟨hdg, hok, hn⟩ := hA.ok
  have hn : n = 1 := Nat.eq_of_beq_eq_true hn
  subst hn
  obtain ⟨x, y, r, rfl, h⟩ := zl2_ex h
  intro hM hs hl I' hI' hlen l D cA ad p e s m args below meth c H locs cls hinj hC hmK hP hS hL
  have hII := Option.some.inj (hA.1.symm.trans hI')
  subst hII
  have hC0 := hC
  obtain ⟨hx, hb, hml, hown, hts, hnw, hr, hlk⟩ := hC0
  refine lv_lsub hx hb hdg ?_
  refine W.eq (g2 := F0 m (pc + 1) cls ((.inr (.inl (zlsub x y)) :: r).map (zcv ad))) (by simp only [List.map_cons, zcv, zlsub, Int32.ofInt_toInt, Int64.ofInt_toInt]) ?_
  exact hK _ _ _ _ h hM (zrgs (zr64 _) (zrgt (zrgt hs))) hl I hI' hlen l D cA ad p e s m args below meth c H locs cls hinj hC hmK hP hS hL
theorem zs_lmul  (hA : zAt mi I pc (.lmul, n, xa, xb, xc, xe)) (hK : zKp d mi Q K) (h : zst d I Q pc ls st M (.lmul, n, xa, xb, xc, xe) K) : zBg d mi pc ls st M Q := by
  obtain ⟨hdg, hok, hn⟩ := hA.ok
  have hn : n = 1 := Nat.eq_of_beq_eq_true hn
  subst hn
  obtain ⟨x, y, r, rfl, h⟩ := zl2_ex h
  intro hM hs hl I' hI' hlen l D cA ad p e s m args below meth c H locs cls hinj hC hmK hP hS hL
  have hII := Option.some.inj (hA.1.symm.trans hI')
  subst hII
  have hC0 := hC
  obtain ⟨hx, hb, hml, hown, hts, hnw, hr, hlk⟩ := hC0
  refine lv_lmul hx hb hdg ?_
  refine W.eq (g2 := F0 m (pc + 1) cls ((.inr (.inl (zlmul x y)) :: r).map (zcv ad))) (by simp only [List.map_cons, zcv, zlmul, Int32.ofInt_toInt, Int64.ofInt_toInt]) ?_
  exact hK _ _ _ _ h hM (zrgs (zr64 _) (zrgt (zrgt hs))) hl I hI' hlen l D cA ad p e s m args below meth c H locs cls hinj hC hmK hP hS hL
theorem zs_land  (hA : zAt mi I pc (.land, n, xa, xb, xc, xe)) (hK : zKp d mi Q K) (h : zst d I Q pc ls st M (.land, n, xa, xb, xc, xe) K) : zBg d mi pc ls st M Q := by
  obtain ⟨hdg, hok, hn⟩ := hA.ok
  have hn : n = 1 := Nat.eq_of_beq_eq_true hn
  subst hn
  obtain ⟨x, y, r, rfl, h⟩ := zl2_ex h
  intro hM hs hl I' hI' hlen l D cA ad p e s m args below meth c H locs cls hinj hC hmK hP hS hL
  have hII := Option.some.inj (hA.1.symm.trans hI')
  subst hII
  have hC0 := hC
  obtain ⟨hx, hb, hml, hown, hts, hnw, hr, hlk⟩ := hC0
  refine lv_land hx hb hdg ?_
  refine W.eq (g2 := F0 m (pc + 1) cls ((.inr (.inl (zland x y)) :: r).map (zcv ad))) (by simp only [List.map_cons, zcv, zland, Int32.ofInt_toInt, Int64.ofInt_toInt]) ?_
  exact hK _ _ _ _ h hM (zrgs (zr64 _) (zrgt (zrgt hs))) hl I hI' hlen l D cA ad p e s m args below meth c H locs cls hinj hC hmK hP hS hL
theorem zs_lor  (hA : zAt mi I pc (.lor, n, xa, xb, xc, xe)) (hK : zKp d mi Q K) (h : zst d I Q pc ls st M (.lor, n, xa, xb, xc, xe) K) : zBg d mi pc ls st M Q := by
  obtain ⟨hdg, hok, hn⟩ := hA.ok
  have hn : n = 1 := Nat.eq_of_beq_eq_true hn
  subst hn
  obtain ⟨x, y, r, rfl, h⟩ := zl2_ex h
  intro hM hs hl I' hI' hlen l D cA ad p e s m args below meth c H locs cls hinj hC hmK hP hS hL
  have hII := Option.some.inj (hA.1.symm.trans hI')
  subst hII
  have hC0 := hC
  obtain ⟨hx, hb, hml, hown, hts, hnw, hr, hlk⟩ := hC0
  refine lv_lor hx hb hdg ?_
  refine W.eq (g2 := F0 m (pc + 1) cls ((.inr (.inl (zlor x y)) :: r).map (zcv ad))) (by simp only [List.map_cons, zcv, zlor, Int32.ofInt_toInt, Int64.ofInt_toInt]) ?_
  exact hK _ _ _ _ h hM (zrgs (zr64 _) (zrgt (zrgt hs))) hl I hI' hlen l D cA ad p e s m args below meth c H locs cls hinj hC hmK hP hS hL
theorem zs_lxor  (hA : zAt mi I pc (.lxor, n, xa, xb, xc, xe)) (hK : zKp d mi Q K) (h : zst d I Q pc ls st M (.lxor, n, xa, xb, xc, xe) K) : zBg d mi pc ls st M Q := by
  obtain ⟨hdg, hok, hn⟩ := hA.ok
  have hn : n = 1 := Nat.eq_of_beq_eq_true hn
  subst hn
  obtain ⟨x, y, r, rfl, h⟩ := zl2_ex h
  intro hM hs hl I' hI' hlen l D cA ad p e s m args below meth c H locs cls hinj hC hmK hP hS hL
  have hII := Option.some.inj (hA.1.symm.trans hI')
  subst hII
  have hC0 := hC
  obtain ⟨hx, hb, hml, hown, hts, hnw, hr, hlk⟩ := hC0
  refine lv_lxor hx hb hdg ?_
  refine W.eq (g2 := F0 m (pc + 1) cls ((.inr (.inl (zlxor x y)) :: r).map (zcv ad))) (by simp only [List.map_cons, zcv, zlxor, Int32.ofInt_toInt, Int64.ofInt_toInt]) ?_
  exact hK _ _ _ _ h hM (zrgs (zr64 _) (zrgt (zrgt hs))) hl I hI' hlen l D cA ad p e s m args below meth c H locs cls hinj hC hmK hP hS hL
theorem zs_lshl  (hA : zAt mi I pc (.lshl, n, xa, xb, xc, xe)) (hK : zKp d mi Q K) (h : zst d I Q pc ls st M (.lshl, n, xa, xb, xc, xe) K) : zBg d mi pc ls st M Q := by
  obtain ⟨hdg, hok, hn⟩ := hA.ok
  have hn : n = 1 := Nat.eq_of_beq_eq_true hn
  subst hn
  obtain ⟨x, y, r, rfl, h⟩ := zli_ex h
  intro hM hs hl I' hI' hlen l D cA ad p e s m args below meth c H locs cls hinj hC hmK hP hS hL
  have hII := Option.some.inj (hA.1.symm.trans hI')
  subst hII
  have hC0 := hC
  obtain ⟨hx, hb, hml, hown, hts, hnw, hr, hlk⟩ := hC0
  refine lv_lshl hx hb hdg rfl ?_
  refine W.eq (g2 := F0 m (pc + 1) cls ((.inr (.inl (zlshl x y)) :: r).map (zcv ad))) (by simp only [List.map_cons, zcv, zlshl, Int32.ofInt_toInt, Int64.ofInt_toInt]) ?_
  exact hK _ _ _ _ h hM (zrgs (zr64 _) (zrgt (zrgt hs))) hl I hI' hlen l D cA ad p e s m args below meth c H locs cls hinj hC hmK hP hS hL
theorem zs_lshr  (hA : zAt mi I pc (.lshr, n, xa, xb, xc, xe)) (hK : zKp d mi Q K) (h : zst d I Q pc ls st M (.lshr, n, xa, xb, xc, xe) K) : zBg d mi pc ls st M Q := by
  obtain ⟨hdg, hok, hn⟩ := hA.ok
  have hn : n = 1 := Nat.eq_of_beq_eq_true hn
  subst hn
  obtain ⟨x, y, r, rfl, h⟩ := zli_ex h
  intro hM hs hl I' hI' hlen l D cA ad p e s m args below meth c H locs cls hinj hC hmK hP hS hL
  have hII := Option.some.inj (hA.1.symm.trans hI')
  subst hII
  have hC0 := hC
  obtain ⟨hx, hb, hml, hown, hts, hnw, hr, hlk⟩ := hC0
  refine lv_lshr hx hb hdg rfl ?_
  refine W.eq (g2 := F0 m (pc + 1) cls ((.inr (.inl (zlshr x y)) :: r).map (zcv ad))) (by simp only [List.map_cons, zcv, zlshr, Int32.ofInt_toInt, Int64.ofInt_toInt]) ?_
  exact hK _ _ _ _ h hM (zrgs (zr64 _) (zrgt (zrgt hs))) hl I hI' hlen l D cA ad p e s m args below meth c H locs cls hinj hC hmK hP hS hL
theorem zs_lushr  (hA : zAt mi I pc (.lushr, n, xa, xb, xc, xe)) (hK : zKp d mi Q K) (h : zst d I Q pc ls st M (.lushr, n, xa, xb, xc, xe) K) : zBg d mi pc ls st M Q := by
  obtain ⟨hdg, hok, hn⟩ := hA.ok
  have hn : n = 1 := Nat.eq_of_beq_eq_true hn
  subst hn
  obtain ⟨x, y, r, rfl, h⟩ := zli_ex h
  intro hM hs hl I' hI' hlen l D cA ad p e s m args below meth c H locs cls hinj hC hmK hP hS hL
  have hII := Option.some.inj (hA.1.symm.trans hI')
  subst hII
  have hC0 := hC
  obtain ⟨hx, hb, hml, hown, hts, hnw, hr, hlk⟩ := hC0
  refine lv_lushr hx hb hdg rfl ?_
  refine W.eq (g2 := F0 m (pc + 1) cls ((.inr (.inl (zlushr x y)) :: r).map (zcv ad))) (by simp only [List.map_cons, zcv, zlushr, Int32.ofInt_toInt, Int64.ofInt_toInt]) ?_
  exact hK _ _ _ _ h hM (zrgs (zr64 _) (zrgt (zrgt hs))) hl I hI' hlen l D cA ad p e s m args below meth c H locs cls hinj hC hmK hP hS hL
theorem zs_lcmp  (hA : zAt mi I pc (.lcmp, n, xa, xb, xc, xe)) (hK : zKp d mi Q K) (h : zst d I Q pc ls st M (.lcmp, n, xa, xb, xc, xe) K) : zBg d mi pc ls st M Q := by
  obtain ⟨hdg, hok, hn⟩ := hA.ok
  have hn : n = 1 := Nat.eq_of_beq_eq_true hn
  subst hn
  obtain ⟨x, y, r, rfl, h⟩ := zl2_ex h
  intro hM hs hl I' hI' hlen l D cA ad p e s m args below meth c H locs cls hinj hC hmK hP hS hL
  have hII := Option.some.inj (hA.1.symm.trans hI')
  subst hII
  have hC0 := hC
  obtain ⟨hx, hb, hml, hown, hts, hnw, hr, hlk⟩ := hC0
  have hcmp : lg_cmp (Int64.ofInt x) (Int64.ofInt y) = Int32.ofInt (zlcmp x y) := by
    have h1 : Int64.ofInt x > Int64.ofInt y ↔ y < x := by show Int64.ofInt y < Int64.ofInt x ↔ _; rw [Int64.lt_iff_toInt_lt, z64 (zrgh hs), z64 (zrgh (zrgt hs))]
    have h2 : Int64.ofInt x = Int64.ofInt y ↔ x = y := ⟨fun q => by rw [← z64 (zrgh (zrgt hs)), ← z64 (zrgh hs), q], fun q => by rw [q]⟩
    unfold lg_cmp zlcmp
    simp only [h1, h2]
    split
    · rfl
    · split <;> rfl
  refine W.lcmp hx hb hdg ?_
  rw [hcmp]
  exact hK _ _ _ _ h hM (zrgs (zlcmp_r x y) (zrgt (zrgt hs))) hl I hI' hlen l D cA ad p e s m args below meth c H locs cls hinj hC hmK hP hS hL
theorem zs_dup (hA : zAt mi I pc (.dup, n, xa, xb, xc, xe)) (hK : zKp d mi Q K) (h : zst d I Q pc ls st M (.dup, n, xa, xb, xc, xe) K) : zBg d mi pc ls st M Q := by
  obtain ⟨hdg, hok, hn⟩ := hA.ok
  have hn : n = 1 := Nat.eq_of_beq_eq_true hn
  subst hn
  have h2 : ∃ v r, st = v :: r ∧ (∀ ad, (zcv ad v).category = 1) ∧ K (pc + 1) ls (v :: v :: r) M := by
    simp only [zst] at h
    split at h
    · exact ⟨_, _, rfl, fun _ => rfl, h⟩
    · exact ⟨_, _, rfl, fun _ => rfl, h⟩
    · exact h.elim
  obtain ⟨v, r, rfl, hc1, h⟩ := h2
  intro hM hs hl I' hI' hlen l D cA ad p e s m args below meth c H locs cls hinj hC hmK hP hS hL
  have hII := Option.some.inj (hA.1.symm.trans hI')
  subst hII
  have hC0 := hC
  obtain ⟨hx, hb, hml, hown, hts, hnw, hr, hlk⟩ := hC0
  refine lv_dup hx hb hdg (hc1 ad) ?_
  exact hK _ _ _ _ h hM (zrgs (zrgh hs) hs) hl I hI' hlen l D cA ad p e s m args below meth c H locs cls hinj hC hmK hP hS hL
theorem zs_dup2  (hA : zAt mi I pc (.dup2, n, xa, xb, xc, xe)) (hK : zKp d mi Q K) (h : zst d I Q pc ls st M (.dup2, n, xa, xb, xc, xe) K) : zBg d mi pc ls st M Q := by
  obtain ⟨hdg, hok, hn⟩ := hA.ok
  have hn : n = 1 := Nat.eq_of_beq_eq_true hn
  subst hn
  obtain ⟨k, i, r, rfl, h⟩ := zri_ex h
  intro hM hs hl I' hI' hlen l D cA ad p e s m args below meth c H locs cls hinj hC hmK hP hS hL
  have hII := Option.some.inj (hA.1.symm.trans hI')
  subst hII
  have hC0 := hC
  obtain ⟨hx, hb, hml, hown, hts, hnw, hr, hlk⟩ := hC0
  refine lv_dup2_11 (va := .int (Int32.ofInt i)) (vb := .ref (ad k)) (rest := r.map (zcv ad)) hx hb hdg rfl rfl ?_
  exact hK _ _ _ _ h hM (zrgs (zrgh hs) (zrgs (zrgh (zrgt hs)) hs)) hl I hI' hlen l D cA ad p e s m args below meth c H locs cls hinj hC hmK hP hS hL
theorem zs_ifCond {q : ClassFile.Cond} {off : Int} (hA : zAt mi I pc (.ifCond q off, n, xa, xb, xc, xe)) (hK : zKp d mi Q K) (h : zst d I Q pc ls st M (.ifCond q off, n, xa, xb, xc, xe) K) : zBg d mi pc ls st M Q := by
  obtain ⟨hdg, hok, hn⟩ := hA.ok
  have hn : n = 3 := Nat.eq_of_beq_eq_true hn
  subst hn
  have ht : (pc : Int) + off = (xb : Int) := of_decide_eq_true hok
  obtain ⟨x, r, rfl, h1, h2⟩ := z1_ex h
  intro hM hs hl I' hI' hlen l D cA ad p e s m args below meth c H locs cls hinj hC hmK hP hS hL
  have hII := Option.some.inj (hA.1.symm.trans hI')
  subst hII
  have hC0 := hC
  obtain ⟨hx, hb, hml, hown, hts, hnw, hr, hlk⟩ := hC0
  have hx32 : zR32 x := zrgh hs
  have e0 : (0 : Int32) = Int32.ofInt 0 := by decide
  have h00 : zR32 0 := by decide
  have hq0 : Int32.ofInt x = 0 ↔ x = 0 := by rw [e0]; exact zeq32 hx32 h00
  have hlt0 : Int32.ofInt x < 0 ↔ x < 0 := by rw [e0]; exact zlt32 hx32 h00
  have hgt0 : 0 < Int32.ofInt x ↔ 0 < x := by rw [e0]; exact zlt32 h00 hx32
  have hle0 : Int32.ofInt x ≤ 0 ↔ x ≤ 0 := by rw [e0]; exact zle32 hx32 h00
  have hge0 : 0 ≤ Int32.ofInt x ↔ 0 ≤ x := by rw [e0]; exact zle32 h00 hx32
  have kt : zch q x 0 → W p l e (zroom d) s m args below meth c H locs 0 0 (MQ below (zPost D cA ad Q) args s 0 0 (zA ad)) (F0 m xb cls (r.map (zcv ad))) := fun hh => by
    have h := h1 hh
    exact hK _ _ _ _ h hM (zrgt hs) hl I hI' hlen l D cA ad p e s m args below meth c H locs cls hinj hC hmK hP hS hL
  have kf : ¬ zch q x 0 → W p l e (zroom d) s m args below meth c H locs 0 0 (MQ below (zPost D cA ad Q) args s 0 0 (zA ad)) (F0 m (pc + 3) cls (r.map (zcv ad))) := fun hh => by
    have h := h2 hh
    exact hK _ _ _ _ h hM (zrgt hs) hl I hI' hlen l D cA ad p e s m args below meth c H locs cls hinj hC hmK hP hS hL
  cases q with
  | eq => exact lv_if_eq hx hb hdg ht (fun z => kt (hq0.mp z)) (fun z => kf (fun y => z (hq0.mpr y)))
  | ne => exact lv_if_ne hx hb hdg ht (fun z => kt (fun y => z (hq0.mpr y))) (fun z => kf (fun y => y (hq0.mp z)))
  | lt => exact lv_if_lt hx hb hdg ht (fun z => kt (hlt0.mp z)) (fun z => kf (fun y => z (hlt0.mpr y)))
  | ge => exact lv_if_ge hx hb hdg ht (fun z => kt (hge0.mp z)) (fun z => kf (fun y => z (hge0.mpr y)))
  | gt => exact lv_if_gt hx hb hdg ht (fun z => kt (hgt0.mp z)) (fun z => kf (fun y => z (hgt0.mpr y)))
  | le => exact lv_if_le hx hb hdg ht (fun z => kt (hle0.mp z)) (fun z => kf (fun y => z (hle0.mpr y)))
theorem zs_if_icmp {q : ClassFile.Cond} {off : Int} (hA : zAt mi I pc (.if_icmp q off, n, xa, xb, xc, xe)) (hK : zKp d mi Q K) (h : zst d I Q pc ls st M (.if_icmp q off, n, xa, xb, xc, xe) K) : zBg d mi pc ls st M Q := by
  obtain ⟨hdg, hok, hn⟩ := hA.ok
  have hn : n = 3 := Nat.eq_of_beq_eq_true hn
  subst hn
  have ht : (pc : Int) + off = (xb : Int) := of_decide_eq_true hok
  obtain ⟨x, y, r, rfl, h1, h2⟩ := z2_ex h
  intro hM hs hl I' hI' hlen l D cA ad p e s m args below meth c H locs cls hinj hC hmK hP hS hL
  have hII := Option.some.inj (hA.1.symm.trans hI')
  subst hII
  have hC0 := hC
  obtain ⟨hx, hb, hml, hown, hts, hnw, hr, hlk⟩ := hC0
  have hx32 : zR32 x := zrgh (zrgt hs)
  have hy32 : zR32 y := zrgh hs
  have hq0 : Int32.ofInt x = Int32.ofInt y ↔ x = y := zeq32 hx32 hy32
  have hlt0 : Int32.ofInt x < Int32.ofInt y ↔ x < y := zlt32 hx32 hy32
  have hgt0 : Int32.ofInt y < Int32.ofInt x ↔ y < x := zlt32 hy32 hx32
  have hle0 : Int32.ofInt x ≤ Int32.ofInt y ↔ x ≤ y := zle32 hx32 hy32
  have hge0 : Int32.ofInt y ≤ Int32.ofInt x ↔ y ≤ x := zle32 hy32 hx32
  have kt : zch q x y → W p l e (zroom d) s m args below meth c H locs 0 0 (MQ below (zPost D cA ad Q) args s 0 0 (zA ad)) (F0 m xb cls (r.map (zcv ad))) := fun hh => by
    have h := h1 hh
    exact hK _ _ _ _ h hM (zrgt (zrgt hs)) hl I hI' hlen l D cA ad p e s m args below meth c H locs cls hinj hC hmK hP hS hL
  have kf : ¬ zch q x y → W p l e (zroom d) s m args below meth c H locs 0 0 (MQ below (zPost D cA ad Q) args s 0 0 (zA ad)) (F0 m (pc + 3) cls (r.map (zcv ad))) := fun hh => by
    have h := h2 hh
    exact hK _ _ _ _ h hM (zrgt (zrgt hs)) hl I hI' hlen l D cA ad p e s m args below meth c H locs cls hinj hC hmK hP hS hL
  cases q with
  | eq => exact lv_icmp_eq hx hb hdg ht (fun z => kt (hq0.mp z)) (fun z => kf (fun y => z (hq0.mpr y)))
  | ne => exact lv_icmp_ne hx hb hdg ht (fun z => kt (fun y => z (hq0.mpr y))) (fun z => kf (fun y => y (hq0.mp z)))
  | lt => exact lv_icmp_lt hx hb hdg ht (fun z => kt (hlt0.mp z)) (fun z => kf (fun y => z (hlt0.mpr y)))
  | ge => exact lv_icmp_ge hx hb hdg ht (fun z => kt (hge0.mp z)) (fun z => kf (fun y => z (hge0.mpr y)))
  | gt => exact lv_icmp_gt hx hb hdg ht (fun z => kt (hgt0.mp z)) (fun z => kf (fun y => z (hgt0.mpr y)))
  | le => exact lv_icmp_le hx hb hdg ht (fun z => kt (hle0.mp z)) (fun z => kf (fun y => z (hle0.mpr y)))
theorem zs_goto {off : Int} (hA : zAt mi I pc (.goto off, n, xa, xb, xc, xe)) (hK : zKp d mi Q K) (h : zst d I Q pc ls st M (.goto off, n, xa, xb, xc, xe) K) : zBg d mi pc ls st M Q := by
  obtain ⟨hdg, hok, hn⟩ := hA.ok
  have hn : n = 3 := Nat.eq_of_beq_eq_true hn
  subst hn
  have ht : (pc : Int) + off = (xb : Int) := of_decide_eq_true hok
  intro hM hs hl I' hI' hlen l D cA ad p e s m args below meth c H locs cls hinj hC hmK hP hS hL
  have hII := Option.some.inj (hA.1.symm.trans hI')
  subst hII
  have hC0 := hC
  obtain ⟨hx, hb, hml, hown, hts, hnw, hr, hlk⟩ := hC0
  refine lv_goto hx hb hdg ht ?_
  exact hK _ _ _ _ h hM hs hl I hI' hlen l D cA ad p e s m args below meth c H locs cls hinj hC hmK hP hS hL
end zRows
end
section
theorem zrgM_up {M : zMem} {k i : Nat} {v : Int} (h : zrgM M) (hv : zrgc k v) : zrgM (zup M k i v) := by
  intro k' i'
  unfold zup
  split
  · rename_i hk
    subst hk
    split
    · exact hv
    · exact h _ _
  · exact h _ _
theorem zup_ne {M : zMem} {k i : Nat} {v : Int} : ∀ k', k' ≠ k → ∀ j, zup M k i v k' j = M k' j := fun k' hk j => by simp [zup, hk]
theorem zrg_of0 {k n : Nat} {x : Int} (h : zSHL[k]? = some (.inl (0, n))) : zrgc k x ↔ zR32 x := by unfold zrgc; rw [h]; exact Iff.rfl
theorem zrg_of1 {k n : Nat} {x : Int} (h : zSHL[k]? = some (.inl (1, n))) : zrgc k x ↔ (-128 ≤ x ∧ x < 128) := by unfold zrgc; rw [h]; exact Iff.rfl
theorem zrg_of2 {k n : Nat} {x : Int} (h : zSHL[k]? = some (.inl (2, n))) : zrgc k x ↔ zR64 x := by unfold zrgc; rw [h]; exact Iff.rfl
theorem zrg_ofo {k c : Nat} {fs : List (Option Nat)} {x : Int} (h : zSHL[k]? = some (.inr (c, fs))) : zrgc k x ↔ zR32 x := by unfold zrgc; rw [h]
theorem zi2b_b (x : Int) : -128 ≤ zi2b x ∧ zi2b x < 128 := by unfold zi2b; have := @Int.le_bmod x 256 (by decide); have := @Int.bmod_lt x 256 (by decide); omega
set_option maxRecDepth 100000 in
theorem zClO (ci : Nat) (h : ci < 11) : ∃ (C : String) (T : u_T) (N : Nat) (ty : Nat → FieldType), vwCl[ci]? = some (C, T, N) ∧ (∀ w ∈ u_ws C T N, w ∈ zGW) ∧ (∀ k, k < N → parseFieldDescriptor (T k).2.2.1 = some (ty k)) ∧ (∀ a, a < N → ∀ b, b < N → a ≠ b → (T a).2.1 ≠ (T b).2.1) := by
  have key : ∀ (C : String) (T : u_T) (N : Nat), (u_ws C T N).all (fun w => decide (w ∈ lw_tbl) && goodWord w) = true → ∀ w ∈ u_ws C T N, w ∈ zGW := by
    intro C T N h w hw
    have h1 := List.all_eq_true.mp h w hw
    simp only [Bool.and_eq_true, decide_eq_true_eq] at h1
    exact List.mem_filter.mpr ⟨h1.1, h1.2⟩
  rcases (show ci = 0 ∨ ci = 1 ∨ ci = 2 ∨ ci = 3 ∨ ci = 4 ∨ ci = 5 ∨ ci = 6 ∨ ci = 7 ∨ ci = 8 ∨ ci = 9 ∨ ci = 10 by omega) with rfl | rfl | rfl | rfl | rfl | rfl | rfl | rfl | rfl | rfl | rfl
  · exact ⟨RX0, TX0, 1, tyX0, rfl, key _ _ _ (by decide +kernel), tyX0_ok, nmX0⟩
  · exact ⟨RX1, TX1, 4, tyX1, rfl, key _ _ _ (by decide +kernel), tyX1_ok, nmX1⟩
  · exact ⟨RX2, TX2, 14, tyX2, rfl, key _ _ _ (by decide +kernel), tyX2_ok, nmX2⟩
  · exact ⟨RX3, TX3, 8, tyX3, rfl, key _ _ _ (by decide +kernel), tyX3_ok, nmX3⟩
  · exact ⟨RX4, TX4, 7, tyX4, rfl, key _ _ _ (by decide +kernel), tyX4_ok, nmX4⟩
  · exact ⟨RX5, TX5, 1, tyX5, rfl, key _ _ _ (by decide +kernel), tyX5_ok, nmX5⟩
  · exact ⟨RX6, TX6, 3, tyX6, rfl, key _ _ _ (by decide +kernel), tyX6_ok, nmX6⟩
  · exact ⟨RX7, TX7, 13, tyX7, rfl, key _ _ _ (by decide +kernel), tyX7_ok, nmX7⟩
  · exact ⟨RX8, TX8, 2, tyX8, rfl, key _ _ _ (by decide +kernel), tyX8_ok, nmX8⟩
  · exact ⟨RX9, TX9, 11, tyX9, rfl, key _ _ _ (by decide +kernel), tyX9_ok, nmX9⟩
  · exact ⟨RX10, TX10, 36, tyX10, rfl, key _ _ _ (by decide +kernel), tyX10_ok, nmX10⟩
theorem zft {f : Nat × Nat × Nat × Nat × Bool × Nat × Nat} {pl : Nat} (h : zFT[pl]? = some f) : zlkF f = true := List.all_eq_true.mp zFT_ok f (List.mem_of_getElem? h)
theorem zct {f : Nat × Nat × Nat × Bool × Nat} {pl : Nat} (h : zCT[pl]? = some f) : zlkC f = true := List.all_eq_true.mp zCT_ok f (List.mem_of_getElem? h)
abbrev zfv (ad : Nat → Nat) (M : zMem) (k : Nat) (j : Nat) (o : Option Nat) : Value := match o with
    | none => Value.int (Int32.ofInt (M k j))
    | some q => .ref (ad q)
theorem zcell_o {cA : Nat → ClassId} {ad : Nat → Nat} {M : zMem} {k ci : Nat} {fs : List (Option Nat)} : zcell cA ad M k (.inr (ci, fs)) = .inr (ci, fs.mapIdx (zfv ad M k)) := rfl
theorem zfs_get {ad : Nat → Nat} {M : zMem} {k j : Nat} {fs : List (Option Nat)} {o : Option Nat} (h : fs[j]? = some o) : (fs.mapIdx (zfv ad M k))[j]? = some (zfv ad M k j o) := by simp [List.getElem?_mapIdx, h]
theorem zfs_set {ad : Nat → Nat} {M : zMem} {o xc : Nat} {v : Int} {fs : List (Option Nat)} (hfj : fs[xc]? = some none) : (fs.mapIdx (zfv ad M o)).set xc (.int (Int32.ofInt v)) = fs.mapIdx (zfv ad (zup M o xc v) o) := by
  apply List.ext_getElem?
  intro j
  rw [List.getElem?_set, List.getElem?_mapIdx, List.getElem?_mapIdx]
  by_cases hje : xc = j
  · subst hje
    have hjl : xc < (fs.mapIdx (zfv ad M o)).length := by rw [List.length_mapIdx]; exact (List.getElem?_eq_some_iff.mp hfj).1
    rw [if_pos rfl, if_pos hjl, hfj]
    simp [zfv, zup]
  · rw [if_neg hje]
    cases fs[j]? with
    | none => rfl
    | some w =>
      have hje2 : ¬ j = xc := fun q => hje q.symm
      cases w <;> simp [zfv, zup, hje2]
theorem zRN_own {mi : Nat} {I : zMI} (h : zMT[mi]? = some I) : zRN[I.2.2.2.2.2.1]? = some I.1.cls := by
  have h1 := List.all_eq_true.mp zMT_ok I (List.mem_of_getElem? h)
  simp only [zokM, Bool.and_eq_true, decide_eq_true_eq] at h1
  exact h1.1.1.1.1.2
/-- the link of a field: of the class itself, or of a nest mate -/
theorem zlink {mi : Nat} {I : zMI} {pl ix ci j : Nat} (hI : zMT[mi]? = some I) (h : (zFT[pl]?).map (fun f => (f.1, f.2.1, f.2.2.1, f.2.2.2.1)) = some (I.2.2.2.2.2.1, ix, ci, j)) :
    ∃ (C : String) (T : u_T) (N : Nat), vwCl[ci]? = some (C, T, N) ∧ j < N ∧ (T j).1 = C ∧ ((Cond.fieldLink I.1.cls ix C (T j).2.1 (T j).2.2.1) ∈ zGW ∨ (Cond.fieldLinkNest I.1.cls ix C (T j).2.1 (T j).2.2.1 "CommaCopies") ∈ lw_tbl) := by
  cases hf : zFT[pl]? with
  | none => rw [hf] at h; cases h
  | some f =>
    rw [hf] at h
    have h2 : (f.1, f.2.1, f.2.2.1, f.2.2.2.1) = (I.2.2.2.2.2.1, ix, ci, j) := Option.some.inj h
    obtain ⟨f1, f2, f3, f4, f5, f6, f7⟩ := f
    simp only [Prod.mk.injEq] at h2
    obtain ⟨rfl, rfl, rfl, rfl⟩ := h2
    have h1 := zft hf
    unfold zlkF at h1
    have hown := zRN_own hI
    simp only at h1
    rw [hown] at h1
    split at h1
    · rename_i C T N own hc ho
      cases ho
      simp only [Bool.and_eq_true, decide_eq_true_eq] at h1
      refine ⟨C, T, N, hc, h1.1.1.1, h1.1.1.2, ?_⟩
      cases f5 with
      | true =>
        have h3 := h1.1.2
        simp only [cond_true, decide_eq_true_eq] at h3
        exact Or.inr (List.mem_of_getElem? h3)
      | false =>
        have h3 := h1.1.2
        simp only [cond_false, decide_eq_true_eq] at h3
        exact Or.inl (zGW_in h3 rfl)
    · cases h1
theorem zlinkP {mi : Nat} {I : zMI} {pl ix ci j : Nat} {kd : Int} (hI : zMT[mi]? = some I) (h : (zFT[pl]?).map (fun f => (f.1, f.2.1, f.2.2.1, f.2.2.2.1, (f.2.2.2.2.2.2 : Int))) = some (I.2.2.2.2.2.1, ix, ci, j, kd)) (hk : kd ≠ 0) {C : String} {T : u_T} {N : Nat} (hcl : vwCl[ci]? = some (C, T, N)) :
    (T j).2.2.2 = false ∧ ((kd = 1 ∧ (T j).2.2.1 = "I") ∨ (kd ≠ 1 ∧ (T j).2.2.1 = "Z")) := by
  cases hf : zFT[pl]? with
  | none => rw [hf] at h; cases h
  | some f =>
    rw [hf] at h
    have h2 := Option.some.inj h
    obtain ⟨f1, f2, f3, f4, f5, f6, f7⟩ := f
    simp only [Prod.mk.injEq] at h2
    obtain ⟨rfl, rfl, rfl, rfl, rfl⟩ := h2
    have h1 := zft hf
    unfold zlkF at h1
    have hown := zRN_own hI
    simp only at h1
    rw [hown, hcl] at h1
    simp only [Bool.and_eq_true, decide_eq_true_eq] at h1
    have h3 := h1.2
    split at h3
    · rename_i h9; exact absurd (by simp) hk
    · simp only [Bool.and_eq_true, decide_eq_true_eq] at h3
      exact ⟨h3.1, Or.inl ⟨by simp, h3.2⟩⟩
    · rename_i h8 h9
      simp only [Bool.and_eq_true, decide_eq_true_eq] at h3
      exact ⟨h3.1, Or.inr ⟨fun q => h9 (by omega), h3.2⟩⟩
def zSHLb : zSh → Bool
  | .inl (t, n) => Nat.blt t 3 && Nat.blt n 2147483648
  | _ => true
theorem zSHLb_ok : zSHL.all zSHLb = true := by decide +kernel
theorem zSHL_b {k t N : Nat} (h : zSHL[k]? = some (.inl (t, N))) : t < 3 ∧ N < 2147483648 := by
  have h1 := List.all_eq_true.mp zSHLb_ok _ (List.mem_of_getElem? h)
  simp only [zSHLb, Bool.and_eq_true] at h1
  exact ⟨Nat.le_of_ble_eq_true h1.1, Nat.le_of_ble_eq_true h1.2⟩
section zRows2
variable {d mi pc : Nat} {I : zMI} {ls : List (Option zV)} {st : List zV} {M : zMem} {Q : Option zV → zMem → Prop} {K : Nat → List (Option zV) → List zV → zMem → Prop} {n : Nat} {xa : Int} {xb xc xe : Nat}
theorem zs_getfield {k : Nat} (hA : zAt mi I pc (.getfield k, n, xa, xb, xc, xe)) (hK : zKp d mi Q K) (h : zst d I Q pc ls st M (.getfield k, n, xa, xb, xc, xe) K) : zBg d mi pc ls st M Q := by
  obtain ⟨hdg, hok, hn⟩ := hA.ok
  have hn : n = 3 := Nat.eq_of_beq_eq_true hn
  subst hn
  obtain ⟨o, r, rfl, h⟩ := zr1_ex h
  obtain ⟨fs, hsh, h⟩ := zob_ex h
  have hlk0 := zlink hA.1 (of_decide_eq_true hok)
  intro hM hs hl I' hI' hlen l D cA ad p e s m args below meth c H locs cls hinj hC hmK hP hS hL
  have hII := Option.some.inj (hA.1.symm.trans hI')
  subst hII
  have hC0 := hC
  obtain ⟨hx, hb, hml, hown, hts, hnw, hr, hlk⟩ := hC0
  obtain ⟨C, T, N, hcl, hj, hCT, hlink⟩ := hlk0
  have hb11 : xb < 11 := (List.getElem?_eq_some_iff.mp hcl).1
  obtain ⟨C2, T2, N2, ty, hcl2, hin, hty, hnm⟩ := zClO xb hb11
  cases hcl.symm.trans hcl2
  have hw0 := zwd_get (cA := cA) (ad := ad) (M := M) hsh
  have hv : ∃ v : zV, zrg v ∧ (fs.mapIdx (zfv ad M o))[xc]? = some (zcv ad v) ∧ K (pc + 3) ls (v :: r) M := by
    cases hfj : fs[xc]? with
    | none => rw [hfj] at h; exact h.elim
    | some w =>
      rw [hfj] at h
      cases w with
      | none => exact ⟨.inl (M o xc), (zrg_ofo hsh).mp (hM o xc), zfs_get hfj, h⟩
      | some q => exact ⟨.inr (.inr q), trivial, zfs_get hfj, h⟩
  obtain ⟨v, hvr, hvg, h⟩ := hv
  rcases hlink with hw | hw
  · refine va_get (D := D) hx hb hts hin hown hmK hP o hw0 hcl xc hj (hts _ hw) (fun _ q => by rw [hCT] at q; exact q) hvg hdg ?_
    exact hK _ _ _ _ h hM (zrgs hvr (zrgt hs)) hl I hI' hlen l D cA ad p e s m args below meth c H locs cls hinj hC hmK hP hS hL
  · refine va_getN (D := D) hx hb hts hin hown hmK hP o hw0 hcl xc hj (va_Nw.use rfl (hnw _ hw rfl)) (fun _ q => by rw [hCT] at q; exact q) hvg hdg ?_
    exact hK _ _ _ _ h hM (zrgs hvr (zrgt hs)) hl I hI' hlen l D cA ad p e s m args below meth c H locs cls hinj hC hmK hP hS hL
theorem zs_putfield {k : Nat} (hA : zAt mi I pc (.putfield k, n, xa, xb, xc, xe)) (hK : zKp d mi Q K) (h : zst d I Q pc ls st M (.putfield k, n, xa, xb, xc, xe) K) : zBg d mi pc ls st M Q := by
  obtain ⟨hdg, hok, hn⟩ := hA.ok
  have hn : n = 3 := Nat.eq_of_beq_eq_true hn
  subst hn
  have h2 : ∃ (v : Int) (o : Nat) (r : List zV), st = .inl v :: .inr (.inr o) :: r ∧ zob o xb fun fs => fs[xc]? = some none ∧ (xa = 1 ∨ v = 0 ∨ v = 1) ∧ K (pc + 3) ls r (zup M o xc v) := by
    simp only [zst] at h
    split at h
    · rename_i v o r
      refine ⟨_, _, _, rfl, ?_⟩
      unfold zob at h ⊢
      split at h
      · rename_i c1 fs hk
        cases hb : Nat.beq c1 xb with
        | false => rw [hb] at h; exact (show False from h).elim
        | true =>
          rw [hb] at h
          simp only [cond_true] at h ⊢
          split at h
          · rename_i hfs
            refine ⟨hfs, ?_⟩
            cases hb2 : Nat.beq xa.toNat 1 with
            | true =>
              rw [hb2] at h
              have h5 := Nat.eq_of_beq_eq_true hb2
              exact ⟨Or.inl (by omega), h⟩
            | false =>
              rw [hb2] at h
              exact ⟨Or.inr (show _ ∧ _ from h).1, (show _ ∧ _ from h).2⟩
          · exact h.elim
      · exact h.elim
    · exact h.elim
  obtain ⟨v, o, r, rfl, h6⟩ := h2
  obtain ⟨fs, hsh, hfj, hkd, h⟩ := zob_ex h6
  have hok3 := Bool.and_eq_true_iff.mp hok
  have hok4 := of_decide_eq_true hok3.1
  have hok5 : xa ≠ 0 := of_decide_eq_true hok3.2
  have hlk0 := zlink hA.1 (pl := xe) (ix := k) (ci := xb) (j := xc) (by cases hf : zFT[xe]? with
    | none => rw [show zFT[(Instr.putfield k, 3, xa, xb, xc, xe).2.2.2.2.2]? = none from hf] at hok4; cases hok4
    | some f => rw [show zFT[(Instr.putfield k, 3, xa, xb, xc, xe).2.2.2.2.2]? = some f from hf] at hok4; have h9 := Option.some.inj hok4; simp only [Prod.mk.injEq] at h9; simp only [Option.map_some, Option.some.injEq, Prod.mk.injEq]; exact ⟨h9.1, h9.2.1, h9.2.2.1, h9.2.2.2.1⟩)
  intro hM hs hl I' hI' hlen l D cA ad p e s m args below meth c H locs cls hinj hC hmK hP hS hL
  have hII := Option.some.inj (hA.1.symm.trans hI')
  subst hII
  have hC0 := hC
  obtain ⟨hx, hb, hml, hown, hts, hnw, hr, hlk⟩ := hC0
  obtain ⟨C, T, N, hcl, hj, hCT, hlink⟩ := hlk0
  have hb11 : xb < 11 := (List.getElem?_eq_some_iff.mp hcl).1
  obtain ⟨C2, T2, N2, ty, hcl2, hin, hty, hnm⟩ := zClO xb hb11
  cases hcl.symm.trans hcl2
  have hw0 := zwd_get (cA := cA) (ad := ad) (M := M) hsh
  obtain ⟨hfin, hdesc⟩ := zlinkP hA.1 hok4 hok5 hcl
  have hv32 : zR32 v := zrgh hs
  have hjl : xc < (fs.mapIdx (zfv ad M o)).length := by rw [List.length_mapIdx]; exact (List.getElem?_eq_some_iff.mp hfj).1
  have hset : (zwd cA ad M).set o (ad o, .inr (xb, (fs.mapIdx (zfv ad M o)).set xc (.int (Int32.ofInt v)))) = zwd cA ad (zup M o xc v) := zwd_set hsh (by rw [zcell_o, zfs_set hfj]) zup_ne
  have hty2 : ∃ ty2, parseFieldDescriptor (T xc).2.2.1 = some ty2 ∧ narrow ty2 (.int (Int32.ofInt v)) = .int (Int32.ofInt v) ∧ fits ty2 (.int (Int32.ofInt v)) = true := by
    rcases hdesc with ⟨h1, h2⟩ | ⟨h1, h2⟩
    · exact ⟨.int, by rw [h2]; decide +kernel, rfl, rfl⟩
    · refine ⟨.boolean, by rw [h2]; decide +kernel, ?_⟩
      rcases hkd with h3 | rfl | rfl
      · exact absurd h3 h1
      · exact ⟨by decide, by decide⟩
      · exact ⟨by decide, by decide⟩
  obtain ⟨ty2, hd2, hn2, hf2⟩ := hty2
  rcases hlink with hw | hw
  · refine va_put (D := D) hx hb hts hin ty hty hnm hown hmK hP (zwd_D M hinj) hS o hw0 hcl xc hj (hts _ hw) (fun _ q => by rw [hCT] at q; exact q) hfin hd2 hn2 hf2 hjl hdg (fun H locs hP _ hS => ?_)
    have hP : va_P D vwCl ((zwd cA ad M).set o (ad o, .inr (xb, (fs.mapIdx (zfv ad M o)).set xc (.int (Int32.ofInt v))))) H := hP
    rw [hset] at hP
    exact hK _ _ _ _ h (zrgM_up hM ((zrg_ofo hsh).mpr hv32)) (zrgt (zrgt hs)) hl I hI' hlen l D cA ad p e s m args below meth c H locs cls hinj hC hmK hP hS hL
  · refine va_putN (D := D) hx hb hts hin ty hty hnm hown hmK hP (zwd_D M hinj) hS o hw0 hcl xc hj (va_Nw.use rfl (hnw _ hw rfl)) (fun _ q => by rw [hCT] at q; exact q) hfin hd2 hn2 hf2 hjl hdg (fun H locs hP _ hS => ?_)
    have hP : va_P D vwCl ((zwd cA ad M).set o (ad o, .inr (xb, (fs.mapIdx (zfv ad M o)).set xc (.int (Int32.ofInt v))))) H := hP
    rw [hset] at hP
    exact hK _ _ _ _ h (zrgM_up hM ((zrg_ofo hsh).mpr hv32)) (zrgt (zrgt hs)) hl I hI' hlen l D cA ad p e s m args below meth c H locs cls hinj hC hmK hP hS hL
theorem zs_iaload  (hA : zAt mi I pc (.iaload, n, xa, xb, xc, xe)) (hK : zKp d mi Q K) (h : zst d I Q pc ls st M (.iaload, n, xa, xb, xc, xe) K) : zBg d mi pc ls st M Q := by
  obtain ⟨hdg, hok, hn⟩ := hA.ok
  have hn : n = 1 := Nat.eq_of_beq_eq_true hn
  subst hn
  obtain ⟨k, i, r, rfl, h⟩ := zri_ex h
  obtain ⟨N, hsh, h1, h2, h⟩ := zar_ex h
  intro hM hs hl I' hI' hlen l D cA ad p e s m args below meth c H locs cls hinj hC hmK hP hS hL
  have hII := Option.some.inj (hA.1.symm.trans hI')
  subst hII
  have hC0 := hC
  obtain ⟨hx, hb, hml, hown, hts, hnw, hr, hlk⟩ := hC0
  have hi32 : zR32 i := zrgh hs
  have hw0 := zwd_get (cA := cA) (ad := ad) (M := M) hsh
  refine va_iald (f := fun i => Int32.ofInt (M k i)) hx hb hmK hP k 0 hw0 rfl (zin32 hi32 h1 h2) hdg ?_
  rw [zcl32 hi32]
  exact hK _ _ _ _ h hM (zrgs ((zrg_of0 hsh).mp (hM k _)) (zrgt (zrgt hs))) hl I hI' hlen l D cA ad p e s m args below meth c H locs cls hinj hC hmK hP hS hL
theorem zs_baload  (hA : zAt mi I pc (.baload, n, xa, xb, xc, xe)) (hK : zKp d mi Q K) (h : zst d I Q pc ls st M (.baload, n, xa, xb, xc, xe) K) : zBg d mi pc ls st M Q := by
  obtain ⟨hdg, hok, hn⟩ := hA.ok
  have hn : n = 1 := Nat.eq_of_beq_eq_true hn
  subst hn
  obtain ⟨k, i, r, rfl, h⟩ := zri_ex h
  obtain ⟨N, hsh, h1, h2, h⟩ := zar_ex h
  intro hM hs hl I' hI' hlen l D cA ad p e s m args below meth c H locs cls hinj hC hmK hP hS hL
  have hII := Option.some.inj (hA.1.symm.trans hI')
  subst hII
  have hC0 := hC
  obtain ⟨hx, hb, hml, hown, hts, hnw, hr, hlk⟩ := hC0
  have hi32 : zR32 i := zrgh hs
  have hw0 := zwd_get (cA := cA) (ad := ad) (M := M) hsh
  refine va_bald (f := fun i => Int32.ofInt (M k i)) hx hb hmK hP k 1 hw0 rfl (zin32 hi32 h1 h2) hdg ?_
  rw [zcl32 hi32]
  exact hK _ _ _ _ h hM (zrgs (show zR32 (M k i.toNat) by have := (zrg_of1 hsh).mp (hM k i.toNat); omega) (zrgt (zrgt hs))) hl I hI' hlen l D cA ad p e s m args below meth c H locs cls hinj hC hmK hP hS hL
theorem zs_laload  (hA : zAt mi I pc (.laload, n, xa, xb, xc, xe)) (hK : zKp d mi Q K) (h : zst d I Q pc ls st M (.laload, n, xa, xb, xc, xe) K) : zBg d mi pc ls st M Q := by
  obtain ⟨hdg, hok, hn⟩ := hA.ok
  have hn : n = 1 := Nat.eq_of_beq_eq_true hn
  subst hn
  obtain ⟨k, i, r, rfl, h⟩ := zri_ex h
  obtain ⟨N, hsh, h1, h2, h⟩ := zar_ex h
  intro hM hs hl I' hI' hlen l D cA ad p e s m args below meth c H locs cls hinj hC hmK hP hS hL
  have hII := Option.some.inj (hA.1.symm.trans hI')
  subst hII
  have hC0 := hC
  obtain ⟨hx, hb, hml, hown, hts, hnw, hr, hlk⟩ := hC0
  have hi32 : zR32 i := zrgh hs
  have hw0 := zwd_get (cA := cA) (ad := ad) (M := M) hsh
  refine va_lald (f := fun i => Int64.ofInt (M k i)) hx hb hmK hP k 2 hw0 rfl (zin32 hi32 h1 h2) hdg ?_
  rw [zcl32 hi32]
  exact hK _ _ _ _ h hM (zrgs ((zrg_of2 hsh).mp (hM k _)) (zrgt (zrgt hs))) hl I hI' hlen l D cA ad p e s m args below meth c H locs cls hinj hC hmK hP hS hL
theorem zup_upd {M : zMem} {k i : Nat} {v : Int} {f : Nat → Int32} {x : Int32} (hf : f = fun i => Int32.ofInt (M k i)) (hx : x = Int32.ofInt v) : upd f i x = fun j => Int32.ofInt (zup M k i v k j) := by
  subst hf; subst hx
  funext j
  unfold upd zup
  by_cases h : j = i
  · subst h; simp
  · simp [h]
theorem zs_iastore  (hA : zAt mi I pc (.iastore, n, xa, xb, xc, xe)) (hK : zKp d mi Q K) (h : zst d I Q pc ls st M (.iastore, n, xa, xb, xc, xe) K) : zBg d mi pc ls st M Q := by
  obtain ⟨hdg, hok, hn⟩ := hA.ok
  have hn : n = 1 := Nat.eq_of_beq_eq_true hn
  subst hn
  obtain ⟨k, i, v, r, rfl, h⟩ := zrii_ex h
  obtain ⟨N, hsh, h1, h2, h⟩ := zar_ex h
  intro hM hs hl I' hI' hlen l D cA ad p e s m args below meth c H locs cls hinj hC hmK hP hS hL
  have hII := Option.some.inj (hA.1.symm.trans hI')
  subst hII
  have hC0 := hC
  obtain ⟨hx, hb, hml, hown, hts, hnw, hr, hlk⟩ := hC0
  have hv32 : zR32 v := zrgh hs
  have hi32 : zR32 i := zrgh (zrgt hs)
  have hw0 := zwd_get (cA := cA) (ad := ad) (M := M) hsh
  refine va_iast (f := fun i => Int32.ofInt (M k i)) hx hb hmK hP (zwd_D M hinj) hS k 0 hw0 rfl (zin32 hi32 h1 h2) hdg (fun H locs hP _ hS => ?_)
  have hset : (zwd cA ad M).set k (ad k, .inl (cA 0, N, .inl (fun j => Int32.ofInt (zup M k i.toNat v k j)))) = zwd cA ad (zup M k i.toNat v) := zwd_set hsh rfl zup_ne
  rw [zcl32 hi32, zup_upd (v := v) rfl rfl, hset] at hP
  exact hK _ _ _ _ h (zrgM_up hM ((zrg_of0 hsh).mpr hv32)) (zrgt (zrgt (zrgt hs))) hl I hI' hlen l D cA ad p e s m args below meth c H locs cls hinj hC hmK hP hS hL
theorem zs_bastore  (hA : zAt mi I pc (.bastore, n, xa, xb, xc, xe)) (hK : zKp d mi Q K) (h : zst d I Q pc ls st M (.bastore, n, xa, xb, xc, xe) K) : zBg d mi pc ls st M Q := by
  obtain ⟨hdg, hok, hn⟩ := hA.ok
  have hn : n = 1 := Nat.eq_of_beq_eq_true hn
  subst hn
  obtain ⟨k, i, v, r, rfl, h⟩ := zrii_ex h
  obtain ⟨N, hsh, h1, h2, h⟩ := zar_ex h
  intro hM hs hl I' hI' hlen l D cA ad p e s m args below meth c H locs cls hinj hC hmK hP hS hL
  have hII := Option.some.inj (hA.1.symm.trans hI')
  subst hII
  have hC0 := hC
  obtain ⟨hx, hb, hml, hown, hts, hnw, hr, hlk⟩ := hC0
  have hv32 : zR32 v := zrgh hs
  have hi32 : zR32 i := zrgh (zrgt hs)
  have hw0 := zwd_get (cA := cA) (ad := ad) (M := M) hsh
  have hnar : vp_nar .byte (Int32.ofInt v) = Int32.ofInt (zi2b v) := by
    show (Int32.ofInt v).toInt8.toInt32 = _
    apply Int32.toInt_inj.mp
    rw [Int8.toInt_toInt32, Int32.toInt_toInt8, z32 hv32, z32 (zi2b_r v)]
    rfl
  refine va_bast (f := fun i => Int32.ofInt (M k i)) hx hb hmK hP (zwd_D M hinj) hS k 1 hw0 rfl (zin32 hi32 h1 h2) hdg (fun H locs hP _ hS => ?_)
  have hset : (zwd cA ad M).set k (ad k, .inl (cA 1, N, .inl (fun j => Int32.ofInt (zup M k i.toNat (zi2b v) k j)))) = zwd cA ad (zup M k i.toNat (zi2b v)) := zwd_set hsh rfl zup_ne
  rw [zcl32 hi32, zup_upd (v := (zi2b v)) rfl hnar, hset] at hP
  exact hK _ _ _ _ h (zrgM_up hM ((zrg_of1 hsh).mpr (zi2b_b v))) (zrgt (zrgt (zrgt hs))) hl I hI' hlen l D cA ad p e s m args below meth c H locs cls hinj hC hmK hP hS hL
theorem zs_lastore  (hA : zAt mi I pc (.lastore, n, xa, xb, xc, xe)) (hK : zKp d mi Q K) (h : zst d I Q pc ls st M (.lastore, n, xa, xb, xc, xe) K) : zBg d mi pc ls st M Q := by
  obtain ⟨hdg, hok, hn⟩ := hA.ok
  have hn : n = 1 := Nat.eq_of_beq_eq_true hn
  subst hn
  obtain ⟨k, i, v, r, rfl, h⟩ := zril_ex h
  obtain ⟨N, hsh, h1, h2, h⟩ := zar_ex h
  intro hM hs hl I' hI' hlen l D cA ad p e s m args below meth c H locs cls hinj hC hmK hP hS hL
  have hII := Option.some.inj (hA.1.symm.trans hI')
  subst hII
  have hC0 := hC
  obtain ⟨hx, hb, hml, hown, hts, hnw, hr, hlk⟩ := hC0
  have hv64 : zR64 v := zrgh hs
  have hi32 : zR32 i := zrgh (zrgt hs)
  have hw0 := zwd_get (cA := cA) (ad := ad) (M := M) hsh
  refine va_last (f := fun i => Int64.ofInt (M k i)) hx hb hmK hP (zwd_D M hinj) hS k 2 hw0 rfl (zin32 hi32 h1 h2) hdg (fun H locs hP _ hS => ?_)
  have hfun : ∀ g : Nat → Int64, g = (fun j => Int64.ofInt (zup M k i.toNat v k j)) → (zwd cA ad M).set k (ad k, .inl (cA 2, N, .inr (.inl g))) = zwd cA ad (zup M k i.toNat v) := fun g hg => by rw [hg]; exact zwd_set hsh rfl zup_ne
  rw [zcl32 hi32, hfun _ (by funext j; unfold zup; by_cases hj : j = i.toNat <;> simp [vp_updL, hj])] at hP
  exact hK _ _ _ _ h (zrgM_up hM ((zrg_of2 hsh).mpr hv64)) (zrgt (zrgt (zrgt hs))) hl I hI' hlen l D cA ad p e s m args below meth c H locs cls hinj hC hmK hP hS hL
theorem zs_arraylength (hA : zAt mi I pc (.arraylength, n, xa, xb, xc, xe)) (hK : zKp d mi Q K) (h : zst d I Q pc ls st M (.arraylength, n, xa, xb, xc, xe) K) : zBg d mi pc ls st M Q := by
  obtain ⟨hdg, hok, hn⟩ := hA.ok
  have hn : n = 1 := Nat.eq_of_beq_eq_true hn
  subst hn
  obtain ⟨k, r, rfl, h'⟩ := zr1_ex h
  clear h
  have h := h'
  have h2 : ∃ t N, zSHL[k]? = some (.inl (t, N)) ∧ K (pc + 1) ls (.inl (N : Int) :: r) M := by
    unfold zln at h
    split at h
    · rename_i t N hk; exact ⟨t, N, hk, h⟩
    · exact h.elim
  obtain ⟨t, N, hsh, h⟩ := h2
  have hb3 : t < 3 ∧ N < 2147483648 := zSHL_b hsh
  intro hM hs hl I' hI' hlen l D cA ad p e s m args below meth c H locs cls hinj hC hmK hP hS hL
  have hII := Option.some.inj (hA.1.symm.trans hI')
  subst hII
  have hC0 := hC
  obtain ⟨hx, hb, hml, hown, hts, hnw, hr, hlk⟩ := hC0
  have hw0 := zwd_get (cA := cA) (ad := ad) (M := M) hsh
  have hex : ∃ z, zcell cA ad M k (.inl (t, N)) = .inl (cA t, N, z) := by
    rcases (show t = 0 ∨ t = 1 ∨ t = 2 by omega) with rfl | rfl | rfl <;> exact ⟨_, rfl⟩
  obtain ⟨z, hz⟩ := hex
  rw [hz] at hw0
  have hty : ∃ ty, (ztys cA)[t]? = some (cA t, ty) := by
    rcases (show t = 0 ∨ t = 1 ∨ t = 2 by omega) with rfl | rfl | rfl <;> exact ⟨_, rfl⟩
  obtain ⟨ty, hty⟩ := hty
  refine va_alen (x := (N, z)) (v := Int32.ofInt (N : Int)) hx hb hmK hP k t hw0 hty (by rw [Int32.ofInt_eq_ofNat]) hdg ?_
  exact hK _ _ _ _ h hM (zrgs (show zR32 (N : Int) by omega) (zrgt hs)) hl I hI' hlen l D cA ad p e s m args below meth c H locs cls hinj hC hmK hP hS hL
end zRows2
end
section
/-! calls, returns, switches -/
def zSHLc : zSh → Bool
  | .inr (c, _) => Nat.ble (c + 1) 11
  | _ => true
theorem zSHLc_ok : zSHL.all zSHLc = true := by decide +kernel
theorem zJ {mi : Nat} {J : zMI} (h : zMT[mi]? = some J) : Cond.code J.1 J.2.1 J.2.2.1 J.2.2.2.1 ∈ zGW ∧ (bif J.2.2.2.2.1 then Cond.static J.1 ∈ zGW else (Cond.instanceMethod J.1 ∈ zGW ∧ Cond.selects J.1.cls J.1 J.1 ∈ zGW)) ∧ Cond.initialized J.1.cls ∈ zGW ∧ plainName J.1.cls = true ∧ J.1.cls ≠ "java/lang/invoke/MethodHandle" ∧ J.1.cls ≠ "java/lang/invoke/VarHandle" ∧ J.2.2.1 ≤ 30 := by
  have hm := List.mem_of_getElem? h
  have h1 := List.all_eq_true.mp zMT_ok J hm
  have h0 := zCw J hm
  simp only [zokM, Bool.and_eq_true, decide_eq_true_eq] at h1
  obtain ⟨⟨⟨⟨⟨⟨a1, a2⟩, a3⟩, a4⟩, a5⟩, a6⟩, a7⟩ := h1
  refine ⟨zGW_in h0 rfl, ?_, zGW_in a2 rfl, a4, a5, a6, a7⟩
  cases hb : J.2.2.2.2.1 with
  | true =>
    rw [hb] at a1
    simp only [cond_true, decide_eq_true_eq] at a1
    exact zGW_in a1 rfl
  | false =>
    rw [hb] at a1
    simp only [cond_false, Bool.and_eq_true, decide_eq_true_eq] at a1
    exact ⟨zGW_in a1.1 rfl, zGW_in a1.2 rfl⟩
theorem zGood {J : zMI} (h : Cond.code J.1 J.2.1 J.2.2.1 J.2.2.2.1 ∈ zGW) : GoodIn zGW (zws J) := by
  intro w hw
  have hm : w ∈ zGW := by
    rcases List.mem_cons.mp hw with rfl | h1
    · exact h
    · exact h1
  exact ⟨hm, good_of_word (List.mem_filter.mp hm).2⟩
theorem zlinkM {mi : Nat} {I : zMI} {pl ix cal : Nat} {J : zMI} (hI : zMT[mi]? = some I) (hJ : zMT[cal]? = some J) (hc9 : Nat.beq cal 9999 = false) (hc8 : Nat.beq cal 9998 = false) (h : (zCT[pl]?).map (fun f => (f.1, f.2.1, f.2.2.1)) = some (I.2.2.2.2.2.1, ix, cal)) :
    (Cond.methodLink I.1.cls ix J.1) ∈ zGW ∨ (Cond.methodLinkNest I.1.cls ix J.1 "CommaCopies") ∈ lw_tbl := by
  cases hf : zCT[pl]? with
  | none => rw [hf] at h; cases h
  | some f =>
    rw [hf] at h
    have h2 := Option.some.inj h
    obtain ⟨f1, f2, f3, f4, f5⟩ := f
    simp only [Prod.mk.injEq] at h2
    obtain ⟨rfl, rfl, rfl⟩ := h2
    have h1 := zct hf
    unfold zlkC at h1
    have hown := zRN_own hI
    simp only at h1
    rw [hown] at h1
    simp only [hc9, hc8, cond_false, hJ] at h1
    cases f4 with
    | true =>
      simp only [cond_true, decide_eq_true_eq] at h1
      exact Or.inr (List.mem_of_getElem? h1)
    | false =>
      simp only [cond_false, decide_eq_true_eq] at h1
      exact Or.inl (zGW_in h1 rfl)
theorem zlinkS {mi : Nat} {I : zMI} {pl ix : Nat} (hI : zMT[mi]? = some I) (h : (zCT[pl]?).map (fun f => (f.1, f.2.1, f.2.2.1)) = some (I.2.2.2.2.2.1, ix, 9999)) : (Cond.methodLink I.1.cls ix arraycopyName) ∈ zGW := by
  cases hf : zCT[pl]? with
  | none => rw [hf] at h; cases h
  | some f =>
    rw [hf] at h
    have h2 := Option.some.inj h
    obtain ⟨f1, f2, f3, f4, f5⟩ := f
    simp only [Prod.mk.injEq] at h2
    obtain ⟨rfl, rfl, rfl⟩ := h2
    have h1 := zct hf
    unfold zlkC at h1
    have hown := zRN_own hI
    simp only at h1
    rw [hown] at h1
    have h3 : lw_tbl[f5]? = some (.methodLink I.1.cls f2 arraycopyName) := of_decide_eq_true h1
    exact zGW_in h3 rfl
theorem zlinkX {mi : Nat} {I : zMI} {pl ix : Nat} (hI : zMT[mi]? = some I) (h : (zCT[pl]?).map (fun f => (f.1, f.2.1, f.2.2.1)) = some (I.2.2.2.2.2.1, ix, 9998)) : (Cond.methodLink I.1.cls ix Lib.Math.max.name) ∈ zGW := by
  cases hf : zCT[pl]? with
  | none => rw [hf] at h; cases h
  | some f =>
    rw [hf] at h
    have h2 := Option.some.inj h
    obtain ⟨f1, f2, f3, f4, f5⟩ := f
    simp only [Prod.mk.injEq] at h2
    obtain ⟨rfl, rfl, rfl⟩ := h2
    have h1 := zct hf
    unfold zlkC at h1
    have hown := zRN_own hI
    simp only at h1
    rw [hown] at h1
    have h3 : lw_tbl[f5]? = some (.methodLink I.1.cls f2 Lib.Math.max.name) := of_decide_eq_true h1
    exact zGW_in h3 rfl
theorem zblind {D : va_G} {cA : Nat → ClassId} {ad : Nat → Nat} {av : List zV} {M : zMem} : FrameBlind (zPre D cA ad av M) := by
  intro a U g mk q
  obtain ⟨q0, q1, qP, qK⟩ := q
  exact ⟨q0, zNW.same (s := U) (U := U.calling g mk a) rfl q1, qP, va_K.moved (u := U) (U := U.calling g mk a) (Vm.Alike.refl U.vm) qK⟩
section zR3
variable {p : Program} {l : Launch} {e : Env} {R : Room} {s : State} {m : MethodId} {args : Array Value} {below : List Frame} {meth : Method} {c : Code} {H : Heap} {locs : List Loc} {QQ : State → Prop} {pc : Nat} {ls : Array Slot} {rest st0 : List Value} {a : Array Value} {D : va_G} {cA : Nat → ClassId} {ad : Nat → Nat} {Q : Option zV → zMem → Prop}
theorem zrun {A0 : Nat → Prop} {H0 : Heap} {cells slots : Nat} (hr : va_Run p l e R s m args below meth c H locs cells slots 0 0 (F0 m pc ls st0) rest (zPost D cA ad Q a) (zA ad)) (hS : va_S A0 H0 H locs) (hA : ∀ q, zA ad q → A0 q)
    (kk : ∀ (r : Option zV) (M' : zMem) (H1 : Heap) (locs1 : List Loc), Q r M' → (∀ v, r = some v → zrg v) → zrgM M' → va_P D vwCl (zwd cA ad M') H1 → va_S A0 H0 H1 locs1 → W p l e R s m args below meth c H1 locs1 cells slots QQ (F0 m (pc + 3) ls ((r.map (zcv ad)).toList ++ rest))) : W p l e R s m args below meth c H locs cells slots QQ (F0 m pc ls st0) := by
  intro T hT X
  obtain ⟨v, st₀, t, T', L, h0, X', hL, e1, e2, ⟨⟨r, M', hv, hq, hrg, hM, hP, hK⟩, hz, hk⟩, st⟩ := hr T hT X
  cases hv
  rw [h0] at hz hk
  obtain ⟨t2, a1, b1⟩ := kk r M' T'.heap (locs ++ L) hq hrg hM (by rw [e1]; exact hP)
    ⟨Nat.le_trans hS.1 (by rw [e1]; exact hz), fun q h1 h2 => by rw [e1, hk q (Nat.lt_of_lt_of_le h1 hS.1) (fun z => h2 (hA q z))]; exact hS.2.1 q h1 h2, fun q hq => by
      rcases List.mem_append.mp hq with h | h
      · exact hS.2.2 q h
      · exact hA _ (hL q h)⟩ T' rfl X'
  exact ⟨t2, st t2 a1, b1⟩
end zR3
theorem zsum4 {ad : Nat → Nat} : ∀ {r : List zV}, r.length ≤ 4 → ((r.map (zcv ad)).map fun v => v.category).sum ≤ 8 := by
  have key : ∀ r : List zV, ((r.map (zcv ad)).map fun v => v.category).sum ≤ 2 * r.length := by
    intro r
    induction r with
    | nil => simp
    | cons x r ih =>
      have hx : (zcv ad x).category ≤ 2 := by
        rcases x with x | x | x <;> simp [zcv, Value.category]
      simp only [List.map_cons, List.sum_cons, List.length_cons]
      omega
  intro r h
  have := key r
  omega
/-- what comes back from a call goes on by its kind -/
theorem zcall_ex {d cal : Nat} {J : zMI} {av rest : List zV} {M : zMem} {K : List zV → zMem → Prop} (hJ : zMT[cal]? = some J) (h : zcall d cal av rest M K) : ∃ Q, zCt (d - 1) cal av M Q ∧ ∀ r M', Q r M' → K (r.toList ++ rest) M' := by
  unfold zcall at h
  rw [hJ] at h
  split at h
  · obtain ⟨Q, h1, h2⟩ := h
    exact ⟨_, h1, fun r M' ⟨h3, h4⟩ => by subst h3; exact h2 M' h4⟩
  · obtain ⟨Q, h1, h2⟩ := h
    exact ⟨_, h1, fun r M' ⟨v, h3, h4⟩ => by subst h3; exact h2 v M' h4⟩
  · obtain ⟨Q, h1, h2⟩ := h
    exact ⟨_, h1, fun r M' ⟨v, h3, h4⟩ => by subst h3; exact h2 v M' h4⟩
  · obtain ⟨Q, h1, h2⟩ := h
    exact ⟨_, h1, fun r M' ⟨h3, h4⟩ => by subst h3; exact h2 M' h4⟩
  · exact h.elim
theorem zroom_ok {d : Nat} (hd : Nat.ble 1 d = true) {L : Nat} (hL : L ≤ 30) : (zroom (d - 1)).frames + 1 ≤ (zroom d).frames ∧ 8 + (L + 11) + (zroom (d - 1)).locals ≤ (zroom d).locals := by
  have h1 : 1 ≤ d := Nat.le_of_ble_eq_true hd
  obtain ⟨k, rfl⟩ : ∃ k, d = k + 1 := ⟨d - 1, by omega⟩
  refine ⟨Nat.le_refl _, ?_⟩
  show 8 + (L + 11) + 60 * (k + 1) ≤ 60 * (k + 1 + 1)
  omega
theorem zout {r : Option zV} {rest : List zV} {ad : Nat → Nat} : (r.map (zcv ad)).toList ++ rest.map (zcv ad) = (r.toList ++ rest).map (zcv ad) := by
  cases r <;> simp
theorem zoutr {r : Option zV} {rest : List zV} (h1 : ∀ v, r = some v → zrg v) (h2 : ∀ v ∈ rest, zrg v) : ∀ v ∈ r.toList ++ rest, zrg v := by
  intro v hv
  rcases List.mem_append.mp hv with h | h
  · cases r with
    | none => cases h
    | some w => simp at h; exact h1 v (by rw [h])
  · exact h2 v h
theorem zac1 : Cond.native arraycopyName ∈ zGW := zGW_in (pl := 454) (by decide +kernel) rfl
theorem zac2 : Cond.static arraycopyName ∈ zGW := zGW_in (pl := 453) (by decide +kernel) rfl
theorem zac3 : Cond.initialized "java/lang/System" ∈ zGW := zGW_in (pl := 97) (by decide +kernel) rfl
theorem zmx1 : Cond.static Lib.Math.max.name ∈ zGW := zGW_in (pl := 732) (by decide +kernel) rfl
theorem zmx2 : Cond.initialized "java/lang/Math" ∈ zGW := zGW_in (pl := 100) (by decide +kernel) rfl
set_option maxRecDepth 100000 in
theorem zmx3 : Cond.code Lib.Math.max.name Lib.Math.max.code 2 (some .int) ∈ zGW := zGW_in (pl := 733) (by rfl) rfl
theorem zvw {mi k : Nat} {J : zMI} {fs : List (Option Nat)} (hJ : zMT[mi]? = some J) (h : zSHL[k]? = some (.inr (J.2.2.2.2.2.1, fs))) : ∃ T N, vwCl[J.2.2.2.2.2.1]? = some (J.1.cls, T, N) := by
  have h1 := zRN_own hJ
  have h2 := List.all_eq_true.mp zSHLc_ok _ (List.mem_of_getElem? h)
  have h3 : J.2.2.2.2.2.1 < 11 := Nat.le_of_ble_eq_true h2
  rcases (show J.2.2.2.2.2.1 = 0 ∨ J.2.2.2.2.2.1 = 1 ∨ J.2.2.2.2.2.1 = 2 ∨ J.2.2.2.2.2.1 = 3 ∨ J.2.2.2.2.2.1 = 4 ∨ J.2.2.2.2.2.1 = 5 ∨ J.2.2.2.2.2.1 = 6 ∨ J.2.2.2.2.2.1 = 7 ∨ J.2.2.2.2.2.1 = 8 ∨ J.2.2.2.2.2.1 = 9 ∨ J.2.2.2.2.2.1 = 10 by omega) with h4 | h4 | h4 | h4 | h4 | h4 | h4 | h4 | h4 | h4 | h4 <;>
    (rw [h4] at h1 ⊢
     have h5 := Option.some.inj h1
     rw [← h5]
     exact ⟨_, _, rfl⟩)
section zRows3
variable {d mi pc : Nat} {I : zMI} {ls : List (Option zV)} {st : List zV} {M : zMem} {Q : Option zV → zMem → Prop} {K : Nat → List (Option zV) → List zV → zMem → Prop} {n : Nat} {xa : Int} {xb xc xe : Nat}
theorem zrcv_ex {cal : Nat} {J : zMI} {av : List zV} (hJ : zMT[cal]? = some J) (h : zrcv cal av = true) : ∃ k As fs, av = .inr (.inr k) :: As ∧ zSHL[k]? = some (.inr (J.2.2.2.2.2.1, fs)) := by
  unfold zrcv at h
  split at h
  · rename_i k As
    have h1 := of_decide_eq_true h
    rw [hJ] at h1
    unfold zcls at h1
    split at h1
    · rename_i c fs hk
      simp at h1
      subst h1
      exact ⟨k, As, fs, rfl, hk⟩
    · cases h1
  · cases h
theorem zs_invokevirtual {ix : Nat} (hA : zAt mi I pc (.invokevirtual ix, n, xa, xb, xc, xe)) (hK : zKp d mi Q K) (h : zst d I Q pc ls st M (.invokevirtual ix, n, xa, xb, xc, xe) K) : zBg d mi pc ls st M Q := by
  obtain ⟨hdg, hok, hn⟩ := hA.ok
  have hn : n = 3 := Nat.eq_of_beq_eq_true hn
  subst hn
  have hok2 := Bool.and_eq_true_iff.mp hok
  have hlk1 : (zCT[xe]?).map (fun f => (f.1, f.2.1, f.2.2.1)) = some (I.2.2.2.2.2.1, ix, xb) := of_decide_eq_true hok2.1
  have hok3 := hok2.2
  cases hJ : zMT[xb]? with
  | none => simp only [hJ] at hok3; cases hok3
  | some J =>
    simp only [hJ] at hok3
    have hok4 := Bool.and_eq_true_iff.mp hok3
    have hst : J.2.2.2.2.1 = false := by simpa using hok4.1
    have hpar : (parseMethodDescriptor J.1.desc).map (fun d => d.parameters.length + 1) = some xc := of_decide_eq_true hok4.2
    obtain ⟨hb1, hb2⟩ := zif h
    simp only [Bool.and_eq_true] at hb1
    obtain ⟨⟨⟨g1, g2⟩, g3⟩, g4⟩ := hb1
    have g1 : xc ≤ st.length := Nat.le_of_ble_eq_true g1
    have g2 : (st.drop xc).length ≤ 4 := Nat.le_of_ble_eq_true g2
    obtain ⟨k, As, fs, hav, hsh⟩ := zrcv_ex hJ g4
    obtain ⟨Q', hct, hgo⟩ := zcall_ex hJ hb2
    have hst2 : st = As.reverse ++ .inr (.inr k) :: st.drop xc := by
      have h1 : st.take xc = (As.reverse ++ [.inr (.inr k)]) := by
        have h2 := congrArg List.reverse hav
        simp only [List.reverse_reverse, List.reverse_cons] at h2
        exact h2
      conv => lhs; rw [← List.take_append_drop xc st, h1]
      simp
    have hlenA : As.length + 1 = xc := by
      have h2 := congrArg List.length hav
      simp only [List.length_reverse, List.length_take, List.length_cons] at h2
      omega
    obtain ⟨j1, j2, j3, j4, j5, j6, j7⟩ := zJ hJ
    rw [hst] at j2
    obtain ⟨j2, j2s⟩ := (show _ ∧ _ from j2)
    have hc9 : Nat.beq xb 9999 = false := by
      have := (List.getElem?_eq_some_iff.mp hJ).1
      rw [show zMT.length = 183 from rfl] at this
      cases hq : Nat.beq xb 9999 with
      | false => rfl
      | true => exact absurd (Nat.eq_of_beq_eq_true hq) (by omega)
    have hc8 : Nat.beq xb 9998 = false := by
      have := (List.getElem?_eq_some_iff.mp hJ).1
      rw [show zMT.length = 183 from rfl] at this
      cases hq : Nat.beq xb 9998 with
      | false => rfl
      | true => exact absurd (Nat.eq_of_beq_eq_true hq) (by omega)
    have hlink := zlinkM hA.1 hJ hc9 hc8 hlk1
    have hci : ∃ T N, vwCl[J.2.2.2.2.2.1]? = some (J.1.cls, T, N) := zvw hJ hsh
    obtain ⟨T, N, hcl⟩ := hci
    have hpar2 : (parseMethodDescriptor J.1.desc).map (fun d => d.parameters.length) = some As.length := by
      cases hp0 : parseMethodDescriptor J.1.desc with
      | none => rw [hp0] at hpar; cases hpar
      | some sg =>
        rw [hp0] at hpar
        have h9 : sg.parameters.length + 1 = xc := Option.some.inj hpar
        simp only [Option.map_some, Option.some.injEq]
        omega
    have hrest : ∀ v ∈ st.drop xc, zrg v → True := fun _ _ _ => trivial
    intro hM hs hl I' hI' hlen l D cA ad p e s m args below meth c H locs cls hinj hC hmK hP hS hL
    have hII := Option.some.inj (hA.1.symm.trans hI')
    subst hII
    have hC0 := hC
    obtain ⟨hx, hb, hml, hown, hts, hnw, hr, hlk⟩ := hC0
    have hsr : ∀ v ∈ st.drop xc, zrg v := fun v hv => hs v (List.mem_of_mem_drop hv)
    have hsa : ∀ v ∈ (st.take xc).reverse, zrg v := fun v hv => hs v (List.mem_of_mem_take (List.mem_reverse.mp hv))
    have hMet := hct J hJ hM hsa l D cA ad hinj
    have hW4 := zsum4 (ad := ad) g2
    have hstk : (F0 m pc cls (st.map (zcv ad))).stack = (As.map (zcv ad)).reverse ++ .ref (ad k) :: (st.drop xc).map (zcv ad) := by
      show st.map (zcv ad) = _
      conv => lhs; rw [hst2]
      simp [zcv]
    have hpre : ∀ U : State, U.heap = H → s.WarmedH U.vm → zPre D cA ad (st.take xc).reverse M (Value.ref (ad k) :: As.map (zcv ad)).toArray U := fun U hU hW => by
      refine ⟨?_, zNW.warm hW hnw, by rw [hU]; exact hP, va_K.moved hW.alike hmK⟩
      rw [hav]
      rfl
    have hrecv := va_recv hmK hP hcl (zwd_get (cA := cA) (ad := ad) (M := M) hsh)
    have goal : va_Run p l e (zroom d) s m args below meth c H locs 0 0 0 0 (F0 m pc cls (st.map (zcv ad))) ((st.drop xc).map (zcv ad)) (zPost D cA ad Q' (Value.ref (ad k) :: As.map (zcv ad)).toArray) (zA ad) := by
      rcases hlink with hw | hw
      · exact va_runV ⟨hx, hb, hml, hown, hts⟩ hMet ⟨callB_of As.length hts (zGood j1) rfl rfl rfl (hts _ j3) (hts _ hw) ⟨j5, j6, hpar2⟩ (zroom_ok g3 j7), hts _ j2, hts _ j2s⟩ ⟨zblind, hrecv, hpre⟩ rfl (by simp) hL.1 hstk (by show 2 * 0 + _ ≤ _; omega) hdg ⟨Nat.zero_le _, Nat.zero_le _⟩
      · exact va_runVN ⟨hx, hb, hml, hown, hts⟩ hMet ⟨va_cnB As.length hts (zGood j1) rfl rfl rfl (hnw _ hw rfl) (hts _ j3) ⟨j5, j6, hpar2⟩ (zroom_ok g3 j7), hts _ j2, hts _ j2s⟩ ⟨zblind, hrecv, hpre⟩ rfl (by simp) hL.1 hstk (by show 2 * 0 + _ ≤ _; omega) hdg ⟨Nat.zero_le _, Nat.zero_le _⟩
    refine zrun goal hS (fun _ h => h) (fun r M' H1 locs1 hq hrg hM hP hS => ?_)
    rw [zout]
    exact hK _ _ _ _ (hgo r M' hq) hM (zoutr hrg hsr) hl I hI' hlen l D cA ad p e s m args below meth c H1 locs1 cls hinj hC hmK hP hS hL
theorem zs_invokestatic {ix : Nat} (hA : zAt mi I pc (.invokestatic ix, n, xa, xb, xc, xe)) (hK : zKp d mi Q K) (h : zst d I Q pc ls st M (.invokestatic ix, n, xa, xb, xc, xe) K) : zBg d mi pc ls st M Q := by
  obtain ⟨hdg, hok, hn⟩ := hA.ok
  have hn : n = 3 := Nat.eq_of_beq_eq_true hn
  subst hn
  have hok2 := Bool.and_eq_true_iff.mp hok
  have hlk1 : (zCT[xe]?).map (fun f => (f.1, f.2.1, f.2.2.1)) = some (I.2.2.2.2.2.1, ix, xb) := of_decide_eq_true hok2.1
  have hok3 := hok2.2
  cases hc9 : Nat.beq xb 9999 with
  | true =>
    have h9 : xb = 9999 := Nat.eq_of_beq_eq_true hc9
    subst h9
    have h : zacp st M (fun st' M' => K (pc + 3) ls st' M') := h
    unfold zacp at h
    split at h
    · rename_i nn q b pp a r xx
      obtain ⟨hr4, h⟩ := zif h
      have hr4 : r.length ≤ 4 := Nat.le_of_ble_eq_true hr4
      split at h
      · rename_i t la t' lb ha hb'
        obtain ⟨htt, h1, h2, h3, h4, h5, h77⟩ := zif h
        clear h
        have htt2 := Bool.and_eq_true_iff.mp htt
        have ht1 : t = t' := Nat.eq_of_beq_eq_true htt2.1
        have ht2 : t < 2 := Nat.le_of_ble_eq_true htt2.2
        subst ht1
        have hlink := zlinkS hA.1 hlk1
        intro hM hs hl I' hI' hlen l D cA ad p e s m args below meth c H locs cls hinj hC hmK hP hS hL
        have hII := Option.some.inj (hA.1.symm.trans hI')
        subst hII
        have hC0 := hC
        obtain ⟨hx, hb, hml, hown, hts, hnw, hr, hlk⟩ := hC0
        have hn32 : zR32 nn := zrgh hs
        have hq32 : zR32 q := zrgh (zrgt hs)
        have hp32 : zR32 pp := zrgh (zrgt (zrgt (zrgt hs)))
        have hr9 : ∀ v ∈ r, zrg v := zrgt (zrgt (zrgt (zrgt (zrgt hs))))
        have hwa := zwd_get (cA := cA) (ad := ad) (M := M) ha
        have hwb := zwd_get (cA := cA) (ad := ad) (M := M) hb'
        have hca : zcell cA ad M a (.inl (t, la)) = .inl (cA t, la, .inl (fun i => Int32.ofInt (M a i))) := by
          rcases (show t = 0 ∨ t = 1 by omega) with rfl | rfl <;> rfl
        have hcb : ∀ M', zcell cA ad M' b (.inl (t, lb)) = .inl (cA t, lb, .inl (fun i => Int32.ofInt (M' b i))) := by
          intro M'
          rcases (show t = 0 ∨ t = 1 by omega) with rfl | rfl <;> rfl
        rw [hca] at hwa
        rw [hcb] at hwb
        have hty : ∃ ty, (ztys cA)[t]? = some (cA t, ty) ∧ refKind ty = false ∧ ∀ j, fits ty (.int (Int32.ofInt (M a j))) = true := by
          rcases (show t = 0 ∨ t = 1 by omega) with rfl | rfl
          · exact ⟨.int, rfl, rfl, fun _ => rfl⟩
          · refine ⟨.byte, rfl, rfl, fun j => ?_⟩
            have hj := (zrg_of1 ha).mp (hM a j)
            have hj32 : zR32 (M a j) := by omega
            show (decide (-128 ≤ Int32.ofInt (M a j)) && decide (Int32.ofInt (M a j) ≤ 127)) = true
            rw [Bool.and_eq_true, decide_eq_true_eq, decide_eq_true_eq, Int32.le_iff_toInt_le, Int32.le_iff_toInt_le, z32 hj32]
            exact ⟨by rw [show (-128 : Int32).toInt = -128 from rfl]; omega, by rw [show (127 : Int32).toInt = 127 from rfl]; omega⟩
        obtain ⟨ty, hty1, hty2, hty3⟩ := hty
        have nlt : ∀ z : Int, zR32 z → 0 ≤ z → ¬ Int32.ofInt z < 0 := fun z hz h0 => by
          rw [Int32.lt_iff_toInt_lt, z32 hz, Int32.toInt_zero]; omega
        refine va_copyi (f := fun i => Int32.ofInt (M a i)) (g := fun i => Int32.ofInt (M b i)) (ty := ty) (n := Int32.ofInt nn) (dp := Int32.ofInt q) (sp := Int32.ofInt pp) hx hb (by rw [hml]; exact hL.1.symm) hown (hts _ hlink) (hts _ zac1) (hts _ zac2) (hts _ zac3) hmK hP (zwd_D M hinj) hS a b t t hwa hwb hty1 hty1 hty2 (nlt _ hp32 h1) (nlt _ hq32 h2) (nlt _ hn32 h3) (by rw [zcl32 hp32, zcl32 hn32]; omega) (by rw [zcl32 hq32, zcl32 hn32]; omega) (fun i _ => hty3 _) (by show 1 ≤ d + 1; omega) (by
          have := zsum4 (ad := ad) hr4
          have e7 : nativeFrameWords "java/lang/System" "arraycopy" 5 = 7 := by decide +kernel
          rw [e7]
          show _ ≤ 60 * (d + 1)
          omega) hdg (fun H locs hP _ hS => ?_)
        have hset : (zwd cA ad M).set b (ad b, .inl (cA t, lb, .inl (va_cpy (fun i => Int32.ofInt (M a i)) (fun i => Int32.ofInt (M b i)) pp.toNat q.toNat nn.toNat))) = zwd cA ad (zcpy M a pp.toNat b q.toNat nn.toNat) := by
          have hfe : va_cpy (fun i => Int32.ofInt (M a i)) (fun i => Int32.ofInt (M b i)) pp.toNat q.toNat nn.toNat = fun i => Int32.ofInt (zcpy M a pp.toNat b q.toNat nn.toNat b i) := by
            funext i
            unfold va_cpy zcpy
            simp only [if_true]
            split <;> rfl
          exact zwd_set hb' (by rw [hcb, hfe]) (fun k' hk' i => by simp [zcpy, hk'])
        rw [zcl32 hp32, zcl32 hq32, zcl32 hn32, hset] at hP
        have hM2 : zrgM (zcpy M a pp.toNat b q.toNat nn.toNat) := by
          intro k i
          unfold zcpy
          split
          · rename_i hk
            subst hk
            split
            · have h8 := hM a (pp.toNat + (i - q.toNat))
              rcases (show t = 0 ∨ t = 1 by omega) with rfl | rfl
              · exact (zrg_of0 hb').mpr ((zrg_of0 ha).mp h8)
              · exact (zrg_of1 hb').mpr ((zrg_of1 ha).mp h8)
            · exact hM _ _
          · exact hM _ _
        exact hK _ _ _ _ h77 hM2 hr9 hl I hI' hlen l D cA ad p e s m args below meth c H locs cls hinj hC hmK hP hS hL
      · exact h.elim
    · exact h.elim
  | false =>
    cases hc8 : Nat.beq xb 9998 with
    | true =>
      have h9 : xb = 9998 := Nat.eq_of_beq_eq_true hc8
      subst h9
      have h : z2 st fun a b r => bif Nat.ble r.length 4 then K (pc + 3) ls (.inl (if a < b then b else a) :: r) M else False := h
      obtain ⟨x, y, r, rfl, h7⟩ := z2_ex h
      obtain ⟨hr4, h⟩ := zif h7
      have hr4 : r.length ≤ 4 := Nat.le_of_ble_eq_true hr4
      have hlink := zlinkX hA.1 hlk1
      intro hM hs hl I' hI' hlen l D cA ad p e s m args below meth c H locs cls hinj hC hmK hP hS hL
      have hII := Option.some.inj (hA.1.symm.trans hI')
      subst hII
      have hC0 := hC
      obtain ⟨hx, hb, hml, hown, hts, hnw, hr, hlk⟩ := hC0
      have hx32 : zR32 x := zrgh (zrgt hs)
      have hy32 : zR32 y := zrgh hs
      refine va_mmax (x := Int32.ofInt x) (y := Int32.ofInt y) hx hb (by rw [hml]; exact hL.1.symm) hown (hts _ hlink) (hts _ zmx1) (hts _ zmx2) (hts _ zmx3) (by show 1 ≤ d + 1; omega) (by
          have := zsum4 (ad := ad) hr4
          show _ ≤ 60 * (d + 1)
          omega) (Nat.zero_le _) (Nat.zero_le _) hdg ?_
      have hmx : (if Int32.ofInt x < Int32.ofInt y then Int32.ofInt y else Int32.ofInt x) = Int32.ofInt (if x < y then y else x) := by
        simp only [zlt32 hx32 hy32]
        split <;> rfl
      rw [hmx]
      exact hK _ _ _ _ h hM (zrgs (by show zR32 (if x < y then y else x); split; exact hy32; exact hx32) (zrgt (zrgt hs))) hl I hI' hlen l D cA ad p e s m args below meth c H locs cls hinj hC hmK hP hS hL
    | false =>
      have h : bif (Nat.ble xc st.length && Nat.ble (st.drop xc).length 4 && Nat.ble 1 d) then zcall d xb (st.take xc).reverse (st.drop xc) M (fun st' M' => K (pc + 3) ls st' M') else False := by
        have h0 : (bif Nat.beq xb 9999 then zacp st M (fun st' M' => K (pc + 3) ls st' M') else bif Nat.beq xb 9998 then (z2 st fun a b r => bif Nat.ble r.length 4 then K (pc + 3) ls (.inl (if a < b then b else a) :: r) M else False)
    else bif (Nat.ble xc st.length && Nat.ble (st.drop xc).length 4 && Nat.ble 1 d) then zcall d xb (st.take xc).reverse (st.drop xc) M (fun st' M' => K (pc + 3) ls st' M') else False) := h
        rw [hc9, hc8] at h0
        exact h0
      cases hJ : zMT[xb]? with
      | none => simp only [hJ, hc9, hc8, Bool.false_or, Bool.false_eq_true] at hok3
      | some J =>
        simp only [hJ, hc9, hc8, Bool.false_or] at hok3
        have hok4 := Bool.and_eq_true_iff.mp hok3
        have hst : J.2.2.2.2.1 = true := hok4.1
        have hpar : (parseMethodDescriptor J.1.desc).map (fun d => d.parameters.length) = some xc := of_decide_eq_true hok4.2
        obtain ⟨hb1, hb2⟩ := zif h
        simp only [Bool.and_eq_true] at hb1
        obtain ⟨⟨g1, g2⟩, g3⟩ := hb1
        have g1 : xc ≤ st.length := Nat.le_of_ble_eq_true g1
        have g2 : (st.drop xc).length ≤ 4 := Nat.le_of_ble_eq_true g2
        obtain ⟨Q', hct, hgo⟩ := zcall_ex hJ hb2
        obtain ⟨j1, j2, j3, j4, j5, j6, j7⟩ := zJ hJ
        rw [hst] at j2
        have j2 : Cond.static J.1 ∈ zGW := j2
        have hlink := zlinkM hA.1 hJ hc9 hc8 hlk1
        intro hM hs hl I' hI' hlen l D cA ad p e s m args below meth c H locs cls hinj hC hmK hP hS hL
        have hII := Option.some.inj (hA.1.symm.trans hI')
        subst hII
        have hC0 := hC
        obtain ⟨hx, hb, hml, hown, hts, hnw, hr, hlk⟩ := hC0
        have hsr : ∀ v ∈ st.drop xc, zrg v := fun v hv => hs v (List.mem_of_mem_drop hv)
        have hsa : ∀ v ∈ (st.take xc).reverse, zrg v := fun v hv => hs v (List.mem_of_mem_take (List.mem_reverse.mp hv))
        have hMet := hct J hJ hM hsa l D cA ad hinj
        have hW4 := zsum4 (ad := ad) g2
        have hstk : (F0 m pc cls (st.map (zcv ad))).stack = (((st.take xc).reverse).map (zcv ad)).reverse ++ (st.drop xc).map (zcv ad) := by
          show st.map (zcv ad) = _
          conv => lhs; rw [← List.take_append_drop xc st]
          simp
        have hpre : ∀ U : State, U.heap = H → s.WarmedH U.vm → zPre D cA ad (st.take xc).reverse M (((st.take xc).reverse).map (zcv ad)).toArray U := fun U hU hW => ⟨rfl, zNW.warm hW hnw, by rw [hU]; exact hP, va_K.moved hW.alike hmK⟩
        have hlen2 : (((st.take xc).reverse).map (zcv ad)).length = xc := by simp; omega
        have goal : va_Run p l e (zroom d) s m args below meth c H locs 0 0 0 0 (F0 m pc cls (st.map (zcv ad))) ((st.drop xc).map (zcv ad)) (zPost D cA ad Q' (((st.take xc).reverse).map (zcv ad)).toArray) (zA ad) := by
          rcases hlink with hw | hw
          · exact va_runS ⟨hx, hb, hml, hown, hts⟩ hMet ⟨callB_of xc hts (zGood j1) rfl rfl rfl (hts _ j3) (hts _ hw) ⟨j5, j6, hpar⟩ (zroom_ok g3 j7), hts _ j2⟩ ⟨zblind, hpre⟩ rfl hlen2 hL.1 hstk (by show 2 * 0 + _ ≤ _; omega) hdg ⟨Nat.zero_le _, Nat.zero_le _⟩
          · exact va_runSN ⟨hx, hb, hml, hown, hts⟩ hMet ⟨va_cnB xc hts (zGood j1) rfl rfl rfl (hnw _ hw rfl) (hts _ j3) ⟨j5, j6, hpar⟩ (zroom_ok g3 j7), hts _ j2, trivial⟩ ⟨zblind, hpre⟩ rfl hlen2 hL.1 hstk (by show 2 * 0 + _ ≤ _; omega) hdg ⟨Nat.zero_le _, Nat.zero_le _⟩
        refine zrun goal hS (fun _ h => h) (fun r M' H1 locs1 hq hrg hM hP hS => ?_)
        rw [zout]
        exact hK _ _ _ _ (hgo r M' hq) hM (zoutr hrg hsr) hl I hI' hlen l D cA ad p e s m args below meth c H1 locs1 cls hinj hC hmK hP hS hL
theorem zs_ireturn (hA : zAt mi I pc (.ireturn, n, xa, xb, xc, xe)) (h : zst d I Q pc ls st M (.ireturn, n, xa, xb, xc, xe) K) : zBg d mi pc ls st M Q := by
  obtain ⟨hdg, hok, hn⟩ := hA.ok
  have hn : n = 1 := Nat.eq_of_beq_eq_true hn
  subst hn
  have h2 : ∃ v : Int, st = [.inl v] ∧ Q (some (.inl v)) M ∧ (I.2.2.2.1 = some .int ∨ (I.2.2.2.1 = some .boolean ∧ (v = 0 ∨ v = 1))) := by
    simp only [zst] at h
    split at h
    · split at h
      · exact ⟨_, rfl, h, Or.inl ‹_›⟩
      · exact ⟨_, rfl, h.2, Or.inr ⟨‹_›, h.1⟩⟩
      · exact h.elim
    · exact h.elim
  obtain ⟨v, rfl, h, hty⟩ := h2
  intro hM hs hl I' hI' hlen l D cA ad p e s m args below meth c H locs cls hinj hC hmK hP hS hL
  have hII := Option.some.inj (hA.1.symm.trans hI')
  subst hII
  have hC0 := hC
  obtain ⟨hx, hb, hml, hown, hts, hnw, hr, hlk⟩ := hC0
  rcases hty with hty | ⟨hty, hv⟩
  · exact W.iret (v := Int32.ofInt v) hx hb (by rw [hr]; exact hty) (fun t ht hW => ⟨⟨some (.inl v), M, rfl, h, fun w hw => by cases hw; exact zrgh hs, hM, by rw [ht]; exact hP, va_K.moved hW.alike hmK⟩, hS.F ht⟩) hS.2.2 hdg hlk
  · exact W.zret (v := Int32.ofInt v) (ty := .boolean) hx hb (by rw [hr]; exact hty) (by rcases hv with rfl | rfl <;> decide) (fun t ht hW => ⟨⟨some (.inl v), M, rfl, h, fun w hw => by cases hw; exact zrgh hs, hM, by rw [ht]; exact hP, va_K.moved hW.alike hmK⟩, hS.F ht⟩) hS.2.2 hdg hlk
theorem zs_lreturn (hA : zAt mi I pc (.lreturn, n, xa, xb, xc, xe)) (h : zst d I Q pc ls st M (.lreturn, n, xa, xb, xc, xe) K) : zBg d mi pc ls st M Q := by
  obtain ⟨hdg, hok, hn⟩ := hA.ok
  have hn : n = 1 := Nat.eq_of_beq_eq_true hn
  subst hn
  have h2 : ∃ v : Int, st = [.inr (.inl v)] ∧ Q (some (.inr (.inl v))) M ∧ I.2.2.2.1 = some .long := by
    simp only [zst] at h
    split at h
    · split at h
      · exact ⟨_, rfl, h, ‹_›⟩
      · exact h.elim
    · exact h.elim
  obtain ⟨v, rfl, h, hty⟩ := h2
  intro hM hs hl I' hI' hlen l D cA ad p e s m args below meth c H locs cls hinj hC hmK hP hS hL
  have hII := Option.some.inj (hA.1.symm.trans hI')
  subst hII
  have hC0 := hC
  obtain ⟨hx, hb, hml, hown, hts, hnw, hr, hlk⟩ := hC0
  exact W.lret (v := Int64.ofInt v) hx hb (by rw [hr]; exact hty) (fun t ht hW => ⟨⟨some (.inr (.inl v)), M, rfl, h, fun w hw => by cases hw; exact zrgh hs, hM, by rw [ht]; exact hP, va_K.moved hW.alike hmK⟩, hS.F ht⟩) hS.2.2 hdg hlk
theorem zs_areturn (hA : zAt mi I pc (.areturn, n, xa, xb, xc, xe)) (h : zst d I Q pc ls st M (.areturn, n, xa, xb, xc, xe) K) : zBg d mi pc ls st M Q := by
  obtain ⟨hdg, hok, hn⟩ := hA.ok
  have hn : n = 1 := Nat.eq_of_beq_eq_true hn
  subst hn
  have h2 : ∃ (v : Nat) (C : String), st = [.inr (.inr v)] ∧ Q (some (.inr (.inr v))) M ∧ I.2.2.2.1 = some (.object C) := by
    simp only [zst] at h
    split at h
    · split at h
      · exact ⟨_, _, rfl, h, ‹_›⟩
      · exact h.elim
    · exact h.elim
  obtain ⟨v, C, rfl, h, hty⟩ := h2
  intro hM hs hl I' hI' hlen l D cA ad p e s m args below meth c H locs cls hinj hC hmK hP hS hL
  have hII := Option.some.inj (hA.1.symm.trans hI')
  subst hII
  have hC0 := hC
  obtain ⟨hx, hb, hml, hown, hts, hnw, hr, hlk⟩ := hC0
  exact W.aret (v := .ref (ad v)) hx hb (by rw [hr]; exact hty) (Or.inl ⟨C, rfl⟩) (Or.inr ⟨_, rfl⟩) (fun t ht hW => ⟨⟨some (.inr (.inr v)), M, rfl, h, fun w hw => by cases hw; trivial, hM, by rw [ht]; exact hP, va_K.moved hW.alike hmK⟩, hS.F ht⟩) hS.2.2 hdg hlk
theorem zs_return (hA : zAt mi I pc (.return_, n, xa, xb, xc, xe)) (h : zst d I Q pc ls st M (.return_, n, xa, xb, xc, xe) K) : zBg d mi pc ls st M Q := by
  obtain ⟨hdg, hok, hn⟩ := hA.ok
  have hn : n = 1 := Nat.eq_of_beq_eq_true hn
  subst hn
  have h2 : st = [] ∧ I.2.2.2.1 = none ∧ Q none M := by
    simp only [zst] at h
    split at h
    · exact ⟨rfl, ‹_›, h⟩
    · exact h.elim
  obtain ⟨hst0, hty, h9⟩ := h2
  clear h
  have h := h9
  subst hst0
  intro hM hs hl I' hI' hlen l D cA ad p e s m args below meth c H locs cls hinj hC hmK hP hS hL
  have hII := Option.some.inj (hA.1.symm.trans hI')
  subst hII
  have hC0 := hC
  obtain ⟨hx, hb, hml, hown, hts, hnw, hr, hlk⟩ := hC0
  exact W.vret hx hb (by rw [hr]; exact hty) (fun t ht hW => ⟨⟨(none : Option zV), M, rfl, h, fun (w : zV) (hw : (none : Option zV) = some w) => (by cases hw), hM, by rw [ht]; exact hP, va_K.moved hW.alike hmK⟩, hS.F ht⟩) hS.2.2 hdg hlk
theorem ztsw_at {pc : Nat} {a : Int} {K : Nat → Prop} : ∀ {offs : List Int} {v : Int} {j : Nat} {off : Int}, ztsw pc a K v offs → offs[j]? = some off → a = v + j → K (((pc : Int) + off).toNat) := by
  intro offs
  induction offs with
  | nil => intro v j off _ h; cases h
  | cons x r ih =>
    intro v j off h hj ha
    cases j with
    | zero =>
      simp at hj
      subst hj
      exact h.1 (by omega)
    | succ j => exact ih h.2 (by simpa using hj) (by omega)
theorem zs_tableswitch {df lo hi : Int} {offs : Array Int} (hA : zAt mi I pc (.tableswitch df lo hi offs, n, xa, xb, xc, xe)) (hK : zKp d mi Q K) (h : zst d I Q pc ls st M (.tableswitch df lo hi offs, n, xa, xb, xc, xe) K) : zBg d mi pc ls st M Q := by
  obtain ⟨hdg, hok, hn⟩ := hA.ok
  obtain ⟨x, r, rfl, h7⟩ := z1_ex h
  obtain ⟨hpos, h1, h2⟩ := zif h7
  simp only [Bool.and_eq_true, decide_eq_true_eq, List.all_eq_true] at hpos
  obtain ⟨⟨hsz, hpos1⟩, hpos2⟩ := hpos
  intro hM hs hl I' hI' hlen l D cA ad p e s m args below meth c H locs cls hinj hC hmK hP hS hL
  have hII := Option.some.inj (hA.1.symm.trans hI')
  subst hII
  have hC0 := hC
  obtain ⟨hx, hb, hml, hown, hts, hnw, hr, hlk⟩ := hC0
  have hx32 : zR32 x := zrgh hs
  by_cases hout : x < lo ∨ hi < x
  · have h := h2 hout
    refine lv_tableOut (tgt := ((pc : Int) + df).toNat) hx hb hdg (by rw [z32 hx32]; exact hout) (by omega) ?_
    exact hK _ _ _ _ h hM (zrgt hs) hl I hI' hlen l D cA ad p e s m args below meth c H locs cls hinj hC hmK hP hS hL
  · have hj : (x - lo).toNat < offs.toList.length := by rw [Array.length_toList]; omega
    have hget : offs.toList[(x - lo).toNat]? = some offs.toList[(x - lo).toNat] := List.getElem?_eq_getElem hj
    have h := ztsw_at (j := (x - lo).toNat) h1 hget (by omega)
    have hp0 := hpos1 _ (List.mem_of_getElem? hget)
    refine lv_tableIn (off := offs.toList[(x - lo).toNat]) (tgt := ((pc : Int) + offs.toList[(x - lo).toNat]).toNat) hx hb hdg (by rw [z32 hx32]; omega) (by rw [z32 hx32]; omega) (by rw [z32 hx32, ← Array.getElem?_toList]; exact hget) (by omega) ?_
    exact hK _ _ _ _ h hM (zrgt hs) hl I hI' hlen l D cA ad p e s m args below meth c H locs cls hinj hC hmK hP hS hL
end zRows3
end
section
/-! the rows joined: 'zst_ok'; a contract out of its body: 'zCt_of'; straight stretches at once: 'zvc' -/
theorem zst_ok {d mi pc : Nat} {I : zMI} {ls : List (Option zV)} {st : List zV} {M : zMem} {Q : Option zV → zMem → Prop} {K : Nat → List (Option zV) → List zV → zMem → Prop} {x : Instr × Nat × Int × Nat × Nat × Nat} (hA : zAt mi I pc x) (hK : zKp d mi Q K) (h : zst d I Q pc ls st M x K) : zBg d mi pc ls st M Q := by
  obtain ⟨ins, n, a, b, c, e⟩ := x
  cases ins with
  | iconst k => exact zs_iconst hA hK h
  | bipush k => exact zs_bipush hA hK h
  | sipush k => exact zs_sipush hA hK h
  | ldc k => exact zs_ldc hA hK h
  | ldc_w k => exact zs_ldc_w hA hK h
  | ldc2_w k => exact zs_ldc2_w hA hK h
  | lconst k => exact zs_lconst hA hK h
  | iload k => exact zs_iload hA hK h
  | iload_n k => exact zs_iload_n hA hK h
  | lload k => exact zs_lload hA hK h
  | lload_n k => exact zs_lload_n hA hK h
  | aload k => exact zs_aload hA hK h
  | aload_n k => exact zs_aload_n hA hK h
  | istore k => exact zs_istore hA hK h
  | istore_n k => exact zs_istore_n hA hK h
  | lstore k => exact zs_lstore hA hK h
  | lstore_n k => exact zs_lstore_n hA hK h
  | astore k => exact zs_astore hA hK h
  | astore_n k => exact zs_astore_n hA hK h
  | iinc k j => exact zs_iinc hA hK h
  | iadd => exact zs_iadd hA hK h
  | isub => exact zs_isub hA hK h
  | imul => exact zs_imul hA hK h
  | iand => exact zs_iand hA hK h
  | ior => exact zs_ior hA hK h
  | ixor => exact zs_ixor hA hK h
  | ishl => exact zs_ishl hA hK h
  | ishr => exact zs_ishr hA hK h
  | iushr => exact zs_iushr hA hK h
  | idiv => exact zs_idiv hA hK h
  | irem => exact zs_irem hA hK h
  | i2b => exact zs_i2b hA hK h
  | i2s => exact zs_i2s hA hK h
  | i2l => exact zs_i2l hA hK h
  | l2i => exact zs_l2i hA hK h
  | ladd => exact zs_ladd hA hK h
  | lsub => exact zs_lsub hA hK h
  | lmul => exact zs_lmul hA hK h
  | land => exact zs_land hA hK h
  | lor => exact zs_lor hA hK h
  | lxor => exact zs_lxor hA hK h
  | lshl => exact zs_lshl hA hK h
  | lshr => exact zs_lshr hA hK h
  | lushr => exact zs_lushr hA hK h
  | lcmp => exact zs_lcmp hA hK h
  | dup => exact zs_dup hA hK h
  | dup2 => exact zs_dup2 hA hK h
  | ifCond q off => exact zs_ifCond hA hK h
  | if_icmp q off => exact zs_if_icmp hA hK h
  | goto off => exact zs_goto hA hK h
  | tableswitch df lo hi offs => exact zs_tableswitch hA hK h
  | getfield k => exact zs_getfield hA hK h
  | putfield k => exact zs_putfield hA hK h
  | iaload => exact zs_iaload hA hK h
  | baload => exact zs_baload hA hK h
  | laload => exact zs_laload hA hK h
  | iastore => exact zs_iastore hA hK h
  | bastore => exact zs_bastore hA hK h
  | lastore => exact zs_lastore hA hK h
  | arraylength => exact zs_arraylength hA hK h
  | invokevirtual k => exact zs_invokevirtual hA hK h
  | invokestatic k => exact zs_invokestatic hA hK h
  | ireturn => exact zs_ireturn hA h
  | lreturn => exact zs_lreturn hA h
  | areturn => exact zs_areturn hA h
  | return_ => exact zs_return hA h
  | _ => exact (show False from h).elim
def zargs : List zV → List (Option zV)
  | [] => []
  | .inr (.inl x) :: r => zL x :: none :: zargs r
  | v :: r => some v :: zargs r
def zent (n : Nat) (av : List zV) : List (Option zV) := zargs av ++ List.replicate (n - (zargs av).length) none
theorem zlv_none {ad : Nat → Nat} : ∀ (k i : Nat), zlv ad i (List.replicate k none) = [] := by
  intro k
  induction k with
  | zero => intro i; rfl
  | succ k ih => intro i; rw [List.replicate_succ]; exact ih (i + 1)
theorem zargs_lv {ad : Nat → Nat} {k : Nat} : ∀ (av : List zV) (i : Nat), zlv ad i (zargs av ++ List.replicate k none) = lv_args i (av.map (zcv ad)) := by
  intro av
  induction av with
  | nil => intro i; simp [zargs, lv_args, zlv_none]
  | cons v r ih =>
    intro i
    rcases v with x | x | x
    · simp only [zargs, List.cons_append, zlv, List.map_cons, lv_args, ih]
      simp [zcv, Value.category]
    · simp only [zargs, List.cons_append, zlv, List.map_cons, lv_args, ih]
      simp [zcv, Value.category]
    · simp only [zargs, List.cons_append, zlv, List.map_cons, lv_args, ih]
      simp [zcv, Value.category]
theorem zargs_len {ad : Nat → Nat} : ∀ (av : List zV), (lg_sl (av.map (zcv ad))).length = (zargs av).length := by
  intro av
  induction av with
  | nil => rfl
  | cons v r ih =>
    unfold lg_sl at ih ⊢
    rcases v with x | x | x
    · simp only [List.map_cons, List.flatMap_cons, List.length_append, ih, zargs, List.length_cons]
      simp [zcv, Value.category]
      omega
    · simp only [List.map_cons, List.flatMap_cons, List.length_append, ih, zargs, List.length_cons]
      simp [zcv, Value.category]
      omega
    · simp only [List.map_cons, List.flatMap_cons, List.length_append, ih, zargs, List.length_cons]
      simp [zcv, Value.category]
      omega
theorem zargs_rg0 : ∀ {av : List zV}, (∀ v ∈ av, zrg v) → ∀ v, some v ∈ zargs av → zrg v := by
  intro av
  induction av with
  | nil => intro h v hv; cases hv
  | cons w r ih =>
    intro h v hv
    have h2 := zrgt h
    rcases w with x | x | x
    · simp only [zargs, List.mem_cons, Option.some.injEq] at hv
      rcases hv with rfl | hv
      · exact zrgh h
      · exact ih h2 v hv
    · simp only [zargs, List.mem_cons, Option.some.injEq] at hv
      rcases hv with rfl | hv | hv
      · exact zrgh h
      · cases hv
      · exact ih h2 v hv
    · simp only [zargs, List.mem_cons, Option.some.injEq] at hv
      rcases hv with rfl | hv
      · exact zrgh h
      · exact ih h2 v hv
theorem zargs_rg {av : List zV} {k : Nat} (h : ∀ v ∈ av, zrg v) : ∀ v, some v ∈ zargs av ++ List.replicate k none → zrg v := by
  intro v hv
  rcases List.mem_append.mp hv with h1 | h1
  · exact zargs_rg0 h v h1
  · exact absurd (List.eq_of_mem_replicate h1) (by simp)
theorem zCt_of {d mi : Nat} {I : zMI} {av : List zV} {M : zMem} {Q : Option zV → zMem → Prop} (hI : zMT[mi]? = some I) (hlen : Nat.ble (zargs av).length I.2.2.1 = true) (h : zBg d mi 0 (zent I.2.2.1 av) [] M Q) : zCt d mi av M Q := by
  intro I' hI' hM hav l D cA ad hinj
  have hII := Option.some.inj (hI.symm.trans hI')
  subst hII
  have hle : (zargs av).length ≤ I.2.2.1 := Nat.le_of_ble_eq_true hlen
  refine Met.ofW (cc := I.2.1) (maxL := I.2.2.1) (ret := I.2.2.2.1) (zJ hI).2.2.2.1 rfl ?_
  intro p e s m args below meth c s₁ B hml hv
  obtain ⟨rfl, hnw, hP, hK⟩ := hv
  have hx := B.exec
  have hb := B.bytes
  have hr := B.returns
  have hts := atoms_spec (ws := zws I) B.pre
  have hown : s.vm.findClass I.1.cls = some m.cls := findClass_of_methodNamed B.named
  have hlocks := B.notSynchronized
  rw [lg_entry_eq]
  have hl := lv_entry (av.map (zcv ad)) (n := I.2.2.1) (by rw [zargs_len]; exact hle)
  exact h hM (fun v hv => by cases hv) (zargs_rg hav) I hI (by unfold zent; simp; omega) l D cA ad p e s m _ below meth c s.heap [] _ hinj ⟨hx, hb, hml, hown, fun w hw => hts w (List.mem_cons_of_mem _ hw), hnw, hr, hlocks⟩ hK hP va_S.rf (by unfold zent; rw [zargs_lv]; exact hl)
def zmask : List Bool → List (Option zV) → List (Option zV)
  | true :: m, v :: l => v :: zmask m l
  | false :: m, _ :: l => none :: zmask m l
  | _, l => l
def zcut : Nat → List (Nat × List Bool) → Option (List Bool)
  | _, [] => none
  | pc, e :: r => bif Nat.beq e.1 pc then some e.2 else zcut pc r
theorem zmask_len : ∀ (m : List Bool) (l : List (Option zV)), (zmask m l).length = l.length := by
  intro m
  induction m with
  | nil => intro l; cases l <;> rfl
  | cons b m ih =>
    intro l
    cases l with
    | nil => cases b <;> rfl
    | cons v l => cases b <;> simp [zmask, ih]
theorem zmask_sub : ∀ (m : List Bool) (l : List (Option zV)) (j : Nat) (v : zV), (zmask m l)[j]? = some (some v) → l[j]? = some (some v) := by
  intro m
  induction m with
  | nil => intro l j v h; cases l <;> exact h
  | cons b m ih =>
    intro l j v h
    cases l with
    | nil => cases b <;> exact h
    | cons w l =>
      cases b with
      | true =>
        cases j with
        | zero => exact h
        | succ j => exact ih l j v (by simpa [zmask] using h)
      | false =>
        cases j with
        | zero => simp [zmask] at h
        | succ j => exact ih l j v (by simpa [zmask] using h)
def zvc (d mi : Nat) (I : zMI) (Q : Option zV → zMem → Prop) (cuts : List (Nat × List Bool)) : Nat → Nat → List (Option zV) → List zV → zMem → Prop
  | 0, _, _, _, _ => False
  | n + 1, pc, ls, st, M => match zlook pc I.2.2.2.2.2.2.2 with
    | none => False
    | some x => zst d I Q pc ls st M x (fun pc' ls' st' M' => match zcut pc' cuts with
      | some mask => zBg d mi pc' (zmask mask ls') st' M' Q
      | none => zvc d mi I Q cuts n pc' ls' st' M')
theorem zvc_ok {d mi : Nat} {I : zMI} {Q : Option zV → zMem → Prop} {cuts : List (Nat × List Bool)} (hI : zMT[mi]? = some I) : ∀ {n pc : Nat} {ls : List (Option zV)} {st : List zV} {M : zMem}, zvc d mi I Q cuts n pc ls st M → zBg d mi pc ls st M Q := by
  intro n
  induction n with
  | zero => intro pc ls st M h; exact (show False from h).elim
  | succ n ih =>
    intro pc ls st M h
    unfold zvc at h
    split at h
    · exact h.elim
    · rename_i x hx
      refine zst_ok ⟨hI, hx⟩ (fun pc' ls' st' M' hk => ?_) h
      split at hk
      · exact zBg.weak (zmask_len _ _) (zmask_sub _ _) hk
      · exact ih hk
end
section
/-! CommaCopies$Chance.spread(LCommaCopies$State;)V , as 0 -/
set_option maxRecDepth 20000 in
theorem zv0_0 {d : Nat} {M : zMem} {Q : Option zV → zMem → Prop} (h :
  ∃ Q1, zCv d 182 [.inr (.inr 50), .inl 0] M Q1 ∧ ∀ M1, Q1 M1 →
  (0 : Int) ≤ 0 ∧ (0 : Int) < 7 ∧ zBg (d + 1) 0 17 [zR 49, zR 4, zI 0, none, none, none] [] (zup M1 50 0 1) Q) : zBg (d + 1) 0 0 [zR 49, zR 4, none, none, none, none] [] M Q :=
  zvc_ok (I := zm0) (cuts := [(17, [true, true, true, false, false, false]), (61, [true, true, true, true, true, true])]) (n := 75) rfl h
set_option maxRecDepth 20000 in
theorem zv0_17 {d : Nat} {M : zMem} {Q : Option zV → zMem → Prop} (x2 : Int) (h :
  ((x2 : Int) ≥ (M 13 6) →
    Q none M) ∧
  (¬ (x2 : Int) ≥ (M 13 6) →
    (0 : Int) ≤ x2 ∧ (x2 : Int) < 6 ∧ ((M 8 x2.toNat : Int) ≥ 4 →
      (0 : Int) ≤ x2 ∧ (x2 : Int) < 6 ∧ zR32 ((M 15 x2.toNat) - 0) ∧ zBg d 0 61 [zR 49, zR 4, zI x2, zI 0, zI ((M 15 x2.toNat) - 0), zI 6] [] M Q) ∧
    (¬ (M 8 x2.toNat : Int) ≥ 4 →
      (0 : Int) ≤ x2 ∧ (x2 : Int) < 6 ∧ zR32 ((M 15 x2.toNat) - 1) ∧ zBg d 0 61 [zR 49, zR 4, zI x2, zI 1, zI ((M 15 x2.toNat) - 1), zI 6] [] M Q))) : zBg d 0 17 [zR 49, zR 4, zI x2, none, none, none] [] M Q :=
  zvc_ok (I := zm0) (cuts := [(17, [true, true, true, false, false, false]), (61, [true, true, true, true, true, true])]) (n := 75) rfl h
set_option maxRecDepth 20000 in
theorem zv0_61 {d : Nat} {M : zMem} {Q : Option zV → zMem → Prop} (x2 : Int) (x3 : Int) (x4 : Int) (x5 : Int) (h :
  ((x5 : Int) ≤ 0 →
    (0 : Int) ≤ 0 ∧ (0 : Int) < 7 ∧ zR32 ((M 50 0) * x4) ∧ (0 : Int) ≤ 0 ∧ (0 : Int) < 7 ∧ zR32 (x2 + 1) ∧ zBg d 0 17 [zR 49, zR 4, zI (x2 + 1), none, none, none] [] (zup M 50 0 ((M 50 0) * x4)) Q) ∧
  (¬ (x5 : Int) ≤ 0 →
    (0 : Int) ≤ x5 ∧ (x5 : Int) < 7 ∧ zR32 ((M 50 x5.toNat) * x4) ∧ zR32 (x5 - 1) ∧ (0 : Int) ≤ (x5 - 1) ∧ (x5 - 1 : Int) < 7 ∧ zR32 ((M 50 ((x5 - 1).toNat)) * x3) ∧ zR32 (((M 50 x5.toNat) * x4) + ((M 50 ((x5 - 1).toNat)) * x3)) ∧ (0 : Int) ≤ x5 ∧ (x5 : Int) < 7 ∧ zR32 (x5 + (-1)) ∧ zBg d 0 61 [zR 49, zR 4, zI x2, zI x3, zI x4, zI (x5 + (-1))] [] (zup M 50 x5.toNat (((M 50 x5.toNat) * x4) + ((M 50 ((x5 - 1).toNat)) * x3))) Q)) : zBg d 0 61 [zR 49, zR 4, zI x2, zI x3, zI x4, zI x5] [] M Q :=
  zvc_ok (I := zm0) (cuts := [(17, [true, true, true, false, false, false]), (61, [true, true, true, true, true, true])]) (n := 75) rfl h
theorem zk0 {d : Nat} {M : zMem} {Q : Option zV → zMem → Prop} (h : zBg d 0 0 [zR 49, zR 4, none, none, none, none] [] M Q) : zCt d 0 [.inr (.inr 49), .inr (.inr 4)] M Q := zCt_of (I := zm0) rfl rfl h
/-! CommaCopies$Chance.atLeast(I)I , as 1 -/
set_option maxRecDepth 20000 in
theorem zv1_0 {d : Nat} {M : zMem} {Q : Option zV → zMem → Prop} (x1 : Int) (h :
  zBg d 1 4 [zR 49, none, zI 0, zI x1] [] M Q) : zBg d 1 0 [zR 49, zI x1, none, none] [] M Q :=
  zvc_ok (I := zm1) (cuts := [(4, [true, false, true, true])]) (n := 23) rfl h
set_option maxRecDepth 20000 in
theorem zv1_4 {d : Nat} {M : zMem} {Q : Option zV → zMem → Prop} (x2 : Int) (x3 : Int) (h :
  ((x3 : Int) > 6 →
    Q (zI x2) M) ∧
  (¬ (x3 : Int) > 6 →
    (0 : Int) ≤ x3 ∧ (x3 : Int) < 7 ∧ zR32 (x2 + (M 50 x3.toNat)) ∧ zR32 (x3 + 1) ∧ zBg d 1 4 [zR 49, none, zI (x2 + (M 50 x3.toNat)), zI (x3 + 1)] [] M Q)) : zBg d 1 4 [zR 49, none, zI x2, zI x3] [] M Q :=
  zvc_ok (I := zm1) (cuts := [(4, [true, false, true, true])]) (n := 23) rfl h
theorem zk1 {d : Nat} {M : zMem} {Q : Option zV → zMem → Prop} {x1 : Int} (h : zBg d 1 0 [zR 49, zI x1, none, none] [] M Q) : zCt d 1 [.inr (.inr 49), .inl x1] M Q := zCt_of (I := zm1) rfl rfl h
/-! CommaCopies$Chance.reduced(II)I , as 2 -/
set_option maxRecDepth 20000 in
theorem zv2_0 {d : Nat} {M : zMem} {Q : Option zV → zMem → Prop} (x1 : Int) (x2 : Int) (h :
  ∃ Q1, zCi d 1 [.inr (.inr 49), .inl x1] M Q1 ∧ ∀ v1 M1, Q1 v1 M1 →
  ∃ Q2, zCi d 1 [.inr (.inr 49), .inl 0] M1 Q2 ∧ ∀ v2 M2, Q2 v2 M2 →
  ∃ Q3, zCi d 3 [.inl v2, .inl v1] M2 Q3 ∧ ∀ v3 M3, Q3 v3 M3 →
  ((v3 : Int) ≥ 1 →
    ((x2 : Int) ≠ 0 →
      (v3 : Int) ≠ 0 ∧ Q (zI (zidiv v2 v3)) M3) ∧
    (¬ (x2 : Int) ≠ 0 →
      (v3 : Int) ≠ 0 ∧ Q (zI (zidiv v1 v3)) M3)) ∧
  (¬ (v3 : Int) ≥ 1 →
    Q (zI (-4)) M3)) : zBg (d + 1) 2 0 [zR 49, zI x1, zI x2, none, none, none] [] M Q :=
  zvc_ok (I := zm2) (cuts := []) (n := 30) rfl h
theorem zk2 {d : Nat} {M : zMem} {Q : Option zV → zMem → Prop} {x1 : Int} {x2 : Int} (h : zBg d 2 0 [zR 49, zI x1, zI x2, none, none, none] [] M Q) : zCt d 2 [.inr (.inr 49), .inl x1, .inl x2] M Q := zCt_of (I := zm2) rfl rfl h
/-! CommaCopies$Chance.commonDivisor(II)I , as 3 -/
set_option maxRecDepth 20000 in
theorem zv3_0 {d : Nat} {M : zMem} {Q : Option zV → zMem → Prop} (x0 : Int) (x1 : Int) (h :
  zBg d 3 7 [none, none, zI x0, zI x1, zI 0, none] [] M Q) : zBg d 3 0 [zI x0, zI x1, none, none, none, none] [] M Q :=
  zvc_ok (I := zm3) (cuts := [(7, [false, false, true, true, true, false])]) (n := 28) rfl h
set_option maxRecDepth 20000 in
theorem zv3_7 {d : Nat} {M : zMem} {Q : Option zV → zMem → Prop} (x2 : Int) (x3 : Int) (x4 : Int) (h :
  ((x4 : Int) ≥ 64 →
    Q (zI x2) M) ∧
  (¬ (x4 : Int) ≥ 64 →
    ((x3 : Int) ≤ 0 →
      Q (zI x2) M) ∧
    (¬ (x3 : Int) ≤ 0 →
      (x3 : Int) ≠ 0 ∧ zR32 (x4 + 1) ∧ zBg d 3 7 [none, none, zI x3, zI (zirem x2 x3), zI (x4 + 1), none] [] M Q))) : zBg d 3 7 [none, none, zI x2, zI x3, zI x4, none] [] M Q :=
  zvc_ok (I := zm3) (cuts := [(7, [false, false, true, true, true, false])]) (n := 28) rfl h
theorem zk3 {d : Nat} {M : zMem} {Q : Option zV → zMem → Prop} {x0 : Int} {x1 : Int} (h : zBg d 3 0 [zI x0, zI x1, none, none, none, none] [] M Q) : zCt d 3 [.inl x0, .inl x1] M Q := zCt_of (I := zm3) rfl rfl h
/-! CommaCopies$Chance.leastBar(I)I , as 4 -/
set_option maxRecDepth 20000 in
theorem zv4_0 {d : Nat} {M : zMem} {Q : Option zV → zMem → Prop} (x1 : Int) (h :
  ∃ Q1, zCi d 1 [.inr (.inr 49), .inl 0] M Q1 ∧ ∀ v1 M1, Q1 v1 M1 →
  zBg (d + 1) 4 8 [zR 49, zI x1, zI v1, zI 0] [] M1 Q) : zBg (d + 1) 4 0 [zR 49, zI x1, none, none] [] M Q :=
  zvc_ok (I := zm4) (cuts := [(8, [true, true, true, true])]) (n := 27) rfl h
set_option maxRecDepth 20000 in
theorem zv4_8 {d : Nat} {M : zMem} {Q : Option zV → zMem → Prop} (x1 : Int) (x2 : Int) (x3 : Int) (h :
  ((x3 : Int) > 6 →
    Q (zI (-4)) M) ∧
  (¬ (x3 : Int) > 6 →
    ∃ Q1, zCi d 1 [.inr (.inr 49), .inl x3] M Q1 ∧ ∀ v1 M1, Q1 v1 M1 →
    zR32 (v1 * x1) ∧ ((v1 * x1 : Int) > x2 →
      zR32 (x3 + 1) ∧ zBg (d + 1) 4 8 [zR 49, zI x1, zI x2, zI (x3 + 1)] [] M1 Q) ∧
    (¬ (v1 * x1 : Int) > x2 →
      Q (zI x3) M1))) : zBg (d + 1) 4 8 [zR 49, zI x1, zI x2, zI x3] [] M Q :=
  zvc_ok (I := zm4) (cuts := [(8, [true, true, true, true])]) (n := 27) rfl h
theorem zk4 {d : Nat} {M : zMem} {Q : Option zV → zMem → Prop} {x1 : Int} (h : zBg d 4 0 [zR 49, zI x1, none, none] [] M Q) : zCt d 4 [.inr (.inr 49), .inl x1] M Q := zCt_of (I := zm4) rfl rfl h
/-! CommaCopies$Hiding.seek(LCommaCopies$Joins;II)V , as 5 -/
set_option maxRecDepth 20000 in
theorem zv5_0 {d : Nat} {M : zMem} {Q : Option zV → zMem → Prop} (x2 : Int) (x3 : Int) (h :
  ∃ Q1, zCv d 182 [.inr (.inr 52), .inl 0] M Q1 ∧ ∀ M1, Q1 M1 →
  zBg (d + 1) 5 11 [zR 51, zR 42, zI x2, zI x3, zI 0] [] M1 Q) : zBg (d + 1) 5 0 [zR 51, zR 42, zI x2, zI x3, none] [] M Q :=
  zvc_ok (I := zm5) (cuts := [(11, [true, true, true, true, true])]) (n := 47) rfl h
set_option maxRecDepth 20000 in
theorem zv5_11 {d : Nat} {M : zMem} {Q : Option zV → zMem → Prop} (x2 : Int) (x3 : Int) (x4 : Int) (h :
  ((x4 : Int) ≥ (M 42 5) →
    ∃ Q1, zCi d 12 [.inr (.inr 42), .inl x2] (zup M 51 3 7) Q1 ∧ ∀ v1 M1, Q1 v1 M1 →
    ∃ Q2, zCv d 7 [.inr (.inr 51), .inl 0, .inl x3, .inl v1, .inl 0] M1 Q2 ∧ ∀ M2, Q2 M2 →
    Q none M2) ∧
  (¬ (x4 : Int) ≥ (M 42 5) →
    ((ziand (zishr x2 x4) 1 : Int) ≠ 1 →
      zR32 (x4 + 1) ∧ zBg (d + 1) 5 11 [zR 51, zR 42, zI x2, zI x3, zI (x4 + 1)] [] M Q) ∧
    (¬ (ziand (zishr x2 x4) 1 : Int) ≠ 1 →
      (0 : Int) ≤ x4 ∧ (x4 : Int) < 8 ∧ zR32 (4 * x4) ∧ ∃ Q3, zCv d 6 [.inr (.inr 51), .inl (M 43 x4.toNat), .inl (zishl 1 (4 * x4))] M Q3 ∧ ∀ M3, Q3 M3 →
      zR32 (x4 + 1) ∧ zBg (d + 1) 5 11 [zR 51, zR 42, zI x2, zI x3, zI (x4 + 1)] [] M3 Q))) : zBg (d + 1) 5 11 [zR 51, zR 42, zI x2, zI x3, zI x4] [] M Q :=
  zvc_ok (I := zm5) (cuts := [(11, [true, true, true, true, true])]) (n := 47) rfl h
theorem zk5 {d : Nat} {M : zMem} {Q : Option zV → zMem → Prop} {x2 : Int} {x3 : Int} (h : zBg d 5 0 [zR 51, zR 42, zI x2, zI x3, none] [] M Q) : zCt d 5 [.inr (.inr 51), .inr (.inr 42), .inl x2, .inl x3] M Q := zCt_of (I := zm5) rfl rfl h
/-! CommaCopies$Hiding.addGains(II)V , as 6 -/
set_option maxRecDepth 20000 in
theorem zv6_0 {d : Nat} {M : zMem} {Q : Option zV → zMem → Prop} (x1 : Int) (x2 : Int) (h :
  zBg d 6 2 [zR 51, zI x1, zI x2, zI 0] [] M Q) : zBg d 6 0 [zR 51, zI x1, zI x2, none] [] M Q :=
  zvc_ok (I := zm6) (cuts := [(2, [true, true, true, true])]) (n := 30) rfl h
set_option maxRecDepth 20000 in
theorem zv6_2 {d : Nat} {M : zMem} {Q : Option zV → zMem → Prop} (x1 : Int) (x2 : Int) (x3 : Int) (h :
  ((x3 : Int) ≥ 30 →
    Q none M) ∧
  (¬ (x3 : Int) ≥ 30 →
    ((ziand (zishr x1 x3) 1 : Int) ≠ 1 →
      zR32 (x3 + 1) ∧ zBg d 6 2 [zR 51, zI x1, zI x2, zI (x3 + 1)] [] M Q) ∧
    (¬ (ziand (zishr x1 x3) 1 : Int) ≠ 1 →
      (0 : Int) ≤ x3 ∧ (x3 : Int) < 30 ∧ zR32 ((M 52 x3.toNat) + x2) ∧ (0 : Int) ≤ x3 ∧ (x3 : Int) < 30 ∧ zR32 (x3 + 1) ∧ zBg d 6 2 [zR 51, zI x1, zI x2, zI (x3 + 1)] [] (zup M 52 x3.toNat ((M 52 x3.toNat) + x2)) Q))) : zBg d 6 2 [zR 51, zI x1, zI x2, zI x3] [] M Q :=
  zvc_ok (I := zm6) (cuts := [(2, [true, true, true, true])]) (n := 30) rfl h
theorem zk6 {d : Nat} {M : zMem} {Q : Option zV → zMem → Prop} {x1 : Int} {x2 : Int} (h : zBg d 6 0 [zR 51, zI x1, zI x2, none] [] M Q) : zCt d 6 [.inr (.inr 51), .inl x1, .inl x2] M Q := zCt_of (I := zm6) rfl rfl h
/-! CommaCopies$Hiding.walk(IIII)V , as 7 -/
set_option maxRecDepth 20000 in
theorem zv7_0 {d : Nat} {M : zMem} {Q : Option zV → zMem → Prop} (x1 : Int) (x2 : Int) (x3 : Int) (x4 : Int) (h :
  ∃ Q1, zCi d 8 [.inl x4] M Q1 ∧ ∀ v1 M1, Q1 v1 M1 →
  ((v1 : Int) < (M1 51 3) →
    ((x1 : Int) ≥ x2 →
      (0 : Int) ≤ 0 ∧ (0 : Int) ≤ 0 ∧ (0 : Int) ≤ 6 ∧ (0 : Int) + 6 ≤ 6 ∧ (0 : Int) + 6 ≤ 6 ∧ Q none (zcpy (zup M1 51 3 v1) 53 0 54 0 6)) ∧
    (¬ (x1 : Int) ≥ x2 →
      ((x1 : Int) < 6 →
        zBg (d + 1) 7 53 [zR 51, zI x1, zI x2, zI x3, zI x4, none, zI 0, none] [] M1 Q) ∧
      (¬ (x1 : Int) < 6 →
        (0 : Int) ≤ 0 ∧ (0 : Int) ≤ 0 ∧ (0 : Int) ≤ 6 ∧ (0 : Int) + 6 ≤ 6 ∧ (0 : Int) + 6 ≤ 6 ∧ Q none (zcpy (zup M1 51 3 v1) 53 0 54 0 6)))) ∧
  (¬ (v1 : Int) < (M1 51 3) →
    Q none M1)) : zBg (d + 1) 7 0 [zR 51, zI x1, zI x2, zI x3, zI x4, none, none, none] [] M Q :=
  zvc_ok (I := zm7) (cuts := [(53, [true, true, true, true, true, false, true, false])]) (n := 70) rfl h
set_option maxRecDepth 20000 in
theorem zv7_53 {d : Nat} {M : zMem} {Q : Option zV → zMem → Prop} (x1 : Int) (x2 : Int) (x3 : Int) (x4 : Int) (x6 : Int) (h :
  ((x6 : Int) ≥ 5 →
    Q none M) ∧
  (¬ (x6 : Int) ≥ 5 →
    zR32 (x1 * 5) ∧ zR32 ((x1 * 5) + x6) ∧ ((ziand (zishr x3 ((x1 * 5) + x6)) 1 : Int) ≠ 1 →
      zR32 (x6 + 1) ∧ zBg (d + 1) 7 53 [zR 51, zI x1, zI x2, zI x3, zI x4, none, zI (x6 + 1), none] [] M Q) ∧
    (¬ (ziand (zishr x3 ((x1 * 5) + x6)) 1 : Int) ≠ 1 →
      (0 : Int) ≤ x1 ∧ (x1 : Int) < 6 ∧ zR32 (x1 + 1) ∧ (0 : Int) ≤ ((x1 * 5) + x6) ∧ ((x1 * 5) + x6 : Int) < 30 ∧ zR32 (x4 + (M 52 (((x1 * 5) + x6).toNat))) ∧ ∃ Q1, zCv d 7 [.inr (.inr 51), .inl (x1 + 1), .inl x2, .inl x3, .inl (x4 + (M 52 (((x1 * 5) + x6).toNat)))] (zup M 53 x1.toNat x6) Q1 ∧ ∀ M1, Q1 M1 →
      zR32 (x6 + 1) ∧ zBg (d + 1) 7 53 [zR 51, zI x1, zI x2, zI x3, zI x4, none, zI (x6 + 1), none] [] M1 Q))) : zBg (d + 1) 7 53 [zR 51, zI x1, zI x2, zI x3, zI x4, none, zI x6, none] [] M Q :=
  zvc_ok (I := zm7) (cuts := [(53, [true, true, true, true, true, false, true, false])]) (n := 70) rfl h
theorem zk7 {d : Nat} {M : zMem} {Q : Option zV → zMem → Prop} {x1 : Int} {x2 : Int} {x3 : Int} {x4 : Int} (h : zBg d 7 0 [zR 51, zI x1, zI x2, zI x3, zI x4, none, none, none] [] M Q) : zCt d 7 [.inr (.inr 51), .inl x1, .inl x2, .inl x3, .inl x4] M Q := zCt_of (I := zm7) rfl rfl h
/-! CommaCopies$Hiding.highest(I)I , as 8 -/
set_option maxRecDepth 20000 in
theorem zv8_0 {d : Nat} {M : zMem} {Q : Option zV → zMem → Prop} (x0 : Int) (h :
  zBg d 8 4 [zI x0, zI 0, zI 0] [] M Q) : zBg d 8 0 [zI x0, none, none] [] M Q :=
  zvc_ok (I := zm8) (cuts := [(4, [true, true, true])]) (n := 26) rfl h
set_option maxRecDepth 20000 in
theorem zv8_4 {d : Nat} {M : zMem} {Q : Option zV → zMem → Prop} (x0 : Int) (x1 : Int) (x2 : Int) (h :
  ((x2 : Int) ≥ 8 →
    Q (zI x1) M) ∧
  (¬ (x2 : Int) ≥ 8 →
    zR32 (4 * x2) ∧ zR32 (x2 + 1) ∧ zBg d 8 4 [zI x0, zI (if x1 < (ziand (ziushr x0 (4 * x2)) 15) then (ziand (ziushr x0 (4 * x2)) 15) else x1), zI (x2 + 1)] [] M Q)) : zBg d 8 4 [zI x0, zI x1, zI x2] [] M Q :=
  zvc_ok (I := zm8) (cuts := [(4, [true, true, true])]) (n := 26) rfl h
theorem zk8 {d : Nat} {M : zMem} {Q : Option zV → zMem → Prop} {x0 : Int} (h : zBg d 8 0 [zI x0, none, none] [] M Q) : zCt d 8 [.inl x0] M Q := zCt_of (I := zm8) rfl rfl h
/-! CommaCopies$Joins.look(LCommaCopies$State;II)V , as 9 -/
set_option maxRecDepth 20000 in
theorem zv9_0 {d : Nat} {M : zMem} {Q : Option zV → zMem → Prop} (x2 : Int) (x3 : Int) (h :
  zBg d 9 36 [zR 42, zR 4, none, none, zI 0] [] (zup (zup (zup (zup (zup (zup M 42 6 x2) 42 7 x3) 42 5 (M 4 9)) 42 8 0) 42 9 0) 42 10 0) Q) : zBg d 9 0 [zR 42, zR 4, zI x2, zI x3, none] [] M Q :=
  zvc_ok (I := zm9) (cuts := [(36, [true, true, false, false, true]), (133, [true, true, false, false, true])]) (n := 101) rfl h
set_option maxRecDepth 20000 in
theorem zv9_36 {d : Nat} {M : zMem} {Q : Option zV → zMem → Prop} (x4 : Int) (h :
  ((x4 : Int) ≥ (M 13 6) →
    zBg d 9 133 [zR 42, zR 4, none, none, zI 0] [] M Q) ∧
  (¬ (x4 : Int) ≥ (M 13 6) →
    zR32 (5 * x4) ∧ (0 : Int) ≤ x4 ∧ (x4 : Int) < 6 ∧ zR32 ((zishl 1 (M 15 x4.toNat)) - 1) ∧ zR32 (5 * x4) ∧ (0 : Int) ≤ x4 ∧ (x4 : Int) < 6 ∧ ((M 6 x4.toNat : Int) < 0 →
      zR32 (x4 + 1) ∧ zBg d 9 36 [zR 42, zR 4, none, none, zI (x4 + 1)] [] (zup (zup M 42 8 (zior (M 42 8) (zishl 1 (5 * x4)))) 42 9 (zior (M 42 9) (zishl ((zishl 1 (M 15 x4.toNat)) - 1) (5 * x4)))) Q) ∧
    (¬ (M 6 x4.toNat : Int) < 0 →
      zR32 (5 * x4) ∧ (0 : Int) ≤ x4 ∧ (x4 : Int) < 6 ∧ zR32 ((5 * x4) + (M 6 x4.toNat)) ∧ zR32 (x4 + 1) ∧ zBg d 9 36 [zR 42, zR 4, none, none, zI (x4 + 1)] [] (zup (zup (zup M 42 8 (zior (M 42 8) (zishl 1 (5 * x4)))) 42 9 (zior (M 42 9) (zishl ((zishl 1 (M 15 x4.toNat)) - 1) (5 * x4)))) 42 10 (zior (M 42 10) (zishl 1 ((5 * x4) + (M 6 x4.toNat))))) Q))) : zBg d 9 36 [zR 42, zR 4, none, none, zI x4] [] M Q :=
  zvc_ok (I := zm9) (cuts := [(36, [true, true, false, false, true]), (133, [true, true, false, false, true])]) (n := 101) rfl h
set_option maxRecDepth 20000 in
theorem zv9_133 {d : Nat} {M : zMem} {Q : Option zV → zMem → Prop} (x4 : Int) (h :
  ((x4 : Int) ≥ (M 42 5) →
    Q none M) ∧
  (¬ (x4 : Int) ≥ (M 42 5) →
    zR32 (x4 * 6) ∧ ∃ Q1, zCi d 60 [.inr (.inr 4), .inr (.inr 7), .inl (x4 * 6)] M Q1 ∧ ∀ v1 M1, Q1 v1 M1 →
    (0 : Int) ≤ x4 ∧ (x4 : Int) < 8 ∧ zR32 (x4 + 1) ∧ zBg (d + 1) 9 133 [zR 42, zR 4, none, none, zI (x4 + 1)] [] (zup M1 43 x4.toNat v1) Q)) : zBg (d + 1) 9 133 [zR 42, zR 4, none, none, zI x4] [] M Q :=
  zvc_ok (I := zm9) (cuts := [(36, [true, true, false, false, true]), (133, [true, true, false, false, true])]) (n := 101) rfl h
theorem zk9 {d : Nat} {M : zMem} {Q : Option zV → zMem → Prop} {x2 : Int} {x3 : Int} (h : zBg d 9 0 [zR 42, zR 4, zI x2, zI x3, none] [] M Q) : zCt d 9 [.inr (.inr 42), .inr (.inr 4), .inl x2, .inl x3] M Q := zCt_of (I := zm9) rfl rfl h
/-! CommaCopies$Joins.list()V , as 10 -/
set_option maxRecDepth 20000 in
theorem zv10_0 {d : Nat} {M : zMem} {Q : Option zV → zMem → Prop} (h :
  zBg d 10 7 [zR 42, zI 1, none] [] (zup M 42 4 0) Q) : zBg d 10 0 [zR 42, none, none] [] M Q :=
  zvc_ok (I := zm10) (cuts := [(7, [true, true, false]), (17, [true, true, true])]) (n := 67) rfl h
set_option maxRecDepth 20000 in
theorem zv10_7 {d : Nat} {M : zMem} {Q : Option zV → zMem → Prop} (x1 : Int) (h :
  ((x1 : Int) > (M 42 6) →
    Q none M) ∧
  (¬ (x1 : Int) > (M 42 6) →
    zBg d 10 17 [zR 42, zI x1, zI 1] [] M Q)) : zBg d 10 7 [zR 42, zI x1, none] [] M Q :=
  zvc_ok (I := zm10) (cuts := [(7, [true, true, false]), (17, [true, true, true])]) (n := 67) rfl h
set_option maxRecDepth 20000 in
theorem zv10_17 {d : Nat} {M : zMem} {Q : Option zV → zMem → Prop} (x1 : Int) (x2 : Int) (h :
  ((x2 : Int) ≥ (zishl 1 (M 42 5)) →
    zR32 (x1 + 1) ∧ zBg (d + 1) 10 7 [zR 42, zI (x1 + 1), none] [] M Q) ∧
  (¬ (x2 : Int) ≥ (zishl 1 (M 42 5)) →
    ∃ Q1, zCi d 180 [.inl x2] M Q1 ∧ ∀ v1 M1, Q1 v1 M1 →
    ((v1 : Int) ≠ x1 →
      zR32 (x2 + 1) ∧ zBg (d + 1) 10 17 [zR 42, zI x1, zI (x2 + 1)] [] M1 Q) ∧
    (¬ (v1 : Int) ≠ x1 →
      ((M1 42 4 : Int) ≥ 92 →
        zR32 (x2 + 1) ∧ zBg (d + 1) 10 17 [zR 42, zI x1, zI (x2 + 1)] [] M1 Q) ∧
      (¬ (M1 42 4 : Int) ≥ 92 →
        (0 : Int) ≤ (M1 42 4) ∧ (M1 42 4 : Int) < 92 ∧ ∃ Q2, zCi d 11 [.inr (.inr 42), .inl x2] (zup M1 44 ((M1 42 4).toNat) x2) Q2 ∧ ∀ v2 M2, Q2 v2 M2 →
        (0 : Int) ≤ (M1 42 4) ∧ (M1 42 4 : Int) < 92 ∧ (0 : Int) ≤ (M2 42 4) ∧ (M2 42 4 : Int) < 92 ∧ ∃ Q3, zCi d 13 [.inr (.inr 42), .inl ((zup M2 45 ((M1 42 4).toNat) v2) 45 ((M2 42 4).toNat))] (zup M2 45 ((M1 42 4).toNat) v2) Q3 ∧ ∀ v3 M3, Q3 v3 M3 →
        (0 : Int) ≤ (M2 42 4) ∧ (M2 42 4 : Int) < 92 ∧ zR32 ((M3 42 4) + 1) ∧ zR32 (x2 + 1) ∧ zBg (d + 1) 10 17 [zR 42, zI x1, zI (x2 + 1)] [] (zup (zup M3 46 ((M2 42 4).toNat) v3) 42 4 ((M3 42 4) + 1)) Q)))) : zBg (d + 1) 10 17 [zR 42, zI x1, zI x2] [] M Q :=
  zvc_ok (I := zm10) (cuts := [(7, [true, true, false]), (17, [true, true, true])]) (n := 67) rfl h
theorem zk10 {d : Nat} {M : zMem} {Q : Option zV → zMem → Prop} (h : zBg d 10 0 [zR 42, none, none] [] M Q) : zCt d 10 [.inr (.inr 42)] M Q := zCt_of (I := zm10) rfl rfl h
/-! CommaCopies$Joins.unionOf(I)I , as 11 -/
set_option maxRecDepth 20000 in
theorem zv11_0 {d : Nat} {M : zMem} {Q : Option zV → zMem → Prop} (x1 : Int) (h :
  zBg d 11 4 [zR 42, zI x1, zI 0, zI 0] [] M Q) : zBg d 11 0 [zR 42, zI x1, none, none] [] M Q :=
  zvc_ok (I := zm11) (cuts := [(4, [true, true, true, true])]) (n := 31) rfl h
set_option maxRecDepth 20000 in
theorem zv11_4 {d : Nat} {M : zMem} {Q : Option zV → zMem → Prop} (x1 : Int) (x2 : Int) (x3 : Int) (h :
  ((x3 : Int) ≥ (M 42 5) →
    Q (zI x2) M) ∧
  (¬ (x3 : Int) ≥ (M 42 5) →
    ((ziand (zishr x1 x3) 1 : Int) ≠ 1 →
      zR32 (x3 + 1) ∧ zBg d 11 4 [zR 42, zI x1, zI x2, zI (x3 + 1)] [] M Q) ∧
    (¬ (ziand (zishr x1 x3) 1 : Int) ≠ 1 →
      (0 : Int) ≤ x3 ∧ (x3 : Int) < 8 ∧ zR32 (x3 + 1) ∧ zBg d 11 4 [zR 42, zI x1, zI (zior x2 (M 43 x3.toNat)), zI (x3 + 1)] [] M Q))) : zBg d 11 4 [zR 42, zI x1, zI x2, zI x3] [] M Q :=
  zvc_ok (I := zm11) (cuts := [(4, [true, true, true, true])]) (n := 31) rfl h
theorem zk11 {d : Nat} {M : zMem} {Q : Option zV → zMem → Prop} {x1 : Int} (h : zBg d 11 0 [zR 42, zI x1, none, none] [] M Q) : zCt d 11 [.inr (.inr 42), .inl x1] M Q := zCt_of (I := zm11) rfl rfl h
/-! CommaCopies$Joins.canOf(I)I , as 12 -/
set_option maxRecDepth 20000 in
theorem zv12_0 {d : Nat} {M : zMem} {Q : Option zV → zMem → Prop} (x1 : Int) (h :
  ∃ Q1, zCi d 11 [.inr (.inr 42), .inl x1] M Q1 ∧ ∀ v1 M1, Q1 v1 M1 →
  ∃ Q2, zCi d 13 [.inr (.inr 42), .inl v1] M1 Q2 ∧ ∀ v2 M2, Q2 v2 M2 →
  Q (zI v2) M2) : zBg (d + 1) 12 0 [zR 42, zI x1] [] M Q :=
  zvc_ok (I := zm12) (cuts := []) (n := 11) rfl h
theorem zk12 {d : Nat} {M : zMem} {Q : Option zV → zMem → Prop} {x1 : Int} (h : zBg d 12 0 [zR 42, zI x1] [] M Q) : zCt d 12 [.inr (.inr 42), .inl x1] M Q := zCt_of (I := zm12) rfl rfl h
/-! CommaCopies$Joins.widened(I)I , as 13 -/
set_option maxRecDepth 20000 in
theorem zv13_0 {d : Nat} {M : zMem} {Q : Option zV → zMem → Prop} (x1 : Int) (h :
  zR32 (x1 - (M 42 8)) ∧ zR32 ((ziand x1 (x1 - (M 42 8))) + 519552495) ∧ zR32 (16 * (M 42 8)) ∧ ((M 42 7 : Int) ≠ 1 →
    ((M 42 7 : Int) ≠ 2 →
      Q (zI (zior x1 (M 42 10))) M) ∧
    (¬ (M 42 7 : Int) ≠ 2 →
      Q (zI (zior (zior x1 (M 42 10)) (ziand ((ziand x1 (x1 - (M 42 8))) + 519552495) (16 * (M 42 8))))) M)) ∧
  (¬ (M 42 7 : Int) ≠ 1 →
    zR32 ((ziand ((ziand x1 (x1 - (M 42 8))) + 519552495) (16 * (M 42 8))) - (zishr (ziand ((ziand x1 (x1 - (M 42 8))) + 519552495) (16 * (M 42 8))) 4)) ∧ Q (zI (zior (zior x1 (M 42 10)) (ziand ((ziand ((ziand x1 (x1 - (M 42 8))) + 519552495) (16 * (M 42 8))) - (zishr (ziand ((ziand x1 (x1 - (M 42 8))) + 519552495) (16 * (M 42 8))) 4)) (M 42 9)))) M)) : zBg d 13 0 [zR 42, zI x1, none, none] [] M Q :=
  zvc_ok (I := zm13) (cuts := []) (n := 49) rfl h
theorem zk13 {d : Nat} {M : zMem} {Q : Option zV → zMem → Prop} {x1 : Int} (h : zBg d 13 0 [zR 42, zI x1, none, none] [] M Q) : zCt d 13 [.inr (.inr 42), .inl x1] M Q := zCt_of (I := zm13) rfl rfl h
/-! CommaCopies$Joins.madeBy(II)I , as 14 -/
set_option maxRecDepth 20000 in
theorem zv14_0 {d : Nat} {M : zMem} {Q : Option zV → zMem → Prop} (x1 : Int) (x2 : Int) (h :
  zBg d 14 5 [zR 42, zI x1, none, zI x2, zI 0] [] M Q) : zBg d 14 0 [zR 42, zI x1, zI x2, none, none] [] M Q :=
  zvc_ok (I := zm14) (cuts := [(5, [true, true, false, true, true])]) (n := 34) rfl h
set_option maxRecDepth 20000 in
theorem zv14_5 {d : Nat} {M : zMem} {Q : Option zV → zMem → Prop} (x1 : Int) (x3 : Int) (x4 : Int) (h :
  ((x4 : Int) ≥ (M 42 4) →
    Q (zI (-4)) M) ∧
  (¬ (x4 : Int) ≥ (M 42 4) →
    (0 : Int) ≤ x4 ∧ (x4 : Int) < 92 ∧ ((ziand x1 (zixor (M 46 x4.toNat) (-1)) : Int) ≠ 0 →
      zR32 (x4 + 1) ∧ zBg d 14 5 [zR 42, zI x1, none, zI x3, zI (x4 + 1)] [] M Q) ∧
    (¬ (ziand x1 (zixor (M 46 x4.toNat) (-1)) : Int) ≠ 0 →
      ((x3 : Int) ≠ 0 →
        zR32 (x3 + (-1)) ∧ zR32 (x4 + 1) ∧ zBg d 14 5 [zR 42, zI x1, none, zI (x3 + (-1)), zI (x4 + 1)] [] M Q) ∧
      (¬ (x3 : Int) ≠ 0 →
        (0 : Int) ≤ x4 ∧ (x4 : Int) < 92 ∧ Q (zI (M 44 x4.toNat)) M)))) : zBg d 14 5 [zR 42, zI x1, none, zI x3, zI x4] [] M Q :=
  zvc_ok (I := zm14) (cuts := [(5, [true, true, false, true, true])]) (n := 34) rfl h
theorem zk14 {d : Nat} {M : zMem} {Q : Option zV → zMem → Prop} {x1 : Int} {x2 : Int} (h : zBg d 14 0 [zR 42, zI x1, zI x2, none, none] [] M Q) : zCt d 14 [.inr (.inr 42), .inl x1, .inl x2] M Q := zCt_of (I := zm14) rfl rfl h
/-! CommaCopies$Joins.suspect(I)V , as 15 -/
set_option maxRecDepth 20000 in
theorem zv15_0 {d : Nat} {M : zMem} {Q : Option zV → zMem → Prop} (x1 : Int) (h :
  zBg d 15 17 [zR 42, zI x1, zI 0] [] (zup (zup (zup M 42 13 0) 42 11 (-1)) 42 12 0) Q) : zBg d 15 0 [zR 42, zI x1, none] [] M Q :=
  zvc_ok (I := zm15) (cuts := [(17, [true, true, true])]) (n := 65) rfl h
set_option maxRecDepth 20000 in
theorem zv15_17 {d : Nat} {M : zMem} {Q : Option zV → zMem → Prop} (x1 : Int) (x2 : Int) (h :
  ((x2 : Int) ≥ (M 42 4) →
    ((M 42 13 : Int) ≠ 0 →
      Q none (zup M 42 11 (M 42 11))) ∧
    (¬ (M 42 13 : Int) ≠ 0 →
      Q none (zup M 42 11 0))) ∧
  (¬ (x2 : Int) ≥ (M 42 4) →
    (0 : Int) ≤ x2 ∧ (x2 : Int) < 92 ∧ ((ziand x1 (zixor (M 46 x2.toNat) (-1)) : Int) ≠ 0 →
      zR32 (x2 + 1) ∧ zBg d 15 17 [zR 42, zI x1, zI (x2 + 1)] [] M Q) ∧
    (¬ (ziand x1 (zixor (M 46 x2.toNat) (-1)) : Int) ≠ 0 →
      zR32 ((M 42 13) + 1) ∧ (0 : Int) ≤ x2 ∧ (x2 : Int) < 92 ∧ (0 : Int) ≤ x2 ∧ (x2 : Int) < 92 ∧ zR32 (x2 + 1) ∧ zBg d 15 17 [zR 42, zI x1, zI (x2 + 1)] [] (zup (zup (zup M 42 13 ((M 42 13) + 1)) 42 11 (ziand (M 42 11) (M 44 x2.toNat))) 42 12 (zior (M 42 12) (M 44 x2.toNat))) Q))) : zBg d 15 17 [zR 42, zI x1, zI x2] [] M Q :=
  zvc_ok (I := zm15) (cuts := [(17, [true, true, true])]) (n := 65) rfl h
theorem zk15 {d : Nat} {M : zMem} {Q : Option zV → zMem → Prop} {x1 : Int} (h : zBg d 15 0 [zR 42, zI x1, none] [] M Q) : zCt d 15 [.inr (.inr 42), .inl x1] M Q := zCt_of (I := zm15) rfl rfl h
/-! CommaCopies$Laws.broken(II)Z , as 16 -/
set_option maxRecDepth 20000 in
theorem zv16_0 {d : Nat} {M : zMem} {Q : Option zV → zMem → Prop} (x1 : Int) (x2 : Int) (h :
  ((x1 : Int) ≠ 0 →
    ((x1 : Int) ≠ 1 →
      ∃ Q1, zCl d 18 [.inl (M 42 4)] M Q1 ∧ ∀ v1 M1, Q1 v1 M1 →
      zR32 ((M1 42 4) - 64) ∧ ∃ Q2, zCl d 18 [.inl ((M1 42 4) - 64)] M1 Q2 ∧ ∀ v2 M2, Q2 v2 M2 →
      ∃ Q3, zCi d 26 [.inr (.inr 36), .inl 0, .inl x2, .inr (.inl v1), .inr (.inl v2)] M2 Q3 ∧ ∀ v3 M3, Q3 v3 M3 →
      ((v3 : Int) = 0 ∨ (v3 : Int) = 1) ∧ Q (zI v3) M3) ∧
    (¬ (x1 : Int) ≠ 1 →
      ∃ Q4, zCi d 17 [.inl x2] M Q4 ∧ ∀ v4 M4, Q4 v4 M4 →
      ∃ Q5, zCi d 21 [.inr (.inr 36), .inl v4] M4 Q5 ∧ ∀ v5 M5, Q5 v5 M5 →
      ((v5 : Int) = 0 ∨ (v5 : Int) = 1) ∧ Q (zI v5) M5)) ∧
  (¬ (x1 : Int) ≠ 0 →
    ∃ Q6, zCi d 17 [.inl x2] M Q6 ∧ ∀ v6 M6, Q6 v6 M6 →
    ∃ Q7, zCi d 19 [.inr (.inr 36), .inl v6] M6 Q7 ∧ ∀ v7 M7, Q7 v7 M7 →
    ((v7 : Int) = 0 ∨ (v7 : Int) = 1) ∧ Q (zI v7) M7)) : zBg (d + 1) 16 0 [zR 36, zI x1, zI x2, none, none, none, none] [] M Q :=
  zvc_ok (I := zm16) (cuts := []) (n := 39) rfl h
theorem zk16 {d : Nat} {M : zMem} {Q : Option zV → zMem → Prop} {x1 : Int} {x2 : Int} (h : zBg d 16 0 [zR 36, zI x1, zI x2, none, none, none, none] [] M Q) : zCt d 16 [.inr (.inr 36), .inl x1, .inl x2] M Q := zCt_of (I := zm16) rfl rfl h
/-! CommaCopies$Laws.groupsOf(I)I , as 17 -/
set_option maxRecDepth 20000 in
theorem zv17_0 {d : Nat} {M : zMem} {Q : Option zV → zMem → Prop} (x0 : Int) (h :
  zBg d 17 4 [zI x0, zI 0, zI 0] [] M Q) : zBg d 17 0 [zI x0, none, none] [] M Q :=
  zvc_ok (I := zm17) (cuts := [(4, [true, true, true])]) (n := 31) rfl h
set_option maxRecDepth 20000 in
theorem zv17_4 {d : Nat} {M : zMem} {Q : Option zV → zMem → Prop} (x0 : Int) (x1 : Int) (x2 : Int) (h :
  ((x2 : Int) ≥ 6 →
    Q (zI x1) M) ∧
  (¬ (x2 : Int) ≥ 6 →
    ((ziand (zishr x0 x2) 1 : Int) ≠ 1 →
      zR32 (x2 + 1) ∧ zBg d 17 4 [zI x0, zI x1, zI (x2 + 1)] [] M Q) ∧
    (¬ (ziand (zishr x0 x2) 1 : Int) ≠ 1 →
      zR32 (5 * x2) ∧ zR32 (x2 + 1) ∧ zBg d 17 4 [zI x0, zI (zior x1 (zishl 31 (5 * x2))), zI (x2 + 1)] [] M Q))) : zBg d 17 4 [zI x0, zI x1, zI x2] [] M Q :=
  zvc_ok (I := zm17) (cuts := [(4, [true, true, true])]) (n := 31) rfl h
theorem zk17 {d : Nat} {M : zMem} {Q : Option zV → zMem → Prop} {x0 : Int} (h : zBg d 17 0 [zI x0, none, none] [] M Q) : zCt d 17 [.inl x0] M Q := zCt_of (I := zm17) rfl rfl h
/-! CommaCopies$Laws.lowestBits(I)J , as 18 -/
set_option maxRecDepth 20000 in
theorem zv18_0 {d : Nat} {M : zMem} {Q : Option zV → zMem → Prop} (x0 : Int) (h :
  ((x0 : Int) > 0 →
    ((x0 : Int) < 64 →
      Q (zL (zlsub (zlshl 1 x0) 1)) M) ∧
    (¬ (x0 : Int) < 64 →
      Q (zL (-1)) M)) ∧
  (¬ (x0 : Int) > 0 →
    Q (zL 0) M)) : zBg d 18 0 [zI x0] [] M Q :=
  zvc_ok (I := zm18) (cuts := []) (n := 20) rfl h
theorem zk18 {d : Nat} {M : zMem} {Q : Option zV → zMem → Prop} {x0 : Int} (h : zBg d 18 0 [zI x0] [] M Q) : zCt d 18 [.inl x0] M Q := zCt_of (I := zm18) rfl rfl h
/-! CommaCopies$Laws.someFramed(I)Z , as 19 -/
set_option maxRecDepth 20000 in
theorem zv19_0 {d : Nat} {M : zMem} {Q : Option zV → zMem → Prop} (x1 : Int) (h :
  zBg d 19 2 [zR 36, zI x1, zI 0, none] [] M Q) : zBg d 19 0 [zR 36, zI x1, none, none] [] M Q :=
  zvc_ok (I := zm19) (cuts := [(2, [true, true, true, false])]) (n := 44) rfl h
set_option maxRecDepth 20000 in
theorem zv19_2 {d : Nat} {M : zMem} {Q : Option zV → zMem → Prop} (x1 : Int) (x2 : Int) (h :
  ((x2 : Int) ≥ (M 42 4) →
    ((0 : Int) = 0 ∨ (0 : Int) = 1) ∧ Q (zI 0) M) ∧
  (¬ (x2 : Int) ≥ (M 42 4) →
    (0 : Int) ≤ x2 ∧ (x2 : Int) < 92 ∧ (0 : Int) ≤ x2 ∧ (x2 : Int) < 92 ∧ ∃ Q1, zCi d 20 [.inr (.inr 36), .inl (M 44 x2.toNat), .inl (M 46 x2.toNat), .inl x1] M Q1 ∧ ∀ v1 M1, Q1 v1 M1 →
    ((v1 : Int) < 0 →
      zR32 (x2 + 1) ∧ zBg (d + 1) 19 2 [zR 36, zI x1, zI (x2 + 1), none] [] M1 Q) ∧
    (¬ (v1 : Int) < 0 →
      (0 : Int) ≤ x2 ∧ (x2 : Int) < 92 ∧ ((1 : Int) = 0 ∨ (1 : Int) = 1) ∧ Q (zI 1) (zup (zup M1 36 6 (M1 44 x2.toNat)) 36 7 v1)))) : zBg (d + 1) 19 2 [zR 36, zI x1, zI x2, none] [] M Q :=
  zvc_ok (I := zm19) (cuts := [(2, [true, true, true, false])]) (n := 44) rfl h
theorem zk19 {d : Nat} {M : zMem} {Q : Option zV → zMem → Prop} {x1 : Int} (h : zBg d 19 0 [zR 36, zI x1, none, none] [] M Q) : zCt d 19 [.inr (.inr 36), .inl x1] M Q := zCt_of (I := zm19) rfl rfl h
/-! CommaCopies$Laws.victimOf(III)I , as 20 -/
set_option maxRecDepth 20000 in
theorem zv20_0 {d : Nat} {M : zMem} {Q : Option zV → zMem → Prop} (x1 : Int) (x2 : Int) (x3 : Int) (h :
  zBg d 20 3 [zR 36, zI x1, zI x2, zI x3, zI 0] [] M Q) : zBg d 20 0 [zR 36, zI x1, zI x2, zI x3, none] [] M Q :=
  zvc_ok (I := zm20) (cuts := [(3, [true, true, true, true, true])]) (n := 36) rfl h
set_option maxRecDepth 20000 in
theorem zv20_3 {d : Nat} {M : zMem} {Q : Option zV → zMem → Prop} (x1 : Int) (x2 : Int) (x3 : Int) (x4 : Int) (h :
  ((x4 : Int) ≥ (M 42 5) →
    Q (zI (-1)) M) ∧
  (¬ (x4 : Int) ≥ (M 42 5) →
    ((ziand (zishr x1 x4) 1 : Int) ≠ 0 →
      zR32 (x4 + 1) ∧ zBg d 20 3 [zR 36, zI x1, zI x2, zI x3, zI (x4 + 1)] [] M Q) ∧
    (¬ (ziand (zishr x1 x4) 1 : Int) ≠ 0 →
      (0 : Int) ≤ x4 ∧ (x4 : Int) < 8 ∧ ((ziand (ziand (M 43 x4.toNat) x3) (zixor x2 (-1)) : Int) ≠ 0 →
        zR32 (x4 + 1) ∧ zBg d 20 3 [zR 36, zI x1, zI x2, zI x3, zI (x4 + 1)] [] M Q) ∧
      (¬ (ziand (ziand (M 43 x4.toNat) x3) (zixor x2 (-1)) : Int) ≠ 0 →
        Q (zI x4) M)))) : zBg d 20 3 [zR 36, zI x1, zI x2, zI x3, zI x4] [] M Q :=
  zvc_ok (I := zm20) (cuts := [(3, [true, true, true, true, true])]) (n := 36) rfl h
theorem zk20 {d : Nat} {M : zMem} {Q : Option zV → zMem → Prop} {x1 : Int} {x2 : Int} {x3 : Int} (h : zBg d 20 0 [zR 36, zI x1, zI x2, zI x3, none] [] M Q) : zCt d 20 [.inr (.inr 36), .inl x1, .inl x2, .inl x3] M Q := zCt_of (I := zm20) rfl rfl h
/-! CommaCopies$Laws.someTouch(I)Z , as 21 -/
set_option maxRecDepth 20000 in
theorem zv21_0 {d : Nat} {M : zMem} {Q : Option zV → zMem → Prop} (x1 : Int) (h :
  zBg d 21 2 [zR 36, zI x1, zI 0, none] [] M Q) : zBg d 21 0 [zR 36, zI x1, none, none] [] M Q :=
  zvc_ok (I := zm21) (cuts := [(2, [true, true, true, false])]) (n := 51) rfl h
set_option maxRecDepth 20000 in
theorem zv21_2 {d : Nat} {M : zMem} {Q : Option zV → zMem → Prop} (x1 : Int) (x2 : Int) (h :
  ((x2 : Int) ≥ (M 42 4) →
    ((0 : Int) = 0 ∨ (0 : Int) = 1) ∧ Q (zI 0) M) ∧
  (¬ (x2 : Int) ≥ (M 42 4) →
    (0 : Int) ≤ x2 ∧ (x2 : Int) < 92 ∧ (0 : Int) ≤ x2 ∧ (x2 : Int) < 92 ∧ zR32 (x2 + 1) ∧ ∃ Q1, zCi d 22 [.inr (.inr 36), .inl (M 44 x2.toNat), .inl (M 46 x2.toNat), .inl x1, .inl (x2 + 1)] M Q1 ∧ ∀ v1 M1, Q1 v1 M1 →
    ((v1 : Int) < 0 →
      zR32 (x2 + 1) ∧ zBg (d + 1) 21 2 [zR 36, zI x1, zI (x2 + 1), none] [] M1 Q) ∧
    (¬ (v1 : Int) < 0 →
      (0 : Int) ≤ x2 ∧ (x2 : Int) < 92 ∧ (0 : Int) ≤ v1 ∧ (v1 : Int) < 92 ∧ ((1 : Int) = 0 ∨ (1 : Int) = 1) ∧ Q (zI 1) (zup (zup M1 36 6 (M1 44 x2.toNat)) 36 7 (M1 44 v1.toNat))))) : zBg (d + 1) 21 2 [zR 36, zI x1, zI x2, none] [] M Q :=
  zvc_ok (I := zm21) (cuts := [(2, [true, true, true, false])]) (n := 51) rfl h
theorem zk21 {d : Nat} {M : zMem} {Q : Option zV → zMem → Prop} {x1 : Int} (h : zBg d 21 0 [zR 36, zI x1, none, none] [] M Q) : zCt d 21 [.inr (.inr 36), .inl x1] M Q := zCt_of (I := zm21) rfl rfl h
/-! CommaCopies$Laws.touching(IIII)I , as 22 -/
set_option maxRecDepth 20000 in
theorem zv22_0 {d : Nat} {M : zMem} {Q : Option zV → zMem → Prop} (x1 : Int) (x2 : Int) (x3 : Int) (x4 : Int) (h :
  zBg d 22 4 [zR 36, zI x1, zI x2, zI x3, none, zI x4] [] M Q) : zBg d 22 0 [zR 36, zI x1, zI x2, zI x3, zI x4, none] [] M Q :=
  zvc_ok (I := zm22) (cuts := [(4, [true, true, true, true, false, true])]) (n := 36) rfl h
set_option maxRecDepth 20000 in
theorem zv22_4 {d : Nat} {M : zMem} {Q : Option zV → zMem → Prop} (x1 : Int) (x2 : Int) (x3 : Int) (x5 : Int) (h :
  ((x5 : Int) ≥ (M 42 4) →
    Q (zI (-1)) M) ∧
  (¬ (x5 : Int) ≥ (M 42 4) →
    (0 : Int) ≤ x5 ∧ (x5 : Int) < 92 ∧ ((ziand x1 (M 44 x5.toNat) : Int) ≠ 0 →
      zR32 (x5 + 1) ∧ zBg (d + 1) 22 4 [zR 36, zI x1, zI x2, zI x3, none, zI (x5 + 1)] [] M Q) ∧
    (¬ (ziand x1 (M 44 x5.toNat) : Int) ≠ 0 →
      (0 : Int) ≤ x5 ∧ (x5 : Int) < 92 ∧ ∃ Q1, zCi d 23 [.inl (ziand x2 (M 46 x5.toNat)), .inl x3] M Q1 ∧ ∀ v1 M1, Q1 v1 M1 →
      ((v1 : Int) = 0 →
        zR32 (x5 + 1) ∧ zBg (d + 1) 22 4 [zR 36, zI x1, zI x2, zI x3, none, zI (x5 + 1)] [] M1 Q) ∧
      (¬ (v1 : Int) = 0 →
        Q (zI x5) M1)))) : zBg (d + 1) 22 4 [zR 36, zI x1, zI x2, zI x3, none, zI x5] [] M Q :=
  zvc_ok (I := zm22) (cuts := [(4, [true, true, true, true, false, true])]) (n := 36) rfl h
theorem zk22 {d : Nat} {M : zMem} {Q : Option zV → zMem → Prop} {x1 : Int} {x2 : Int} {x3 : Int} {x4 : Int} (h : zBg d 22 0 [zR 36, zI x1, zI x2, zI x3, zI x4, none] [] M Q) : zCt d 22 [.inr (.inr 36), .inl x1, .inl x2, .inl x3, .inl x4] M Q := zCt_of (I := zm22) rfl rfl h
/-! CommaCopies$Laws.meetEverywhere(II)Z , as 23 -/
set_option maxRecDepth 20000 in
theorem zv23_0 {d : Nat} {M : zMem} {Q : Option zV → zMem → Prop} (x0 : Int) (x1 : Int) (h :
  zR32 ((ziand x0 519552495) + 519552495) ∧ ((ziand (zior ((ziand x0 519552495) + 519552495) x0) (ziand 554189328 x1) : Int) ≠ (ziand 554189328 x1) →
    ((0 : Int) = 0 ∨ (0 : Int) = 1) ∧ Q (zI 0) M) ∧
  (¬ (ziand (zior ((ziand x0 519552495) + 519552495) x0) (ziand 554189328 x1) : Int) ≠ (ziand 554189328 x1) →
    ((1 : Int) = 0 ∨ (1 : Int) = 1) ∧ Q (zI 1) M)) : zBg d 23 0 [zI x0, zI x1, none] [] M Q :=
  zvc_ok (I := zm23) (cuts := []) (n := 24) rfl h
theorem zk23 {d : Nat} {M : zMem} {Q : Option zV → zMem → Prop} {x0 : Int} {x1 : Int} (h : zBg d 23 0 [zI x0, zI x1, none] [] M Q) : zCt d 23 [.inl x0, .inl x1] M Q := zCt_of (I := zm23) rfl rfl h
/-! CommaCopies$Laws.mark()V , as 24 -/
set_option maxRecDepth 20000 in
theorem zv24_0 {d : Nat} {M : zMem} {Q : Option zV → zMem → Prop} (h :
  ∃ Q1, zCv d 181 [.inr (.inr 38), .inr (.inl 0)] M Q1 ∧ ∀ M1, Q1 M1 →
  ∃ Q2, zCv d 181 [.inr (.inr 39), .inr (.inl 0)] M1 Q2 ∧ ∀ M2, Q2 M2 →
  ∃ Q3, zCv d 181 [.inr (.inr 40), .inr (.inl 0)] M2 Q3 ∧ ∀ M3, Q3 M3 →
  ∃ Q4, zCv d 181 [.inr (.inr 41), .inr (.inl 0)] M3 Q4 ∧ ∀ M4, Q4 M4 →
  zBg (d + 1) 24 34 [zR 36, zI 0, none, none, none, none] [] M4 Q) : zBg (d + 1) 24 0 [zR 36, none, none, none, none, none] [] M Q :=
  zvc_ok (I := zm24) (cuts := [(34, [true, true, false, false, false, false])]) (n := 87) rfl h
set_option maxRecDepth 20000 in
theorem zv24_34 {d : Nat} {M : zMem} {Q : Option zV → zMem → Prop} (x1 : Int) (h :
  ((x1 : Int) ≥ (M 42 4) →
    Q none M) ∧
  (¬ (x1 : Int) ≥ (M 42 4) →
    ((x1 : Int) ≥ 64 →
      ((x1 : Int) ≥ 64 →
        zR32 (x1 - 64) ∧ (0 : Int) ≤ x1 ∧ (x1 : Int) < 92 ∧ ∃ Q1, zCv d 25 [.inl (M 46 x1.toNat), .inr (.inr 38), .inr (.inl 0)] M Q1 ∧ ∀ M1, Q1 M1 →
        (0 : Int) ≤ x1 ∧ (x1 : Int) < 92 ∧ ∃ Q2, zCv d 25 [.inl (M1 46 x1.toNat), .inr (.inr 39), .inr (.inl (zlshl 1 (x1 - 64)))] M1 Q2 ∧ ∀ M2, Q2 M2 →
        (0 : Int) ≤ x1 ∧ (x1 : Int) < 92 ∧ ∃ Q3, zCv d 25 [.inl (M2 44 x1.toNat), .inr (.inr 40), .inr (.inl 0)] M2 Q3 ∧ ∀ M3, Q3 M3 →
        (0 : Int) ≤ x1 ∧ (x1 : Int) < 92 ∧ ∃ Q4, zCv d 25 [.inl (M3 44 x1.toNat), .inr (.inr 41), .inr (.inl (zlshl 1 (x1 - 64)))] M3 Q4 ∧ ∀ M4, Q4 M4 →
        zR32 (x1 + 1) ∧ zBg (d + 1) 24 34 [zR 36, zI (x1 + 1), none, none, none, none] [] M4 Q) ∧
      (¬ (x1 : Int) ≥ 64 →
        (0 : Int) ≤ x1 ∧ (x1 : Int) < 92 ∧ ∃ Q5, zCv d 25 [.inl (M 46 x1.toNat), .inr (.inr 38), .inr (.inl 0)] M Q5 ∧ ∀ M5, Q5 M5 →
        (0 : Int) ≤ x1 ∧ (x1 : Int) < 92 ∧ ∃ Q6, zCv d 25 [.inl (M5 46 x1.toNat), .inr (.inr 39), .inr (.inl 0)] M5 Q6 ∧ ∀ M6, Q6 M6 →
        (0 : Int) ≤ x1 ∧ (x1 : Int) < 92 ∧ ∃ Q7, zCv d 25 [.inl (M6 44 x1.toNat), .inr (.inr 40), .inr (.inl 0)] M6 Q7 ∧ ∀ M7, Q7 M7 →
        (0 : Int) ≤ x1 ∧ (x1 : Int) < 92 ∧ ∃ Q8, zCv d 25 [.inl (M7 44 x1.toNat), .inr (.inr 41), .inr (.inl 0)] M7 Q8 ∧ ∀ M8, Q8 M8 →
        zR32 (x1 + 1) ∧ zBg (d + 1) 24 34 [zR 36, zI (x1 + 1), none, none, none, none] [] M8 Q)) ∧
    (¬ (x1 : Int) ≥ 64 →
      ((x1 : Int) ≥ 64 →
        zR32 (x1 - 64) ∧ (0 : Int) ≤ x1 ∧ (x1 : Int) < 92 ∧ ∃ Q9, zCv d 25 [.inl (M 46 x1.toNat), .inr (.inr 38), .inr (.inl (zlshl 1 x1))] M Q9 ∧ ∀ M9, Q9 M9 →
        (0 : Int) ≤ x1 ∧ (x1 : Int) < 92 ∧ ∃ Q10, zCv d 25 [.inl (M9 46 x1.toNat), .inr (.inr 39), .inr (.inl (zlshl 1 (x1 - 64)))] M9 Q10 ∧ ∀ M10, Q10 M10 →
        (0 : Int) ≤ x1 ∧ (x1 : Int) < 92 ∧ ∃ Q11, zCv d 25 [.inl (M10 44 x1.toNat), .inr (.inr 40), .inr (.inl (zlshl 1 x1))] M10 Q11 ∧ ∀ M11, Q11 M11 →
        (0 : Int) ≤ x1 ∧ (x1 : Int) < 92 ∧ ∃ Q12, zCv d 25 [.inl (M11 44 x1.toNat), .inr (.inr 41), .inr (.inl (zlshl 1 (x1 - 64)))] M11 Q12 ∧ ∀ M12, Q12 M12 →
        zR32 (x1 + 1) ∧ zBg (d + 1) 24 34 [zR 36, zI (x1 + 1), none, none, none, none] [] M12 Q) ∧
      (¬ (x1 : Int) ≥ 64 →
        (0 : Int) ≤ x1 ∧ (x1 : Int) < 92 ∧ ∃ Q13, zCv d 25 [.inl (M 46 x1.toNat), .inr (.inr 38), .inr (.inl (zlshl 1 x1))] M Q13 ∧ ∀ M13, Q13 M13 →
        (0 : Int) ≤ x1 ∧ (x1 : Int) < 92 ∧ ∃ Q14, zCv d 25 [.inl (M13 46 x1.toNat), .inr (.inr 39), .inr (.inl 0)] M13 Q14 ∧ ∀ M14, Q14 M14 →
        (0 : Int) ≤ x1 ∧ (x1 : Int) < 92 ∧ ∃ Q15, zCv d 25 [.inl (M14 44 x1.toNat), .inr (.inr 40), .inr (.inl (zlshl 1 x1))] M14 Q15 ∧ ∀ M15, Q15 M15 →
        (0 : Int) ≤ x1 ∧ (x1 : Int) < 92 ∧ ∃ Q16, zCv d 25 [.inl (M15 44 x1.toNat), .inr (.inr 41), .inr (.inl 0)] M15 Q16 ∧ ∀ M16, Q16 M16 →
        zR32 (x1 + 1) ∧ zBg (d + 1) 24 34 [zR 36, zI (x1 + 1), none, none, none, none] [] M16 Q)))) : zBg (d + 1) 24 34 [zR 36, zI x1, none, none, none, none] [] M Q :=
  zvc_ok (I := zm24) (cuts := [(34, [true, true, false, false, false, false])]) (n := 87) rfl h
theorem zk24 {d : Nat} {M : zMem} {Q : Option zV → zMem → Prop} (h : zBg d 24 0 [zR 36, none, none, none, none, none] [] M Q) : zCt d 24 [.inr (.inr 36)] M Q := zCt_of (I := zm24) rfl rfl h
/-! CommaCopies$Laws.spread(I[JJ)V , as 25 -/
set_option maxRecDepth 20000 in
theorem zv25_0 {d : Nat} {M : zMem} {Q : Option zV → zMem → Prop} (x0 : Int) (a1 : Nat) (x2 : Int) (h :
  zBg d 25 3 [zI x0, zR a1, zL x2, none, zI 0] [] M Q) : zBg d 25 0 [zI x0, zR a1, zL x2, none, none] [] M Q :=
  zvc_ok (I := zm25) (cuts := [(3, [true, true, true, false, true])]) (n := 28) rfl h
set_option maxRecDepth 20000 in
theorem zv25_3 {d : Nat} {M : zMem} {Q : Option zV → zMem → Prop} (x0 : Int) (a1 : Nat) (x2 : Int) (x4 : Int) (h :
  zln a1 fun n0 => ((x4 : Int) ≥ n0 →
    Q none M) ∧
  (¬ (x4 : Int) ≥ n0 →
    ((ziand (zishr x0 x4) 1 : Int) ≠ 1 →
      zR32 (x4 + 1) ∧ zBg d 25 3 [zI x0, zR a1, zL x2, none, zI (x4 + 1)] [] M Q) ∧
    (¬ (ziand (zishr x0 x4) 1 : Int) ≠ 1 →
      zar a1 2 fun n => (0 : Int) ≤ x4 ∧ (x4 : Int) < n ∧ zar a1 2 fun n => (0 : Int) ≤ x4 ∧ (x4 : Int) < n ∧ zR32 (x4 + 1) ∧ zBg d 25 3 [zI x0, zR a1, zL x2, none, zI (x4 + 1)] [] (zup M a1 x4.toNat (zlor (M a1 x4.toNat) x2)) Q))) : zBg d 25 3 [zI x0, zR a1, zL x2, none, zI x4] [] M Q :=
  zvc_ok (I := zm25) (cuts := [(3, [true, true, true, false, true])]) (n := 28) rfl h
theorem zk25 {d : Nat} {M : zMem} {Q : Option zV → zMem → Prop} {x0 : Int} {a1 : Nat} {x2 : Int} (h : zBg d 25 0 [zI x0, zR a1, zL x2, none, none] [] M Q) : zCt d 25 [.inl x0, .inr (.inr a1), .inr (.inl x2)] M Q := zCt_of (I := zm25) rfl rfl h
/-! CommaCopies$Laws.someUnnamed(IIJJ)Z , as 26 -/
set_option maxRecDepth 20000 in
theorem zv26_0 {d : Nat} {M : zMem} {Q : Option zV → zMem → Prop} (x1 : Int) (x2 : Int) (x3 : Int) (x5 : Int) (h :
  ((zlcmp (zlor x3 x5) 0 : Int) = 0 →
    ((0 : Int) = 0 ∨ (0 : Int) = 1) ∧ Q (zI 0) M) ∧
  (¬ (zlcmp (zlor x3 x5) 0 : Int) = 0 →
    ∃ Q1, zCi d 27 [.inr (.inr 36), .inr (.inl x3), .inr (.inl x5)] M Q1 ∧ ∀ v1 M1, Q1 v1 M1 →
    ((v1 : Int) = 0 →
      ((x1 : Int) < 6 →
        ((ziand (zishr x2 x1) 1 : Int) ≠ 0 →
          zBg (d + 1) 26 52 [zR 36, zI x1, zI x2, zL x3, none, zL x5, none, zI 0, none] [] M1 Q) ∧
        (¬ (ziand (zishr x2 x1) 1 : Int) ≠ 0 →
          zR32 (x1 + 1) ∧ ∃ Q2, zCi d 26 [.inr (.inr 36), .inl (x1 + 1), .inl x2, .inr (.inl x3), .inr (.inl x5)] M1 Q2 ∧ ∀ v2 M2, Q2 v2 M2 →
          ((v2 : Int) = 0 ∨ (v2 : Int) = 1) ∧ Q (zI v2) M2)) ∧
      (¬ (x1 : Int) < 6 →
        ((1 : Int) = 0 ∨ (1 : Int) = 1) ∧ Q (zI 1) M1)) ∧
    (¬ (v1 : Int) = 0 →
      ((0 : Int) = 0 ∨ (0 : Int) = 1) ∧ Q (zI 0) M1))) : zBg (d + 1) 26 0 [zR 36, zI x1, zI x2, zL x3, none, zL x5, none, none, none] [] M Q :=
  zvc_ok (I := zm26) (cuts := [(52, [true, true, true, true, false, true, false, true, false])]) (n := 79) rfl h
set_option maxRecDepth 20000 in
theorem zv26_52 {d : Nat} {M : zMem} {Q : Option zV → zMem → Prop} (x1 : Int) (x2 : Int) (x3 : Int) (x5 : Int) (x7 : Int) (h :
  ((x7 : Int) ≥ 5 →
    ((0 : Int) = 0 ∨ (0 : Int) = 1) ∧ Q (zI 0) M) ∧
  (¬ (x7 : Int) ≥ 5 →
    zR32 (x1 * 5) ∧ zR32 ((x1 * 5) + x7) ∧ (0 : Int) ≤ x1 ∧ (x1 : Int) < 6 ∧ zR32 (x1 + 1) ∧ (0 : Int) ≤ ((x1 * 5) + x7) ∧ ((x1 * 5) + x7 : Int) < 30 ∧ (0 : Int) ≤ ((x1 * 5) + x7) ∧ ((x1 * 5) + x7 : Int) < 30 ∧ ∃ Q1, zCi d 26 [.inr (.inr 36), .inl (x1 + 1), .inl x2, .inr (.inl (zland x3 (M 38 (((x1 * 5) + x7).toNat)))), .inr (.inl (zland x5 (M 39 (((x1 * 5) + x7).toNat))))] (zup M 37 x1.toNat x7) Q1 ∧ ∀ v1 M1, Q1 v1 M1 →
    ((v1 : Int) = 0 →
      zR32 (x7 + 1) ∧ zBg (d + 1) 26 52 [zR 36, zI x1, zI x2, zL x3, none, zL x5, none, zI (x7 + 1), none] [] M1 Q) ∧
    (¬ (v1 : Int) = 0 →
      ((1 : Int) = 0 ∨ (1 : Int) = 1) ∧ Q (zI 1) M1))) : zBg (d + 1) 26 52 [zR 36, zI x1, zI x2, zL x3, none, zL x5, none, zI x7, none] [] M Q :=
  zvc_ok (I := zm26) (cuts := [(52, [true, true, true, true, false, true, false, true, false])]) (n := 79) rfl h
theorem zk26 {d : Nat} {M : zMem} {Q : Option zV → zMem → Prop} {x1 : Int} {x2 : Int} {x3 : Int} {x5 : Int} (h : zBg d 26 0 [zR 36, zI x1, zI x2, zL x3, none, zL x5, none, none, none] [] M Q) : zCt d 26 [.inr (.inr 36), .inl x1, .inl x2, .inr (.inl x3), .inr (.inl x5)] M Q := zCt_of (I := zm26) rfl rfl h
/-! CommaCopies$Laws.haveOneInCommon(JJ)Z , as 27 -/
set_option maxRecDepth 20000 in
theorem zv27_0 {d : Nat} {M : zMem} {Q : Option zV → zMem → Prop} (x1 : Int) (x3 : Int) (h :
  zBg d 27 3 [zR 36, zL x1, none, zL x3, none, zI 0] [] M Q) : zBg d 27 0 [zR 36, zL x1, none, zL x3, none, none] [] M Q :=
  zvc_ok (I := zm27) (cuts := [(3, [true, true, false, true, false, true])]) (n := 40) rfl h
set_option maxRecDepth 20000 in
theorem zv27_3 {d : Nat} {M : zMem} {Q : Option zV → zMem → Prop} (x1 : Int) (x3 : Int) (x5 : Int) (h :
  ((x5 : Int) ≥ (M 42 5) →
    ((0 : Int) = 0 ∨ (0 : Int) = 1) ∧ Q (zI 0) M) ∧
  (¬ (x5 : Int) ≥ (M 42 5) →
    (0 : Int) ≤ x5 ∧ (x5 : Int) < 8 ∧ ((zlcmp (zland x1 (zlxor (M 40 x5.toNat) (-1))) 0 : Int) ≠ 0 →
      zR32 (x5 + 1) ∧ zBg d 27 3 [zR 36, zL x1, none, zL x3, none, zI (x5 + 1)] [] M Q) ∧
    (¬ (zlcmp (zland x1 (zlxor (M 40 x5.toNat) (-1))) 0 : Int) ≠ 0 →
      (0 : Int) ≤ x5 ∧ (x5 : Int) < 8 ∧ ((zlcmp (zland x3 (zlxor (M 41 x5.toNat) (-1))) 0 : Int) ≠ 0 →
        zR32 (x5 + 1) ∧ zBg d 27 3 [zR 36, zL x1, none, zL x3, none, zI (x5 + 1)] [] M Q) ∧
      (¬ (zlcmp (zland x3 (zlxor (M 41 x5.toNat) (-1))) 0 : Int) ≠ 0 →
        ((1 : Int) = 0 ∨ (1 : Int) = 1) ∧ Q (zI 1) M)))) : zBg d 27 3 [zR 36, zL x1, none, zL x3, none, zI x5] [] M Q :=
  zvc_ok (I := zm27) (cuts := [(3, [true, true, false, true, false, true])]) (n := 40) rfl h
theorem zk27 {d : Nat} {M : zMem} {Q : Option zV → zMem → Prop} {x1 : Int} {x3 : Int} (h : zBg d 27 0 [zR 36, zL x1, none, zL x3, none, none] [] M Q) : zCt d 27 [.inr (.inr 36), .inr (.inl x1), .inr (.inl x3)] M Q := zCt_of (I := zm27) rfl rfl h
/-! CommaCopies$Laws.admits(II)Z , as 28 -/
set_option maxRecDepth 20000 in
theorem zv28_0 {d : Nat} {M : zMem} {Q : Option zV → zMem → Prop} (x1 : Int) (x2 : Int) (h :
  zBg d 28 2 [zR 36, zI x1, zI x2, zI 0, none] [] M Q) : zBg d 28 0 [zR 36, zI x1, zI x2, none, none] [] M Q :=
  zvc_ok (I := zm28) (cuts := [(2, [true, true, true, true, false]), (69, [true, true, true, true, false])]) (n := 90) rfl h
set_option maxRecDepth 20000 in
theorem zv28_2 {d : Nat} {M : zMem} {Q : Option zV → zMem → Prop} (x1 : Int) (x2 : Int) (x3 : Int) (h :
  ((x3 : Int) ≥ (M 42 5) →
    ((x1 : Int) ≠ 0 →
      ∃ Q1, zCi d 13 [.inr (.inr 42), .inl x2] M Q1 ∧ ∀ v1 M1, Q1 v1 M1 →
      ∃ Q2, zCi d 30 [.inr (.inr 36), .inl x1, .inl 0, .inl v1] M1 Q2 ∧ ∀ v2 M2, Q2 v2 M2 →
      ((v2 : Int) = 0 →
        zBg (d + 1) 28 69 [zR 36, zI x1, zI x2, zI 0, none] [] M2 Q) ∧
      (¬ (v2 : Int) = 0 →
        ((0 : Int) = 0 ∨ (0 : Int) = 1) ∧ Q (zI 0) M2)) ∧
    (¬ (x1 : Int) ≠ 0 →
      ∃ Q3, zCi d 29 [.inr (.inr 36), .inl x2] M Q3 ∧ ∀ v3 M3, Q3 v3 M3 →
      ((v3 : Int) = 0 →
        ∃ Q4, zCi d 13 [.inr (.inr 42), .inl x2] M3 Q4 ∧ ∀ v4 M4, Q4 v4 M4 →
        ∃ Q5, zCi d 30 [.inr (.inr 36), .inl x1, .inl 0, .inl v4] M4 Q5 ∧ ∀ v5 M5, Q5 v5 M5 →
        ((v5 : Int) = 0 →
          zBg (d + 1) 28 69 [zR 36, zI x1, zI x2, zI 0, none] [] M5 Q) ∧
        (¬ (v5 : Int) = 0 →
          ((0 : Int) = 0 ∨ (0 : Int) = 1) ∧ Q (zI 0) M5)) ∧
      (¬ (v3 : Int) = 0 →
        ((0 : Int) = 0 ∨ (0 : Int) = 1) ∧ Q (zI 0) M3))) ∧
  (¬ (x3 : Int) ≥ (M 42 5) →
    (0 : Int) ≤ x3 ∧ (x3 : Int) < 8 ∧ ((M 43 x3.toNat : Int) ≠ x2 →
      zR32 (x3 + 1) ∧ zBg (d + 1) 28 2 [zR 36, zI x1, zI x2, zI (x3 + 1), none] [] M Q) ∧
    (¬ (M 43 x3.toNat : Int) ≠ x2 →
      ((0 : Int) = 0 ∨ (0 : Int) = 1) ∧ Q (zI 0) M))) : zBg (d + 1) 28 2 [zR 36, zI x1, zI x2, zI x3, none] [] M Q :=
  zvc_ok (I := zm28) (cuts := [(2, [true, true, true, true, false]), (69, [true, true, true, true, false])]) (n := 90) rfl h
set_option maxRecDepth 20000 in
theorem zv28_69 {d : Nat} {M : zMem} {Q : Option zV → zMem → Prop} (x1 : Int) (x2 : Int) (x3 : Int) (h :
  ((x3 : Int) ≥ (M 42 4) →
    ((1 : Int) = 0 ∨ (1 : Int) = 1) ∧ Q (zI 1) M) ∧
  (¬ (x3 : Int) ≥ (M 42 4) →
    (0 : Int) ≤ x3 ∧ (x3 : Int) < 92 ∧ ∃ Q1, zCi d 180 [.inl (M 44 x3.toNat)] M Q1 ∧ ∀ v1 M1, Q1 v1 M1 →
    ((v1 : Int) ≥ (M1 42 6) →
      ((0 : Int) = 0 →
        zR32 (x3 + 1) ∧ zBg (d + 1) 28 69 [zR 36, zI x1, zI x2, zI (x3 + 1), none] [] M1 Q) ∧
      (¬ (0 : Int) = 0 →
        (0 : Int) ≤ x3 ∧ (x3 : Int) < 92 ∧ (0 : Int) ≤ x3 ∧ (x3 : Int) < 92 ∧ ∃ Q2, zCi d 13 [.inr (.inr 42), .inl (zior (M1 45 x3.toNat) x2)] M1 Q2 ∧ ∀ v2 M2, Q2 v2 M2 →
        ∃ Q3, zCi d 30 [.inr (.inr 36), .inl x1, .inl (M1 44 x3.toNat), .inl v2] M2 Q3 ∧ ∀ v3 M3, Q3 v3 M3 →
        ((v3 : Int) = 0 →
          zR32 (x3 + 1) ∧ zBg (d + 1) 28 69 [zR 36, zI x1, zI x2, zI (x3 + 1), none] [] M3 Q) ∧
        (¬ (v3 : Int) = 0 →
          ((0 : Int) = 0 ∨ (0 : Int) = 1) ∧ Q (zI 0) M3))) ∧
    (¬ (v1 : Int) ≥ (M1 42 6) →
      ((1 : Int) = 0 →
        zR32 (x3 + 1) ∧ zBg (d + 1) 28 69 [zR 36, zI x1, zI x2, zI (x3 + 1), none] [] M1 Q) ∧
      (¬ (1 : Int) = 0 →
        (0 : Int) ≤ x3 ∧ (x3 : Int) < 92 ∧ (0 : Int) ≤ x3 ∧ (x3 : Int) < 92 ∧ ∃ Q4, zCi d 13 [.inr (.inr 42), .inl (zior (M1 45 x3.toNat) x2)] M1 Q4 ∧ ∀ v4 M4, Q4 v4 M4 →
        ∃ Q5, zCi d 30 [.inr (.inr 36), .inl x1, .inl (M1 44 x3.toNat), .inl v4] M4 Q5 ∧ ∀ v5 M5, Q5 v5 M5 →
        ((v5 : Int) = 0 →
          zR32 (x3 + 1) ∧ zBg (d + 1) 28 69 [zR 36, zI x1, zI x2, zI (x3 + 1), none] [] M5 Q) ∧
        (¬ (v5 : Int) = 0 →
          ((0 : Int) = 0 ∨ (0 : Int) = 1) ∧ Q (zI 0) M5))))) : zBg (d + 1) 28 69 [zR 36, zI x1, zI x2, zI x3, none] [] M Q :=
  zvc_ok (I := zm28) (cuts := [(2, [true, true, true, true, false]), (69, [true, true, true, true, false])]) (n := 90) rfl h
theorem zk28 {d : Nat} {M : zMem} {Q : Option zV → zMem → Prop} {x1 : Int} {x2 : Int} (h : zBg d 28 0 [zR 36, zI x1, zI x2, none, none] [] M Q) : zCt d 28 [.inr (.inr 36), .inl x1, .inl x2] M Q := zCt_of (I := zm28) rfl rfl h
/-! CommaCopies$Laws.isFramed(I)Z , as 29 -/
set_option maxRecDepth 20000 in
theorem zv29_0 {d : Nat} {M : zMem} {Q : Option zV → zMem → Prop} (x1 : Int) (h :
  zBg d 29 2 [zR 36, zI x1, zI 0] [] M Q) : zBg d 29 0 [zR 36, zI x1, none] [] M Q :=
  zvc_ok (I := zm29) (cuts := [(2, [true, true, true])]) (n := 28) rfl h
set_option maxRecDepth 20000 in
theorem zv29_2 {d : Nat} {M : zMem} {Q : Option zV → zMem → Prop} (x1 : Int) (x2 : Int) (h :
  ((x2 : Int) ≥ (M 42 4) →
    ((0 : Int) = 0 ∨ (0 : Int) = 1) ∧ Q (zI 0) M) ∧
  (¬ (x2 : Int) ≥ (M 42 4) →
    (0 : Int) ≤ x2 ∧ (x2 : Int) < 92 ∧ ((ziand x1 (zixor (M 46 x2.toNat) (-1)) : Int) ≠ 0 →
      zR32 (x2 + 1) ∧ zBg d 29 2 [zR 36, zI x1, zI (x2 + 1)] [] M Q) ∧
    (¬ (ziand x1 (zixor (M 46 x2.toNat) (-1)) : Int) ≠ 0 →
      ((1 : Int) = 0 ∨ (1 : Int) = 1) ∧ Q (zI 1) M))) : zBg d 29 2 [zR 36, zI x1, zI x2] [] M Q :=
  zvc_ok (I := zm29) (cuts := [(2, [true, true, true])]) (n := 28) rfl h
theorem zk29 {d : Nat} {M : zMem} {Q : Option zV → zMem → Prop} {x1 : Int} (h : zBg d 29 0 [zR 36, zI x1, none] [] M Q) : zCt d 29 [.inr (.inr 36), .inl x1] M Q := zCt_of (I := zm29) rfl rfl h
/-! CommaCopies$Laws.harms(III)Z , as 30 -/
set_option maxRecDepth 20000 in
theorem zv30_0 {d : Nat} {M : zMem} {Q : Option zV → zMem → Prop} (x1 : Int) (x2 : Int) (x3 : Int) (h :
  zR32 (31 * (M 42 8)) ∧ ((x1 : Int) ≠ 0 →
    ∃ Q1, zCi d 22 [.inr (.inr 36), .inl x2, .inl x3, .inl (31 * (M 42 8)), .inl 0] M Q1 ∧ ∀ v1 M1, Q1 v1 M1 →
    ((v1 : Int) < 0 →
      ((0 : Int) = 0 ∨ (0 : Int) = 1) ∧ Q (zI 0) M1) ∧
    (¬ (v1 : Int) < 0 →
      ((1 : Int) = 0 ∨ (1 : Int) = 1) ∧ Q (zI 1) M1)) ∧
  (¬ (x1 : Int) ≠ 0 →
    ∃ Q2, zCi d 20 [.inr (.inr 36), .inl x2, .inl x3, .inl (31 * (M 42 8))] M Q2 ∧ ∀ v2 M2, Q2 v2 M2 →
    ((v2 : Int) < 0 →
      ((0 : Int) = 0 ∨ (0 : Int) = 1) ∧ Q (zI 0) M2) ∧
    (¬ (v2 : Int) < 0 →
      ((1 : Int) = 0 ∨ (1 : Int) = 1) ∧ Q (zI 1) M2))) : zBg (d + 1) 30 0 [zR 36, zI x1, zI x2, zI x3, none] [] M Q :=
  zvc_ok (I := zm30) (cuts := []) (n := 34) rfl h
theorem zk30 {d : Nat} {M : zMem} {Q : Option zV → zMem → Prop} {x1 : Int} {x2 : Int} {x3 : Int} (h : zBg d 30 0 [zR 36, zI x1, zI x2, zI x3, none] [] M Q) : zCt d 30 [.inr (.inr 36), .inl x1, .inl x2, .inl x3] M Q := zCt_of (I := zm30) rfl rfl h
/-! CommaCopies$Letter.faultAt([BI)I , as 31 -/
set_option maxRecDepth 20000 in
theorem zv31_0 {d : Nat} {M : zMem} {Q : Option zV → zMem → Prop} (x1 : Int) (h :
  zBg d 31 10 [zR 3, zI x1, zI 0, zI (-1), zI 0, zI 0, none] [] M Q) : zBg d 31 0 [zR 3, zI x1, none, none, none, none, none] [] M Q :=
  zvc_ok (I := zm31) (cuts := [(10, [true, true, true, true, true, true, false])]) (n := 79) rfl h
set_option maxRecDepth 20000 in
theorem zv31_10 {d : Nat} {M : zMem} {Q : Option zV → zMem → Prop} (x1 : Int) (x2 : Int) (x3 : Int) (x4 : Int) (x5 : Int) (h :
  ((x5 : Int) ≥ x1 →
    ((x3 : Int) ≥ 0 →
      Q (zI x1) M) ∧
    (¬ (x3 : Int) ≥ 0 →
      ((x1 : Int) ≠ 0 →
        Q (zI (-1)) M) ∧
      (¬ (x1 : Int) ≠ 0 →
        Q (zI x1) M))) ∧
  (¬ (x5 : Int) ≥ x1 →
    (0 : Int) ≤ x5 ∧ (x5 : Int) < 120 ∧ ((M 3 x5.toNat : Int) ≠ 91 →
      ((M 3 x5.toNat : Int) ≠ 47 →
        ((M 3 x5.toNat : Int) ≠ 93 →
          ((x3 : Int) < 0 →
            zR32 (x5 + 1) ∧ zBg d 31 10 [zR 3, zI x1, zI x2, zI x3, zI x4, zI (x5 + 1), none] [] M Q) ∧
          (¬ (x3 : Int) < 0 →
            ((x4 : Int) ≠ 8 →
              zR32 (x4 + 1) ∧ zR32 (x5 + 1) ∧ zBg d 31 10 [zR 3, zI x1, zI x2, zI x3, zI (x4 + 1), zI (x5 + 1), none] [] M Q) ∧
            (¬ (x4 : Int) ≠ 8 →
              Q (zI x5) M))) ∧
        (¬ (M 3 x5.toNat : Int) ≠ 93 →
          ((x3 : Int) ≥ 1 →
            zR32 (x5 + 1) ∧ zBg d 31 10 [zR 3, zI x1, zI x2, zI (-1), zI x4, zI (x5 + 1), none] [] M Q) ∧
          (¬ (x3 : Int) ≥ 1 →
            Q (zI x5) M))) ∧
      (¬ (M 3 x5.toNat : Int) ≠ 47 →
        ((x3 : Int) < 0 →
          Q (zI x5) M) ∧
        (¬ (x3 : Int) < 0 →
          ((x3 : Int) ≠ 3 →
            zR32 (x3 + 1) ∧ zR32 (x5 + 1) ∧ zBg d 31 10 [zR 3, zI x1, zI x2, zI (x3 + 1), zI 0, zI (x5 + 1), none] [] M Q) ∧
          (¬ (x3 : Int) ≠ 3 →
            Q (zI x5) M)))) ∧
    (¬ (M 3 x5.toNat : Int) ≠ 91 →
      ((x3 : Int) ≥ 0 →
        Q (zI x5) M) ∧
      (¬ (x3 : Int) ≥ 0 →
        ((x2 : Int) ≠ 6 →
          zR32 (x2 + 1) ∧ zR32 (x5 + 1) ∧ zBg d 31 10 [zR 3, zI x1, zI (x2 + 1), zI 0, zI 0, zI (x5 + 1), none] [] M Q) ∧
        (¬ (x2 : Int) ≠ 6 →
          Q (zI x5) M))))) : zBg d 31 10 [zR 3, zI x1, zI x2, zI x3, zI x4, zI x5, none] [] M Q :=
  zvc_ok (I := zm31) (cuts := [(10, [true, true, true, true, true, true, false])]) (n := 79) rfl h
theorem zk31 {d : Nat} {M : zMem} {Q : Option zV → zMem → Prop} {x1 : Int} (h : zBg d 31 0 [zR 3, zI x1, none, none, none, none, none] [] M Q) : zCt d 31 [.inr (.inr 3), .inl x1] M Q := zCt_of (I := zm31) rfl rfl h
/-! CommaCopies$Letter.read([BI)V , as 32 -/
set_option maxRecDepth 20000 in
theorem zv32_0 {d : Nat} {M : zMem} {Q : Option zV → zMem → Prop} (x2 : Int) (h :
  ((1 : Int) = 0 ∨ (1 : Int) = 1) ∧ (0 : Int) ≤ 0 ∧ (0 : Int) ≤ 0 ∧ (0 : Int) ≤ x2 ∧ (0 : Int) + x2 ≤ 120 ∧ (0 : Int) + x2 ≤ 120 ∧ zBg d 32 31 [zR 13, zR 3, zI x2, zI 0, zI 0, none] [] (zcpy (zup (zup (zup M 13 4 1) 13 6 0) 13 5 x2) 3 0 14 0 x2.toNat) Q) : zBg d 32 0 [zR 13, zR 3, zI x2, none, none, none] [] M Q :=
  zvc_ok (I := zm32) (cuts := [(31, [true, true, true, true, true, false])]) (n := 95) rfl h
set_option maxRecDepth 20000 in
theorem zv32_31 {d : Nat} {M : zMem} {Q : Option zV → zMem → Prop} (x2 : Int) (x3 : Int) (x4 : Int) (h :
  ((x4 : Int) ≥ x2 →
    Q none M) ∧
  (¬ (x4 : Int) ≥ x2 →
    (0 : Int) ≤ x4 ∧ (x4 : Int) < 120 ∧ ((M 3 x4.toNat : Int) ≠ 91 →
      ((M 3 x4.toNat : Int) ≠ 47 →
        ((M 3 x4.toNat : Int) ≠ 93 →
          zR32 (x4 + 1) ∧ zBg d 32 31 [zR 13, zR 3, zI x2, zI x3, zI (x4 + 1), none] [] M Q) ∧
        (¬ (M 3 x4.toNat : Int) ≠ 93 →
          (0 : Int) ≤ x3 ∧ (x3 : Int) < 24 ∧ zR32 ((M 13 6) * 4) ∧ zR32 (x3 - ((M 13 6) * 4)) ∧ zR32 ((x3 - ((M 13 6) * 4)) + 1) ∧ (0 : Int) ≤ (M 13 6) ∧ (M 13 6 : Int) < 6 ∧ zR32 ((M 13 6) + 1) ∧ zR32 (x4 + 1) ∧ zBg d 32 31 [zR 13, zR 3, zI x2, zI x3, zI (x4 + 1), none] [] (zup (zup (zup M 17 x3.toNat x4) 15 ((M 13 6).toNat) ((x3 - ((M 13 6) * 4)) + 1)) 13 6 ((M 13 6) + 1)) Q)) ∧
      (¬ (M 3 x4.toNat : Int) ≠ 47 →
        (0 : Int) ≤ x3 ∧ (x3 : Int) < 24 ∧ zR32 (x3 + 1) ∧ zR32 (x4 + 1) ∧ (0 : Int) ≤ (x3 + 1) ∧ (x3 + 1 : Int) < 24 ∧ zR32 (x4 + 1) ∧ zBg d 32 31 [zR 13, zR 3, zI x2, zI (x3 + 1), zI (x4 + 1), none] [] (zup (zup M 17 x3.toNat x4) 16 ((x3 + 1).toNat) (x4 + 1)) Q)) ∧
    (¬ (M 3 x4.toNat : Int) ≠ 91 →
      zR32 ((M 13 6) * 4) ∧ zR32 (x4 + 1) ∧ (0 : Int) ≤ ((M 13 6) * 4) ∧ ((M 13 6) * 4 : Int) < 24 ∧ zR32 (x4 + 1) ∧ zBg d 32 31 [zR 13, zR 3, zI x2, zI ((M 13 6) * 4), zI (x4 + 1), none] [] (zup M 16 (((M 13 6) * 4).toNat) (x4 + 1)) Q))) : zBg d 32 31 [zR 13, zR 3, zI x2, zI x3, zI x4, none] [] M Q :=
  zvc_ok (I := zm32) (cuts := [(31, [true, true, true, true, true, false])]) (n := 95) rfl h
theorem zk32 {d : Nat} {M : zMem} {Q : Option zV → zMem → Prop} {x2 : Int} (h : zBg d 32 0 [zR 13, zR 3, zI x2, none, none, none] [] M Q) : zCt d 32 [.inr (.inr 13), .inr (.inr 3), .inl x2] M Q := zCt_of (I := zm32) rfl rfl h
/-! CommaCopies$Letter.takeFrom(LCommaCopies$Letter;)V a, as 33 -/
set_option maxRecDepth 20000 in
theorem zv33a_0 {d : Nat} {M : zMem} {Q : Option zV → zMem → Prop} (h :
  (0 : Int) ≤ 0 ∧ (0 : Int) ≤ 0 ∧ (0 : Int) ≤ 120 ∧ (0 : Int) + 120 ≤ 120 ∧ (0 : Int) + 120 ≤ 120 ∧ (0 : Int) ≤ 0 ∧ (0 : Int) ≤ 0 ∧ (0 : Int) ≤ 6 ∧ (0 : Int) + 6 ≤ 6 ∧ (0 : Int) + 6 ≤ 6 ∧ (0 : Int) ≤ 0 ∧ (0 : Int) ≤ 0 ∧ (0 : Int) ≤ 24 ∧ (0 : Int) + 24 ≤ 24 ∧ (0 : Int) + 24 ≤ 24 ∧ (0 : Int) ≤ 0 ∧ (0 : Int) ≤ 0 ∧ (0 : Int) ≤ 24 ∧ (0 : Int) + 24 ≤ 24 ∧ (0 : Int) + 24 ≤ 24 ∧ ((M 27 4 : Int) = 0 ∨ (M 27 4 : Int) = 1) ∧ Q none (zup (zup (zup (zcpy (zcpy (zcpy (zcpy M 28 0 14 0 120) 29 0 15 0 6) 30 0 16 0 24) 31 0 17 0 24) 13 4 (M 27 4)) 13 5 (M 27 5)) 13 6 (M 27 6))) : zBg d 33 0 [zR 13, zR 27] [] M Q :=
  zvc_ok (I := zm33) (cuts := []) (n := 50) rfl h
theorem zk33a {d : Nat} {M : zMem} {Q : Option zV → zMem → Prop} (h : zBg d 33 0 [zR 13, zR 27] [] M Q) : zCt d 33 [.inr (.inr 13), .inr (.inr 27)] M Q := zCt_of (I := zm33) rfl rfl h
/-! CommaCopies$Letter.takeFrom(LCommaCopies$Letter;)V b, as 33 -/
set_option maxRecDepth 20000 in
theorem zv33b_0 {d : Nat} {M : zMem} {Q : Option zV → zMem → Prop} (h :
  (0 : Int) ≤ 0 ∧ (0 : Int) ≤ 0 ∧ (0 : Int) ≤ 120 ∧ (0 : Int) + 120 ≤ 120 ∧ (0 : Int) + 120 ≤ 120 ∧ (0 : Int) ≤ 0 ∧ (0 : Int) ≤ 0 ∧ (0 : Int) ≤ 6 ∧ (0 : Int) + 6 ≤ 6 ∧ (0 : Int) + 6 ≤ 6 ∧ (0 : Int) ≤ 0 ∧ (0 : Int) ≤ 0 ∧ (0 : Int) ≤ 24 ∧ (0 : Int) + 24 ≤ 24 ∧ (0 : Int) + 24 ≤ 24 ∧ (0 : Int) ≤ 0 ∧ (0 : Int) ≤ 0 ∧ (0 : Int) ≤ 24 ∧ (0 : Int) + 24 ≤ 24 ∧ (0 : Int) + 24 ≤ 24 ∧ ((M 13 4 : Int) = 0 ∨ (M 13 4 : Int) = 1) ∧ Q none (zup (zup (zup (zcpy (zcpy (zcpy (zcpy M 14 0 28 0 120) 15 0 29 0 6) 16 0 30 0 24) 17 0 31 0 24) 27 4 (M 13 4)) 27 5 (M 13 5)) 27 6 (M 13 6))) : zBg d 33 0 [zR 27, zR 13] [] M Q :=
  zvc_ok (I := zm33) (cuts := []) (n := 50) rfl h
theorem zk33b {d : Nat} {M : zMem} {Q : Option zV → zMem → Prop} (h : zBg d 33 0 [zR 27, zR 13] [] M Q) : zCt d 33 [.inr (.inr 27), .inr (.inr 13)] M Q := zCt_of (I := zm33) rfl rfl h
/-! CommaCopies$Letter.isPlace(I)Z , as 34 -/
set_option maxRecDepth 20000 in
theorem zv34_0 {d : Nat} {M : zMem} {Q : Option zV → zMem → Prop} (x1 : Int) (h :
  ((x1 : Int) < 0 →
    ((0 : Int) = 0 ∨ (0 : Int) = 1) ∧ Q (zI 0) M) ∧
  (¬ (x1 : Int) < 0 →
    ((x1 : Int) ≥ (M 13 6) →
      ((0 : Int) = 0 ∨ (0 : Int) = 1) ∧ Q (zI 0) M) ∧
    (¬ (x1 : Int) ≥ (M 13 6) →
      ((1 : Int) = 0 ∨ (1 : Int) = 1) ∧ Q (zI 1) M))) : zBg d 34 0 [zR 13, zI x1] [] M Q :=
  zvc_ok (I := zm34) (cuts := []) (n := 15) rfl h
theorem zk34 {d : Nat} {M : zMem} {Q : Option zV → zMem → Prop} {x1 : Int} (h : zBg d 34 0 [zR 13, zI x1] [] M Q) : zCt d 34 [.inr (.inr 13), .inl x1] M Q := zCt_of (I := zm34) rfl rfl h
/-! CommaCopies$Letter.isChoice(II)Z , as 35 -/
set_option maxRecDepth 20000 in
theorem zv35_0 {d : Nat} {M : zMem} {Q : Option zV → zMem → Prop} (x1 : Int) (x2 : Int) (h :
  ∃ Q1, zCi d 34 [.inr (.inr 13), .inl x1] M Q1 ∧ ∀ v1 M1, Q1 v1 M1 →
  ((v1 : Int) = 0 →
    ((0 : Int) = 0 ∨ (0 : Int) = 1) ∧ Q (zI 0) M1) ∧
  (¬ (v1 : Int) = 0 →
    ((x2 : Int) < 0 →
      ((0 : Int) = 0 ∨ (0 : Int) = 1) ∧ Q (zI 0) M1) ∧
    (¬ (x2 : Int) < 0 →
      (0 : Int) ≤ x1 ∧ (x1 : Int) < 6 ∧ ((x2 : Int) ≥ (M1 15 x1.toNat) →
        ((0 : Int) = 0 ∨ (0 : Int) = 1) ∧ Q (zI 0) M1) ∧
      (¬ (x2 : Int) ≥ (M1 15 x1.toNat) →
        ((1 : Int) = 0 ∨ (1 : Int) = 1) ∧ Q (zI 1) M1)))) : zBg (d + 1) 35 0 [zR 13, zI x1, zI x2] [] M Q :=
  zvc_ok (I := zm35) (cuts := []) (n := 21) rfl h
theorem zk35 {d : Nat} {M : zMem} {Q : Option zV → zMem → Prop} {x1 : Int} {x2 : Int} (h : zBg d 35 0 [zR 13, zI x1, zI x2] [] M Q) : zCt d 35 [.inr (.inr 13), .inl x1, .inl x2] M Q := zCt_of (I := zm35) rfl rfl h
/-! CommaCopies$Letter.allPlaces()I , as 36 -/
set_option maxRecDepth 20000 in
theorem zv36_0 {d : Nat} {M : zMem} {Q : Option zV → zMem → Prop} (h :
  zR32 ((zishl 1 (M 13 6)) - 1) ∧ Q (zI ((zishl 1 (M 13 6)) - 1)) M) : zBg d 36 0 [zR 13] [] M Q :=
  zvc_ok (I := zm36) (cuts := []) (n := 12) rfl h
theorem zk36 {d : Nat} {M : zMem} {Q : Option zV → zMem → Prop} (h : zBg d 36 0 [zR 13] [] M Q) : zCt d 36 [.inr (.inr 13)] M Q := zCt_of (I := zm36) rfl rfl h
/-! CommaCopies$Letter.plainStart(I)I , as 37 -/
set_option maxRecDepth 20000 in
theorem zv37_0 {d : Nat} {M : zMem} {Q : Option zV → zMem → Prop} (x1 : Int) (h :
  ((x1 : Int) ≠ 0 →
    zR32 (x1 - 1) ∧ zR32 ((x1 - 1) * 4) ∧ zR32 (x1 - 1) ∧ (0 : Int) ≤ (x1 - 1) ∧ (x1 - 1 : Int) < 6 ∧ zR32 (((x1 - 1) * 4) + (M 15 ((x1 - 1).toNat))) ∧ zR32 ((((x1 - 1) * 4) + (M 15 ((x1 - 1).toNat))) - 1) ∧ (0 : Int) ≤ ((((x1 - 1) * 4) + (M 15 ((x1 - 1).toNat))) - 1) ∧ ((((x1 - 1) * 4) + (M 15 ((x1 - 1).toNat))) - 1 : Int) < 24 ∧ zR32 ((M 17 (((((x1 - 1) * 4) + (M 15 ((x1 - 1).toNat))) - 1).toNat)) + 1) ∧ Q (zI ((M 17 (((((x1 - 1) * 4) + (M 15 ((x1 - 1).toNat))) - 1).toNat)) + 1)) M) ∧
  (¬ (x1 : Int) ≠ 0 →
    Q (zI 0) M)) : zBg d 37 0 [zR 13, zI x1, none] [] M Q :=
  zvc_ok (I := zm37) (cuts := []) (n := 31) rfl h
theorem zk37 {d : Nat} {M : zMem} {Q : Option zV → zMem → Prop} {x1 : Int} (h : zBg d 37 0 [zR 13, zI x1, none] [] M Q) : zCt d 37 [.inr (.inr 13), .inl x1] M Q := zCt_of (I := zm37) rfl rfl h
/-! CommaCopies$Letter.plainEnd(I)I , as 38 -/
set_option maxRecDepth 20000 in
theorem zv38_0 {d : Nat} {M : zMem} {Q : Option zV → zMem → Prop} (x1 : Int) (h :
  ((x1 : Int) ≥ (M 13 6) →
    Q (zI (M 13 5)) M) ∧
  (¬ (x1 : Int) ≥ (M 13 6) →
    zR32 (x1 * 4) ∧ (0 : Int) ≤ (x1 * 4) ∧ (x1 * 4 : Int) < 24 ∧ zR32 ((M 16 ((x1 * 4).toNat)) - 1) ∧ Q (zI ((M 16 ((x1 * 4).toNat)) - 1)) M)) : zBg d 38 0 [zR 13, zI x1] [] M Q :=
  zvc_ok (I := zm38) (cuts := []) (n := 21) rfl h
theorem zk38 {d : Nat} {M : zMem} {Q : Option zV → zMem → Prop} {x1 : Int} (h : zBg d 38 0 [zR 13, zI x1] [] M Q) : zCt d 38 [.inr (.inr 13), .inl x1] M Q := zCt_of (I := zm38) rfl rfl h
end
section
/-! CommaCopies$Letter.byteAt([III)I , as 39 -/
set_option maxRecDepth 20000 in
theorem zv39_0 {d : Nat} {M : zMem} {Q : Option zV → zMem → Prop} (x2 : Int) (x3 : Int) (h :
  zBg d 39 6 [zR 13, zR 7, zI x2, none, zI x3, zI 0, none, none, none] [] M Q) : zBg d 39 0 [zR 13, zR 7, zI x2, zI x3, none, none, none, none, none] [] M Q :=
  zvc_ok (I := zm39) (cuts := [(6, [true, true, true, false, true, true, false, false, false])]) (n := 82) rfl h
set_option maxRecDepth 20000 in
theorem zv39_6 {d : Nat} {M : zMem} {Q : Option zV → zMem → Prop} (x2 : Int) (x4 : Int) (x5 : Int) (h :
  ((x5 : Int) > (M 13 6) →
    Q (zI (-4)) M) ∧
  (¬ (x5 : Int) > (M 13 6) →
    ∃ Q1, zCi d 37 [.inr (.inr 13), .inl x5] M Q1 ∧ ∀ v1 M1, Q1 v1 M1 →
    ∃ Q2, zCi d 38 [.inr (.inr 13), .inl x5] M1 Q2 ∧ ∀ v2 M2, Q2 v2 M2 →
    zR32 (v2 - v1) ∧ ((x4 : Int) ≥ (v2 - v1) →
      zR32 (x4 - (v2 - v1)) ∧ ((x5 : Int) ≥ (M2 13 6) →
        zR32 (x5 + 1) ∧ zBg (d + 1) 39 6 [zR 13, zR 7, zI x2, none, zI (x4 - (v2 - v1)), zI (x5 + 1), none, none, none] [] M2 Q) ∧
      (¬ (x5 : Int) ≥ (M2 13 6) →
        zR32 (x5 * 4) ∧ zR32 (x2 + x5) ∧ (0 : Int) ≤ (x2 + x5) ∧ (x2 + x5 : Int) < 48 ∧ zR32 ((x5 * 4) + (M2 7 ((x2 + x5).toNat))) ∧ (0 : Int) ≤ ((x5 * 4) + (M2 7 ((x2 + x5).toNat))) ∧ ((x5 * 4) + (M2 7 ((x2 + x5).toNat)) : Int) < 24 ∧ (0 : Int) ≤ ((x5 * 4) + (M2 7 ((x2 + x5).toNat))) ∧ ((x5 * 4) + (M2 7 ((x2 + x5).toNat)) : Int) < 24 ∧ zR32 ((M2 17 (((x5 * 4) + (M2 7 ((x2 + x5).toNat))).toNat)) - (M2 16 (((x5 * 4) + (M2 7 ((x2 + x5).toNat))).toNat))) ∧ ((x4 - (v2 - v1) : Int) ≥ ((M2 17 (((x5 * 4) + (M2 7 ((x2 + x5).toNat))).toNat)) - (M2 16 (((x5 * 4) + (M2 7 ((x2 + x5).toNat))).toNat))) →
          zR32 ((x4 - (v2 - v1)) - ((M2 17 (((x5 * 4) + (M2 7 ((x2 + x5).toNat))).toNat)) - (M2 16 (((x5 * 4) + (M2 7 ((x2 + x5).toNat))).toNat)))) ∧ zR32 (x5 + 1) ∧ zBg (d + 1) 39 6 [zR 13, zR 7, zI x2, none, zI ((x4 - (v2 - v1)) - ((M2 17 (((x5 * 4) + (M2 7 ((x2 + x5).toNat))).toNat)) - (M2 16 (((x5 * 4) + (M2 7 ((x2 + x5).toNat))).toNat)))), zI (x5 + 1), none, none, none] [] M2 Q) ∧
        (¬ (x4 - (v2 - v1) : Int) ≥ ((M2 17 (((x5 * 4) + (M2 7 ((x2 + x5).toNat))).toNat)) - (M2 16 (((x5 * 4) + (M2 7 ((x2 + x5).toNat))).toNat))) →
          (0 : Int) ≤ ((x5 * 4) + (M2 7 ((x2 + x5).toNat))) ∧ ((x5 * 4) + (M2 7 ((x2 + x5).toNat)) : Int) < 24 ∧ zR32 ((M2 16 (((x5 * 4) + (M2 7 ((x2 + x5).toNat))).toNat)) + (x4 - (v2 - v1))) ∧ (0 : Int) ≤ ((M2 16 (((x5 * 4) + (M2 7 ((x2 + x5).toNat))).toNat)) + (x4 - (v2 - v1))) ∧ ((M2 16 (((x5 * 4) + (M2 7 ((x2 + x5).toNat))).toNat)) + (x4 - (v2 - v1)) : Int) < 120 ∧ Q (zI (M2 14 (((M2 16 (((x5 * 4) + (M2 7 ((x2 + x5).toNat))).toNat)) + (x4 - (v2 - v1))).toNat))) M2))) ∧
    (¬ (x4 : Int) ≥ (v2 - v1) →
      zR32 (v1 + x4) ∧ (0 : Int) ≤ (v1 + x4) ∧ (v1 + x4 : Int) < 120 ∧ Q (zI (M2 14 ((v1 + x4).toNat))) M2))) : zBg (d + 1) 39 6 [zR 13, zR 7, zI x2, none, zI x4, zI x5, none, none, none] [] M Q :=
  zvc_ok (I := zm39) (cuts := [(6, [true, true, true, false, true, true, false, false, false])]) (n := 82) rfl h
theorem zk39 {d : Nat} {M : zMem} {Q : Option zV → zMem → Prop} {x2 : Int} {x3 : Int} (h : zBg d 39 0 [zR 13, zR 7, zI x2, zI x3, none, none, none, none, none] [] M Q) : zCt d 39 [.inr (.inr 13), .inr (.inr 7), .inl x2, .inl x3] M Q := zCt_of (I := zm39) rfl rfl h
/-! CommaCopies$Letter.countRows()I , as 40 -/
set_option maxRecDepth 20000 in
theorem zv40_0 {d : Nat} {M : zMem} {Q : Option zV → zMem → Prop} (h :
  zBg d 40 4 [zR 13, zI 1, zI 0] [] M Q) : zBg d 40 0 [zR 13, none, none] [] M Q :=
  zvc_ok (I := zm40) (cuts := [(4, [true, true, true])]) (n := 24) rfl h
set_option maxRecDepth 20000 in
theorem zv40_4 {d : Nat} {M : zMem} {Q : Option zV → zMem → Prop} (x1 : Int) (x2 : Int) (h :
  ((x2 : Int) ≥ (M 13 6) →
    Q (zI x1) M) ∧
  (¬ (x2 : Int) ≥ (M 13 6) →
    (0 : Int) ≤ x2 ∧ (x2 : Int) < 6 ∧ zR32 (x1 * (M 15 x2.toNat)) ∧ zR32 (x2 + 1) ∧ zBg d 40 4 [zR 13, zI (x1 * (M 15 x2.toNat)), zI (x2 + 1)] [] M Q)) : zBg d 40 4 [zR 13, zI x1, zI x2] [] M Q :=
  zvc_ok (I := zm40) (cuts := [(4, [true, true, true])]) (n := 24) rfl h
theorem zk40 {d : Nat} {M : zMem} {Q : Option zV → zMem → Prop} (h : zBg d 40 0 [zR 13, none, none] [] M Q) : zCt d 40 [.inr (.inr 13)] M Q := zCt_of (I := zm40) rfl rfl h
/-! CommaCopies$Letter.rowAt(I[I)V , as 41 -/
set_option maxRecDepth 20000 in
theorem zv41_0 {d : Nat} {M : zMem} {Q : Option zV → zMem → Prop} (x1 : Int) (h :
  zR32 ((M 13 6) - 1) ∧ zBg d 41 10 [zR 13, none, zR 1, zI x1, zI ((M 13 6) - 1), none] [] M Q) : zBg d 41 0 [zR 13, zI x1, zR 1, none, none, none] [] M Q :=
  zvc_ok (I := zm41) (cuts := [(10, [true, false, true, true, true, false])]) (n := 34) rfl h
set_option maxRecDepth 20000 in
theorem zv41_10 {d : Nat} {M : zMem} {Q : Option zV → zMem → Prop} (x3 : Int) (x4 : Int) (h :
  ((x4 : Int) < 0 →
    Q none M) ∧
  (¬ (x4 : Int) < 0 →
    (0 : Int) ≤ x4 ∧ (x4 : Int) < 6 ∧ (if 1 < (M 15 x4.toNat) then (M 15 x4.toNat) else 1 : Int) ≠ 0 ∧ (0 : Int) ≤ x4 ∧ (x4 : Int) < 6 ∧ (if 1 < (M 15 x4.toNat) then (M 15 x4.toNat) else 1 : Int) ≠ 0 ∧ zR32 (x4 + (-1)) ∧ zBg d 41 10 [zR 13, none, zR 1, zI (zidiv x3 (if 1 < (M 15 x4.toNat) then (M 15 x4.toNat) else 1)), zI (x4 + (-1)), none] [] (zup M 1 x4.toNat (zirem x3 (if 1 < (M 15 x4.toNat) then (M 15 x4.toNat) else 1))) Q)) : zBg d 41 10 [zR 13, none, zR 1, zI x3, zI x4, none] [] M Q :=
  zvc_ok (I := zm41) (cuts := [(10, [true, false, true, true, true, false])]) (n := 34) rfl h
theorem zk41 {d : Nat} {M : zMem} {Q : Option zV → zMem → Prop} {x1 : Int} (h : zBg d 41 0 [zR 13, zI x1, zR 1, none, none, none] [] M Q) : zCt d 41 [.inr (.inr 13), .inl x1, .inr (.inr 1)] M Q := zCt_of (I := zm41) rfl rfl h
/-! CommaCopies$Matcher.match(LCommaCopies$Letter;[BI[I)Z , as 42 -/
set_option maxRecDepth 20000 in
theorem zv42_0 {d : Nat} {M : zMem} {Q : Option zV → zMem → Prop} (x3 : Int) (h :
  zBg d 42 6 [zR 47, zR 13, zR 3, zI x3, zR 8, zI (M 13 6), none, none] [] M Q) : zBg d 42 0 [zR 47, zR 13, zR 3, zI x3, zR 8, none, none, none] [] M Q :=
  zvc_ok (I := zm42) (cuts := [(6, [true, true, true, true, true, true, false, false]), (14, [true, true, true, true, true, true, true, false]), (73, [true, true, false, false, true, true, true, false])]) (n := 81) rfl h
set_option maxRecDepth 20000 in
theorem zv42_6 {d : Nat} {M : zMem} {Q : Option zV → zMem → Prop} (x3 : Int) (x5 : Int) (h :
  ((x5 : Int) < 0 →
    (0 : Int) ≤ 0 ∧ (0 : Int) < 847 ∧ ((M 48 0 : Int) ≥ 0 →
      zBg d 42 73 [zR 47, zR 13, none, none, zR 8, zI 0, zI 0, none] [] M Q) ∧
    (¬ (M 48 0 : Int) ≥ 0 →
      ((0 : Int) = 0 ∨ (0 : Int) = 1) ∧ Q (zI 0) M)) ∧
  (¬ (x5 : Int) < 0 →
    zBg d 42 14 [zR 47, zR 13, zR 3, zI x3, zR 8, zI x5, zI 0, none] [] M Q)) : zBg d 42 6 [zR 47, zR 13, zR 3, zI x3, zR 8, zI x5, none, none] [] M Q :=
  zvc_ok (I := zm42) (cuts := [(6, [true, true, true, true, true, true, false, false]), (14, [true, true, true, true, true, true, true, false]), (73, [true, true, false, false, true, true, true, false])]) (n := 81) rfl h
set_option maxRecDepth 20000 in
theorem zv42_73 {d : Nat} {M : zMem} {Q : Option zV → zMem → Prop} (x5 : Int) (x6 : Int) (h :
  ((x6 : Int) ≥ (M 13 6) →
    ((1 : Int) = 0 ∨ (1 : Int) = 1) ∧ Q (zI 1) M) ∧
  (¬ (x6 : Int) ≥ (M 13 6) →
    zR32 (x6 * 121) ∧ zR32 ((x6 * 121) + x5) ∧ (0 : Int) ≤ ((x6 * 121) + x5) ∧ ((x6 * 121) + x5 : Int) < 847 ∧ (0 : Int) ≤ x6 ∧ (x6 : Int) < 6 ∧ ∃ Q1, zCi d 38 [.inr (.inr 13), .inl x6] (zup M 8 x6.toNat (M 48 (((x6 * 121) + x5).toNat))) Q1 ∧ ∀ v1 M1, Q1 v1 M1 →
    ∃ Q2, zCi d 37 [.inr (.inr 13), .inl x6] M1 Q2 ∧ ∀ v2 M2, Q2 v2 M2 →
    zR32 (v1 - v2) ∧ ∃ Q3, zCi d 44 [.inr (.inr 13), .inl x6, .inl (M 48 (((x6 * 121) + x5).toNat))] M2 Q3 ∧ ∀ v3 M3, Q3 v3 M3 →
    zR32 ((v1 - v2) + v3) ∧ zR32 (x5 + ((v1 - v2) + v3)) ∧ zR32 (x6 + 1) ∧ zBg (d + 1) 42 73 [zR 47, zR 13, none, none, zR 8, zI (x5 + ((v1 - v2) + v3)), zI (x6 + 1), none] [] M3 Q)) : zBg (d + 1) 42 73 [zR 47, zR 13, none, none, zR 8, zI x5, zI x6, none] [] M Q :=
  zvc_ok (I := zm42) (cuts := [(6, [true, true, true, true, true, true, false, false]), (14, [true, true, true, true, true, true, true, false]), (73, [true, true, false, false, true, true, true, false])]) (n := 81) rfl h
set_option maxRecDepth 20000 in
theorem zv42_14 {d : Nat} {M : zMem} {Q : Option zV → zMem → Prop} (x3 : Int) (x5 : Int) (x6 : Int) (h :
  ((x6 : Int) > x3 →
    zR32 (x5 + (-1)) ∧ zBg (d + 1) 42 6 [zR 47, zR 13, zR 3, zI x3, zR 8, zI (x5 + (-1)), none, none] [] M Q) ∧
  (¬ (x6 : Int) > x3 →
    zR32 (x5 * 121) ∧ zR32 ((x5 * 121) + x6) ∧ ∃ Q1, zCi d 43 [.inr (.inr 47), .inr (.inr 13), .inl x5, .inr (.inr 3), .inl x3, .inl x6] M Q1 ∧ ∀ v1 M1, Q1 v1 M1 →
    (0 : Int) ≤ ((x5 * 121) + x6) ∧ ((x5 * 121) + x6 : Int) < 847 ∧ zR32 (x6 + 1) ∧ zBg (d + 1) 42 14 [zR 47, zR 13, zR 3, zI x3, zR 8, zI x5, zI (x6 + 1), none] [] (zup M1 48 (((x5 * 121) + x6).toNat) v1) Q)) : zBg (d + 1) 42 14 [zR 47, zR 13, zR 3, zI x3, zR 8, zI x5, zI x6, none] [] M Q :=
  zvc_ok (I := zm42) (cuts := [(6, [true, true, true, true, true, true, false, false]), (14, [true, true, true, true, true, true, true, false]), (73, [true, true, false, false, true, true, true, false])]) (n := 81) rfl h
theorem zk42 {d : Nat} {M : zMem} {Q : Option zV → zMem → Prop} {x3 : Int} (h : zBg d 42 0 [zR 47, zR 13, zR 3, zI x3, zR 8, none, none, none] [] M Q) : zCt d 42 [.inr (.inr 47), .inr (.inr 13), .inr (.inr 3), .inl x3, .inr (.inr 8)] M Q := zCt_of (I := zm42) rfl rfl h
/-! CommaCopies$Matcher.pick(LCommaCopies$Letter;I[BII)I , as 43 -/
set_option maxRecDepth 20000 in
theorem zv43_0 {d : Nat} {M : zMem} {Q : Option zV → zMem → Prop} (x2 : Int) (x4 : Int) (x5 : Int) (h :
  ∃ Q1, zCi d 37 [.inr (.inr 13), .inl x2] M Q1 ∧ ∀ v1 M1, Q1 v1 M1 →
  ∃ Q2, zCi d 38 [.inr (.inr 13), .inl x2] M1 Q2 ∧ ∀ v2 M2, Q2 v2 M2 →
  ∃ Q3, zCi d 45 [.inr (.inr 13), .inl v1, .inl v2, .inr (.inr 3), .inl x4, .inl x5] M2 Q3 ∧ ∀ v3 M3, Q3 v3 M3 →
  ((v3 : Int) ≠ 0 →
    zR32 (x5 + v2) ∧ zR32 ((x5 + v2) - v1) ∧ ((x2 : Int) ≠ (M3 13 6) →
      zBg (d + 1) 43 66 [zR 47, zR 13, zI x2, zR 3, zI x4, none, none, none, zI ((x5 + v2) - v1), zI 0, none] [] M3 Q) ∧
    (¬ (x2 : Int) ≠ (M3 13 6) →
      (((x5 + v2) - v1 : Int) ≠ x4 →
        Q (zI (-1)) M3) ∧
      (¬ ((x5 + v2) - v1 : Int) ≠ x4 →
        Q (zI 0) M3))) ∧
  (¬ (v3 : Int) ≠ 0 →
    Q (zI (-1)) M3)) : zBg (d + 1) 43 0 [zR 47, zR 13, zI x2, zR 3, zI x4, zI x5, none, none, none, none, none] [] M Q :=
  zvc_ok (I := zm43) (cuts := [(66, [true, true, true, true, true, false, false, false, true, true, false])]) (n := 103) rfl h
set_option maxRecDepth 20000 in
theorem zv43_66 {d : Nat} {M : zMem} {Q : Option zV → zMem → Prop} (x2 : Int) (x4 : Int) (x8 : Int) (x9 : Int) (h :
  (0 : Int) ≤ x2 ∧ (x2 : Int) < 6 ∧ ((x9 : Int) ≥ (M 15 x2.toNat) →
    zR32 (x2 + 1) ∧ zR32 ((x2 + 1) * 121) ∧ zR32 (((x2 + 1) * 121) + x8) ∧ (0 : Int) ≤ (((x2 + 1) * 121) + x8) ∧ (((x2 + 1) * 121) + x8 : Int) < 847 ∧ ((M 48 ((((x2 + 1) * 121) + x8).toNat) : Int) < 0 →
      Q (zI (-1)) M) ∧
    (¬ (M 48 ((((x2 + 1) * 121) + x8).toNat) : Int) < 0 →
      Q (zI 4) M)) ∧
  (¬ (x9 : Int) ≥ (M 15 x2.toNat) →
    zR32 (x2 * 4) ∧ zR32 ((x2 * 4) + x9) ∧ (0 : Int) ≤ ((x2 * 4) + x9) ∧ ((x2 * 4) + x9 : Int) < 24 ∧ (0 : Int) ≤ ((x2 * 4) + x9) ∧ ((x2 * 4) + x9 : Int) < 24 ∧ ∃ Q1, zCi d 45 [.inr (.inr 13), .inl (M 16 (((x2 * 4) + x9).toNat)), .inl (M 17 (((x2 * 4) + x9).toNat)), .inr (.inr 3), .inl x4, .inl x8] M Q1 ∧ ∀ v1 M1, Q1 v1 M1 →
    ((v1 : Int) = 0 →
      zR32 (x9 + 1) ∧ zBg (d + 1) 43 66 [zR 47, zR 13, zI x2, zR 3, zI x4, none, none, none, zI x8, zI (x9 + 1), none] [] M1 Q) ∧
    (¬ (v1 : Int) = 0 →
      zR32 (x2 + 1) ∧ zR32 ((x2 + 1) * 121) ∧ zR32 (((x2 + 1) * 121) + x8) ∧ ∃ Q2, zCi d 44 [.inr (.inr 13), .inl x2, .inl x9] M1 Q2 ∧ ∀ v2 M2, Q2 v2 M2 →
      zR32 ((((x2 + 1) * 121) + x8) + v2) ∧ (0 : Int) ≤ ((((x2 + 1) * 121) + x8) + v2) ∧ ((((x2 + 1) * 121) + x8) + v2 : Int) < 847 ∧ ((M2 48 (((((x2 + 1) * 121) + x8) + v2).toNat) : Int) < 0 →
        zR32 (x9 + 1) ∧ zBg (d + 1) 43 66 [zR 47, zR 13, zI x2, zR 3, zI x4, none, none, none, zI x8, zI (x9 + 1), none] [] M2 Q) ∧
      (¬ (M2 48 (((((x2 + 1) * 121) + x8) + v2).toNat) : Int) < 0 →
        Q (zI x9) M2)))) : zBg (d + 1) 43 66 [zR 47, zR 13, zI x2, zR 3, zI x4, none, none, none, zI x8, zI x9, none] [] M Q :=
  zvc_ok (I := zm43) (cuts := [(66, [true, true, true, true, true, false, false, false, true, true, false])]) (n := 103) rfl h
theorem zk43 {d : Nat} {M : zMem} {Q : Option zV → zMem → Prop} {x2 : Int} {x4 : Int} {x5 : Int} (h : zBg d 43 0 [zR 47, zR 13, zI x2, zR 3, zI x4, zI x5, none, none, none, none, none] [] M Q) : zCt d 43 [.inr (.inr 47), .inr (.inr 13), .inl x2, .inr (.inr 3), .inl x4, .inl x5] M Q := zCt_of (I := zm43) rfl rfl h
/-! CommaCopies$Matcher.sizeOf(LCommaCopies$Letter;II)I , as 44 -/
set_option maxRecDepth 20000 in
theorem zv44_0 {d : Nat} {M : zMem} {Q : Option zV → zMem → Prop} (x1 : Int) (x2 : Int) (h :
  ((x2 : Int) ≠ 4 →
    zR32 (x1 * 4) ∧ zR32 ((x1 * 4) + x2) ∧ (0 : Int) ≤ ((x1 * 4) + x2) ∧ ((x1 * 4) + x2 : Int) < 24 ∧ (0 : Int) ≤ ((x1 * 4) + x2) ∧ ((x1 * 4) + x2 : Int) < 24 ∧ zR32 ((M 17 (((x1 * 4) + x2).toNat)) - (M 16 (((x1 * 4) + x2).toNat))) ∧ Q (zI ((M 17 (((x1 * 4) + x2).toNat)) - (M 16 (((x1 * 4) + x2).toNat)))) M) ∧
  (¬ (x2 : Int) ≠ 4 →
    Q (zI 0) M)) : zBg d 44 0 [zR 13, zI x1, zI x2, none] [] M Q :=
  zvc_ok (I := zm44) (cuts := []) (n := 26) rfl h
theorem zk44 {d : Nat} {M : zMem} {Q : Option zV → zMem → Prop} {x1 : Int} {x2 : Int} (h : zBg d 44 0 [zR 13, zI x1, zI x2, none] [] M Q) : zCt d 44 [.inr (.inr 13), .inl x1, .inl x2] M Q := zCt_of (I := zm44) rfl rfl h
/-! CommaCopies$Matcher.stands(LCommaCopies$Letter;II[BII)Z , as 45 -/
set_option maxRecDepth 20000 in
theorem zv45_0 {d : Nat} {M : zMem} {Q : Option zV → zMem → Prop} (x1 : Int) (x2 : Int) (x4 : Int) (x5 : Int) (h :
  zR32 (x2 - x1) ∧ zR32 (x4 - x5) ∧ ((x2 - x1 : Int) ≤ (x4 - x5) →
    zBg d 45 16 [zR 13, zI x1, zI x2, zR 3, none, zI x5, zI x1] [] M Q) ∧
  (¬ (x2 - x1 : Int) ≤ (x4 - x5) →
    ((0 : Int) = 0 ∨ (0 : Int) = 1) ∧ Q (zI 0) M)) : zBg d 45 0 [zR 13, zI x1, zI x2, zR 3, zI x4, zI x5, none] [] M Q :=
  zvc_ok (I := zm45) (cuts := [(16, [true, true, true, true, false, true, true])]) (n := 37) rfl h
set_option maxRecDepth 20000 in
theorem zv45_16 {d : Nat} {M : zMem} {Q : Option zV → zMem → Prop} (x1 : Int) (x2 : Int) (x5 : Int) (x6 : Int) (h :
  ((x6 : Int) ≥ x2 →
    ((1 : Int) = 0 ∨ (1 : Int) = 1) ∧ Q (zI 1) M) ∧
  (¬ (x6 : Int) ≥ x2 →
    (0 : Int) ≤ x6 ∧ (x6 : Int) < 120 ∧ zR32 (x5 + x6) ∧ zR32 ((x5 + x6) - x1) ∧ (0 : Int) ≤ ((x5 + x6) - x1) ∧ ((x5 + x6) - x1 : Int) < 120 ∧ ((M 14 x6.toNat : Int) = (M 3 (((x5 + x6) - x1).toNat)) →
      zR32 (x6 + 1) ∧ zBg d 45 16 [zR 13, zI x1, zI x2, zR 3, none, zI x5, zI (x6 + 1)] [] M Q) ∧
    (¬ (M 14 x6.toNat : Int) = (M 3 (((x5 + x6) - x1).toNat)) →
      ((0 : Int) = 0 ∨ (0 : Int) = 1) ∧ Q (zI 0) M))) : zBg d 45 16 [zR 13, zI x1, zI x2, zR 3, none, zI x5, zI x6] [] M Q :=
  zvc_ok (I := zm45) (cuts := [(16, [true, true, true, true, false, true, true])]) (n := 37) rfl h
theorem zk45 {d : Nat} {M : zMem} {Q : Option zV → zMem → Prop} {x1 : Int} {x2 : Int} {x4 : Int} {x5 : Int} (h : zBg d 45 0 [zR 13, zI x1, zI x2, zR 3, zI x4, zI x5, none] [] M Q) : zCt d 45 [.inr (.inr 13), .inl x1, .inl x2, .inr (.inr 3), .inl x4, .inl x5] M Q := zCt_of (I := zm45) rfl rfl h
/-! CommaCopies$Sheets.isSheet(I)Z , as 46 -/
set_option maxRecDepth 20000 in
theorem zv46_0 {d : Nat} {M : zMem} {Q : Option zV → zMem → Prop} (x0 : Int) (h :
  ((x0 : Int) < 0 →
    ((0 : Int) = 0 ∨ (0 : Int) = 1) ∧ Q (zI 0) M) ∧
  (¬ (x0 : Int) < 0 →
    ((x0 : Int) ≥ 4 →
      ((0 : Int) = 0 ∨ (0 : Int) = 1) ∧ Q (zI 0) M) ∧
    (¬ (x0 : Int) ≥ 4 →
      ((1 : Int) = 0 ∨ (1 : Int) = 1) ∧ Q (zI 1) M))) : zBg d 46 0 [zI x0] [] M Q :=
  zvc_ok (I := zm46) (cuts := []) (n := 14) rfl h
theorem zk46 {d : Nat} {M : zMem} {Q : Option zV → zMem → Prop} {x0 : Int} (h : zBg d 46 0 [zI x0] [] M Q) : zCt d 46 [.inl x0] M Q := zCt_of (I := zm46) rfl rfl h
/-! CommaCopies$Sheets.isLane(I)Z , as 47 -/
set_option maxRecDepth 20000 in
theorem zv47_0 {d : Nat} {M : zMem} {Q : Option zV → zMem → Prop} (x0 : Int) (h :
  ((x0 : Int) < 0 →
    ((0 : Int) = 0 ∨ (0 : Int) = 1) ∧ Q (zI 0) M) ∧
  (¬ (x0 : Int) < 0 →
    ((x0 : Int) ≥ 3 →
      ((0 : Int) = 0 ∨ (0 : Int) = 1) ∧ Q (zI 0) M) ∧
    (¬ (x0 : Int) ≥ 3 →
      ((1 : Int) = 0 ∨ (1 : Int) = 1) ∧ Q (zI 1) M))) : zBg d 47 0 [zI x0] [] M Q :=
  zvc_ok (I := zm47) (cuts := []) (n := 14) rfl h
theorem zk47 {d : Nat} {M : zMem} {Q : Option zV → zMem → Prop} {x0 : Int} (h : zBg d 47 0 [zI x0] [] M Q) : zCt d 47 [.inl x0] M Q := zCt_of (I := zm47) rfl rfl h
/-! CommaCopies$Sheets.lay(III)I , as 48 -/
set_option maxRecDepth 20000 in
theorem zv48_0 {d : Nat} {M : zMem} {Q : Option zV → zMem → Prop} (x1 : Int) (x2 : Int) (x3 : Int) (h :
  ∃ Q1, zCi d 46 [.inl x1] M Q1 ∧ ∀ v1 M1, Q1 v1 M1 →
  ((v1 : Int) = 0 →
    Q (zI (-1)) M1) ∧
  (¬ (v1 : Int) = 0 →
    ∃ Q2, zCi d 47 [.inl x2] M1 Q2 ∧ ∀ v2 M2, Q2 v2 M2 →
    ((v2 : Int) = 0 →
      Q (zI (-1)) M2) ∧
    (¬ (v2 : Int) = 0 →
      ((x3 : Int) ≤ 12 →
        ((x3 : Int) ≥ 0 →
          (0 : Int) ≤ x1 ∧ (x1 : Int) < 4 ∧ (0 : Int) ≤ x1 ∧ (x1 : Int) < 4 ∧ zBg (d + 1) 48 46 [zR 32, zI x1, none, zI x3, zI 0] [] (zup (zup M2 33 x1.toNat x2) 34 x1.toNat x3) Q) ∧
        (¬ (x3 : Int) ≥ 0 →
          Q (zI (-14)) M2)) ∧
      (¬ (x3 : Int) ≤ 12 →
        Q (zI (-1)) M2)))) : zBg (d + 1) 48 0 [zR 32, zI x1, zI x2, zI x3, none] [] M Q :=
  zvc_ok (I := zm48) (cuts := [(46, [true, true, false, true, true])]) (n := 48) rfl h
set_option maxRecDepth 20000 in
theorem zv48_46 {d : Nat} {M : zMem} {Q : Option zV → zMem → Prop} (x1 : Int) (x3 : Int) (x4 : Int) (h :
  ((x4 : Int) ≥ 12 →
    Q (zI x3) M) ∧
  (¬ (x4 : Int) ≥ 12 →
    zR32 (x1 * 12) ∧ zR32 ((x1 * 12) + x4) ∧ (0 : Int) ≤ ((x1 * 12) + x4) ∧ ((x1 * 12) + x4 : Int) < 48 ∧ zR32 (x4 + 1) ∧ zBg d 48 46 [zR 32, zI x1, none, zI x3, zI (x4 + 1)] [] (zup M 35 (((x1 * 12) + x4).toNat) 0) Q)) : zBg d 48 46 [zR 32, zI x1, none, zI x3, zI x4] [] M Q :=
  zvc_ok (I := zm48) (cuts := [(46, [true, true, false, true, true])]) (n := 48) rfl h
theorem zk48 {d : Nat} {M : zMem} {Q : Option zV → zMem → Prop} {x1 : Int} {x2 : Int} {x3 : Int} (h : zBg d 48 0 [zR 32, zI x1, zI x2, zI x3, none] [] M Q) : zCt d 48 [.inr (.inr 32), .inl x1, .inl x2, .inl x3] M Q := zCt_of (I := zm48) rfl rfl h
/-! CommaCopies$Sheets.remove(I)I , as 49 -/
set_option maxRecDepth 20000 in
theorem zv49_0 {d : Nat} {M : zMem} {Q : Option zV → zMem → Prop} (x1 : Int) (h :
  ∃ Q1, zCi d 46 [.inl x1] M Q1 ∧ ∀ v1 M1, Q1 v1 M1 →
  ((v1 : Int) ≠ 0 →
    (0 : Int) ≤ x1 ∧ (x1 : Int) < 4 ∧ ((M1 33 x1.toNat : Int) ≠ (-1) →
      (0 : Int) ≤ x1 ∧ (x1 : Int) < 4 ∧ (0 : Int) ≤ x1 ∧ (x1 : Int) < 4 ∧ Q (zI (M1 34 x1.toNat)) (zup M1 33 x1.toNat (-1))) ∧
    (¬ (M1 33 x1.toNat : Int) ≠ (-1) →
      Q (zI (-11)) M1)) ∧
  (¬ (v1 : Int) ≠ 0 →
    Q (zI (-1)) M1)) : zBg (d + 1) 49 0 [zR 32, zI x1] [] M Q :=
  zvc_ok (I := zm49) (cuts := []) (n := 28) rfl h
theorem zk49 {d : Nat} {M : zMem} {Q : Option zV → zMem → Prop} {x1 : Int} (h : zBg d 49 0 [zR 32, zI x1] [] M Q) : zCt d 49 [.inr (.inr 32), .inl x1] M Q := zCt_of (I := zm49) rfl rfl h
/-! CommaCopies$Sheets.refusal(IIII)I , as 50 -/
set_option maxRecDepth 20000 in
theorem zv50_0 {d : Nat} {M : zMem} {Q : Option zV → zMem → Prop} (x1 : Int) (x2 : Int) (x3 : Int) (x4 : Int) (h :
  ∃ Q1, zCi d 46 [.inl x1] M Q1 ∧ ∀ v1 M1, Q1 v1 M1 →
  ((v1 : Int) = 0 →
    Q (zI (-1)) M1) ∧
  (¬ (v1 : Int) = 0 →
    ∃ Q2, zCi d 47 [.inl x2] M1 Q2 ∧ ∀ v2 M2, Q2 v2 M2 →
    ((v2 : Int) ≠ 0 →
      (0 : Int) ≤ x1 ∧ (x1 : Int) < 4 ∧ ((M2 33 x1.toNat : Int) ≠ (-1) →
        (0 : Int) ≤ x1 ∧ (x1 : Int) < 4 ∧ ((M2 33 x1.toNat : Int) = x2 →
          ∃ Q3, zCi d 51 [.inr (.inr 32), .inl x1, .inl x3, .inl x4] M2 Q3 ∧ ∀ v3 M3, Q3 v3 M3 →
          ((v3 : Int) = 0 →
            Q (zI (-13)) M3) ∧
          (¬ (v3 : Int) = 0 →
            Q (zI 0) M3)) ∧
        (¬ (M2 33 x1.toNat : Int) = x2 →
          Q (zI (-12)) M2)) ∧
      (¬ (M2 33 x1.toNat : Int) ≠ (-1) →
        Q (zI (-11)) M2)) ∧
    (¬ (v2 : Int) ≠ 0 →
      Q (zI (-1)) M2))) : zBg (d + 1) 50 0 [zR 32, zI x1, zI x2, zI x3, zI x4] [] M Q :=
  zvc_ok (I := zm50) (cuts := []) (n := 39) rfl h
theorem zk50 {d : Nat} {M : zMem} {Q : Option zV → zMem → Prop} {x1 : Int} {x2 : Int} {x3 : Int} {x4 : Int} (h : zBg d 50 0 [zR 32, zI x1, zI x2, zI x3, zI x4] [] M Q) : zCt d 50 [.inr (.inr 32), .inl x1, .inl x2, .inl x3, .inl x4] M Q := zCt_of (I := zm50) rfl rfl h
/-! CommaCopies$Sheets.has(III)Z , as 51 -/
set_option maxRecDepth 20000 in
theorem zv51_0 {d : Nat} {M : zMem} {Q : Option zV → zMem → Prop} (x1 : Int) (x2 : Int) (x3 : Int) (h :
  ((x2 : Int) < 0 →
    ((0 : Int) = 0 ∨ (0 : Int) = 1) ∧ Q (zI 0) M) ∧
  (¬ (x2 : Int) < 0 →
    ((x3 : Int) < 0 →
      ((0 : Int) = 0 ∨ (0 : Int) = 1) ∧ Q (zI 0) M) ∧
    (¬ (x3 : Int) < 0 →
      (0 : Int) ≤ x1 ∧ (x1 : Int) < 4 ∧ ((x3 : Int) > (M 34 x1.toNat) →
        ((0 : Int) = 0 ∨ (0 : Int) = 1) ∧ Q (zI 0) M) ∧
      (¬ (x3 : Int) > (M 34 x1.toNat) →
        (0 : Int) ≤ x1 ∧ (x1 : Int) < 4 ∧ zR32 ((M 34 x1.toNat) - x3) ∧ ((x2 : Int) > ((M 34 x1.toNat) - x3) →
          ((0 : Int) = 0 ∨ (0 : Int) = 1) ∧ Q (zI 0) M) ∧
        (¬ (x2 : Int) > ((M 34 x1.toNat) - x3) →
          ((1 : Int) = 0 ∨ (1 : Int) = 1) ∧ Q (zI 1) M))))) : zBg d 51 0 [zR 32, zI x1, zI x2, zI x3] [] M Q :=
  zvc_ok (I := zm51) (cuts := []) (n := 27) rfl h
theorem zk51 {d : Nat} {M : zMem} {Q : Option zV → zMem → Prop} {x1 : Int} {x2 : Int} {x3 : Int} (h : zBg d 51 0 [zR 32, zI x1, zI x2, zI x3] [] M Q) : zCt d 51 [.inr (.inr 32), .inl x1, .inl x2, .inl x3] M Q := zCt_of (I := zm51) rfl rfl h
/-! CommaCopies$Sheets.narrowed(II)I , as 52 -/
set_option maxRecDepth 20000 in
theorem zv52_0 {d : Nat} {M : zMem} {Q : Option zV → zMem → Prop} (x0 : Int) (x1 : Int) (h :
  ((x0 : Int) ≠ 0 →
    ((x0 : Int) ≠ 1 →
      Q (zI x1) M) ∧
    (¬ (x0 : Int) ≠ 1 →
      Q (zI (zi2s x1)) M)) ∧
  (¬ (x0 : Int) ≠ 0 →
    Q (zI (zi2b x1)) M)) : zBg d 52 0 [zI x0, zI x1] [] M Q :=
  zvc_ok (I := zm52) (cuts := []) (n := 18) rfl h
theorem zk52 {d : Nat} {M : zMem} {Q : Option zV → zMem → Prop} {x0 : Int} {x1 : Int} (h : zBg d 52 0 [zI x0, zI x1] [] M Q) : zCt d 52 [.inl x0, .inl x1] M Q := zCt_of (I := zm52) rfl rfl h
/-! CommaCopies$Sheets.move(IIIII)I , as 53 -/
set_option maxRecDepth 20000 in
theorem zv53_0 {d : Nat} {M : zMem} {Q : Option zV → zMem → Prop} (x1 : Int) (x2 : Int) (x3 : Int) (x4 : Int) (x5 : Int) (h :
  ∃ Q1, zCi d 46 [.inl x1] M Q1 ∧ ∀ v1 M1, Q1 v1 M1 →
  ((v1 : Int) = 0 →
    Q (zI (-1)) M1) ∧
  (¬ (v1 : Int) = 0 →
    ∃ Q2, zCi d 46 [.inl x3] M1 Q2 ∧ ∀ v2 M2, Q2 v2 M2 →
    ((v2 : Int) ≠ 0 →
      (0 : Int) ≤ x1 ∧ (x1 : Int) < 4 ∧ ((M2 33 x1.toNat : Int) = (-1) →
        Q (zI (-11)) M2) ∧
      (¬ (M2 33 x1.toNat : Int) = (-1) →
        (0 : Int) ≤ x3 ∧ (x3 : Int) < 4 ∧ ((M2 33 x3.toNat : Int) ≠ (-1) →
          (0 : Int) ≤ x1 ∧ (x1 : Int) < 4 ∧ (0 : Int) ≤ x3 ∧ (x3 : Int) < 4 ∧ ((M2 33 x1.toNat : Int) = (M2 33 x3.toNat) →
            ∃ Q3, zCi d 51 [.inr (.inr 32), .inl x1, .inl x2, .inl x5] M2 Q3 ∧ ∀ v3 M3, Q3 v3 M3 →
            ((v3 : Int) = 0 →
              Q (zI (-13)) M3) ∧
            (¬ (v3 : Int) = 0 →
              ∃ Q4, zCi d 51 [.inr (.inr 32), .inl x3, .inl x4, .inl x5] M3 Q4 ∧ ∀ v4 M4, Q4 v4 M4 →
              ((v4 : Int) ≠ 0 →
                zR32 (x1 * 12) ∧ zR32 ((x1 * 12) + x2) ∧ zR32 (x3 * 12) ∧ zR32 ((x3 * 12) + x4) ∧ (0 : Int) ≤ ((x1 * 12) + x2) ∧ (0 : Int) ≤ ((x3 * 12) + x4) ∧ (0 : Int) ≤ x5 ∧ (((x1 * 12) + x2) : Int) + x5 ≤ 48 ∧ (((x3 * 12) + x4) : Int) + x5 ≤ 48 ∧ Q (zI x5) (zcpy M4 35 (((x1 * 12) + x2).toNat) 35 (((x3 * 12) + x4).toNat) x5.toNat)) ∧
              (¬ (v4 : Int) ≠ 0 →
                Q (zI (-13)) M4))) ∧
          (¬ (M2 33 x1.toNat : Int) = (M2 33 x3.toNat) →
            Q (zI (-12)) M2)) ∧
        (¬ (M2 33 x3.toNat : Int) ≠ (-1) →
          Q (zI (-11)) M2))) ∧
    (¬ (v2 : Int) ≠ 0 →
      Q (zI (-1)) M2))) : zBg (d + 1) 53 0 [zR 32, zI x1, zI x2, zI x3, zI x4, zI x5] [] M Q :=
  zvc_ok (I := zm53) (cuts := []) (n := 70) rfl h
theorem zk53 {d : Nat} {M : zMem} {Q : Option zV → zMem → Prop} {x1 : Int} {x2 : Int} {x3 : Int} {x4 : Int} {x5 : Int} (h : zBg d 53 0 [zR 32, zI x1, zI x2, zI x3, zI x4, zI x5] [] M Q) : zCt d 53 [.inr (.inr 32), .inl x1, .inl x2, .inl x3, .inl x4, .inl x5] M Q := zCt_of (I := zm53) rfl rfl h
/-! CommaCopies$State.begin(LCommaCopies$Tape;)V , as 54 -/
set_option maxRecDepth 20000 in
theorem zv54_0 {d : Nat} {M : zMem} {Q : Option zV → zMem → Prop} (h :
  ∃ Q1, zCv d 32 [.inr (.inr 13), .inr (.inr 3), .inl (M 2 1)] M Q1 ∧ ∀ M1, Q1 M1 →
  ∃ Q2, zCv d 182 [.inr (.inr 5), .inl 0] M1 Q2 ∧ ∀ M2, Q2 M2 →
  ∃ Q3, zCv d 182 [.inr (.inr 6), .inl (-1)] M2 Q3 ∧ ∀ M3, Q3 M3 →
  ∃ Q4, zCv d 182 [.inr (.inr 8), .inl 5] M3 Q4 ∧ ∀ M4, Q4 M4 →
  Q none (zup (zup M4 4 9 0) 4 10 0)) : zBg (d + 1) 54 0 [zR 4, zR 2] [] M Q :=
  zvc_ok (I := zm54) (cuts := []) (n := 31) rfl h
theorem zk54 {d : Nat} {M : zMem} {Q : Option zV → zMem → Prop} (h : zBg d 54 0 [zR 4, zR 2] [] M Q) : zCt d 54 [.inr (.inr 4), .inr (.inr 2)] M Q := zCt_of (I := zm54) rfl rfl h
/-! CommaCopies$State.takeFrom(LCommaCopies$State;)V a, as 55 -/
set_option maxRecDepth 20000 in
theorem zv55a_0 {d : Nat} {M : zMem} {Q : Option zV → zMem → Prop} (h :
  ∃ Q1, zCv d 33 [.inr (.inr 13), .inr (.inr 27)] M Q1 ∧ ∀ M1, Q1 M1 →
  (0 : Int) ≤ 0 ∧ (0 : Int) ≤ 0 ∧ (0 : Int) ≤ 24 ∧ (0 : Int) + 24 ≤ 24 ∧ (0 : Int) + 24 ≤ 24 ∧ (0 : Int) ≤ 0 ∧ (0 : Int) ≤ 0 ∧ (0 : Int) ≤ 6 ∧ (0 : Int) + 6 ≤ 6 ∧ (0 : Int) + 6 ≤ 6 ∧ (0 : Int) ≤ 0 ∧ (0 : Int) ≤ 0 ∧ (0 : Int) ≤ 48 ∧ (0 : Int) + 48 ≤ 48 ∧ (0 : Int) + 48 ≤ 48 ∧ (0 : Int) ≤ 0 ∧ (0 : Int) ≤ 0 ∧ (0 : Int) ≤ 6 ∧ (0 : Int) + 6 ≤ 6 ∧ (0 : Int) + 6 ≤ 6 ∧ (0 : Int) ≤ 0 ∧ (0 : Int) ≤ 0 ∧ (0 : Int) ≤ 36 ∧ (0 : Int) + 36 ≤ 36 ∧ (0 : Int) + 36 ≤ 36 ∧ (0 : Int) ≤ 0 ∧ (0 : Int) ≤ 0 ∧ (0 : Int) ≤ 6 ∧ (0 : Int) + 6 ≤ 6 ∧ (0 : Int) + 6 ≤ 6 ∧ (0 : Int) ≤ 0 ∧ (0 : Int) ≤ 0 ∧ (0 : Int) ≤ 6 ∧ (0 : Int) + 6 ≤ 6 ∧ (0 : Int) + 6 ≤ 6 ∧ Q none (zup (zup (zup (zup (zcpy (zcpy (zcpy (zcpy (zcpy (zcpy (zcpy M1 19 0 5 0 24) 20 0 6 0 6) 21 0 7 0 48) 22 0 8 0 6) 23 0 9 0 36) 24 0 10 0 6) 25 0 11 0 6) 4 9 (M1 18 9)) 4 10 (M1 18 10)) 4 11 (M1 18 11)) 4 12 (M1 18 12))) : zBg (d + 1) 55 0 [zR 4, zR 18] [] M Q :=
  zvc_ok (I := zm55) (cuts := []) (n := 83) rfl h
theorem zk55a {d : Nat} {M : zMem} {Q : Option zV → zMem → Prop} (h : zBg d 55 0 [zR 4, zR 18] [] M Q) : zCt d 55 [.inr (.inr 4), .inr (.inr 18)] M Q := zCt_of (I := zm55) rfl rfl h
/-! CommaCopies$State.takeFrom(LCommaCopies$State;)V b, as 55 -/
set_option maxRecDepth 20000 in
theorem zv55b_0 {d : Nat} {M : zMem} {Q : Option zV → zMem → Prop} (h :
  ∃ Q1, zCv d 33 [.inr (.inr 27), .inr (.inr 13)] M Q1 ∧ ∀ M1, Q1 M1 →
  (0 : Int) ≤ 0 ∧ (0 : Int) ≤ 0 ∧ (0 : Int) ≤ 24 ∧ (0 : Int) + 24 ≤ 24 ∧ (0 : Int) + 24 ≤ 24 ∧ (0 : Int) ≤ 0 ∧ (0 : Int) ≤ 0 ∧ (0 : Int) ≤ 6 ∧ (0 : Int) + 6 ≤ 6 ∧ (0 : Int) + 6 ≤ 6 ∧ (0 : Int) ≤ 0 ∧ (0 : Int) ≤ 0 ∧ (0 : Int) ≤ 48 ∧ (0 : Int) + 48 ≤ 48 ∧ (0 : Int) + 48 ≤ 48 ∧ (0 : Int) ≤ 0 ∧ (0 : Int) ≤ 0 ∧ (0 : Int) ≤ 6 ∧ (0 : Int) + 6 ≤ 6 ∧ (0 : Int) + 6 ≤ 6 ∧ (0 : Int) ≤ 0 ∧ (0 : Int) ≤ 0 ∧ (0 : Int) ≤ 36 ∧ (0 : Int) + 36 ≤ 36 ∧ (0 : Int) + 36 ≤ 36 ∧ (0 : Int) ≤ 0 ∧ (0 : Int) ≤ 0 ∧ (0 : Int) ≤ 6 ∧ (0 : Int) + 6 ≤ 6 ∧ (0 : Int) + 6 ≤ 6 ∧ (0 : Int) ≤ 0 ∧ (0 : Int) ≤ 0 ∧ (0 : Int) ≤ 6 ∧ (0 : Int) + 6 ≤ 6 ∧ (0 : Int) + 6 ≤ 6 ∧ Q none (zup (zup (zup (zup (zcpy (zcpy (zcpy (zcpy (zcpy (zcpy (zcpy M1 5 0 19 0 24) 6 0 20 0 6) 7 0 21 0 48) 8 0 22 0 6) 9 0 23 0 36) 10 0 24 0 6) 11 0 25 0 6) 18 9 (M1 4 9)) 18 10 (M1 4 10)) 18 11 (M1 4 11)) 18 12 (M1 4 12))) : zBg (d + 1) 55 0 [zR 18, zR 4] [] M Q :=
  zvc_ok (I := zm55) (cuts := []) (n := 83) rfl h
theorem zk55b {d : Nat} {M : zMem} {Q : Option zV → zMem → Prop} (h : zBg d 55 0 [zR 18, zR 4] [] M Q) : zCt d 55 [.inr (.inr 18), .inr (.inr 4)] M Q := zCt_of (I := zm55) rfl rfl h
/-! CommaCopies$State.isCopy(I)Z , as 56 -/
set_option maxRecDepth 20000 in
theorem zv56_0 {d : Nat} {M : zMem} {Q : Option zV → zMem → Prop} (x1 : Int) (h :
  ((x1 : Int) < 0 →
    ((0 : Int) = 0 ∨ (0 : Int) = 1) ∧ Q (zI 0) M) ∧
  (¬ (x1 : Int) < 0 →
    ((x1 : Int) ≥ (M 4 9) →
      ((0 : Int) = 0 ∨ (0 : Int) = 1) ∧ Q (zI 0) M) ∧
    (¬ (x1 : Int) ≥ (M 4 9) →
      ((1 : Int) = 0 ∨ (1 : Int) = 1) ∧ Q (zI 1) M))) : zBg d 56 0 [zR 4, zI x1] [] M Q :=
  zvc_ok (I := zm56) (cuts := []) (n := 15) rfl h
theorem zk56 {d : Nat} {M : zMem} {Q : Option zV → zMem → Prop} {x1 : Int} (h : zBg d 56 0 [zR 4, zI x1] [] M Q) : zCt d 56 [.inr (.inr 4), .inl x1] M Q := zCt_of (I := zm56) rfl rfl h
/-! CommaCopies$State.isSet(I)Z , as 57 -/
set_option maxRecDepth 20000 in
theorem zv57_0 {d : Nat} {M : zMem} {Q : Option zV → zMem → Prop} (x1 : Int) (h :
  ((x1 : Int) ≤ 0 →
    ((0 : Int) = 0 ∨ (0 : Int) = 1) ∧ Q (zI 0) M) ∧
  (¬ (x1 : Int) ≤ 0 →
    ((x1 : Int) ≥ (zishl 1 (M 4 9)) →
      ((0 : Int) = 0 ∨ (0 : Int) = 1) ∧ Q (zI 0) M) ∧
    (¬ (x1 : Int) ≥ (zishl 1 (M 4 9)) →
      ((1 : Int) = 0 ∨ (1 : Int) = 1) ∧ Q (zI 1) M))) : zBg d 57 0 [zR 4, zI x1] [] M Q :=
  zvc_ok (I := zm57) (cuts := []) (n := 17) rfl h
theorem zk57 {d : Nat} {M : zMem} {Q : Option zV → zMem → Prop} {x1 : Int} (h : zBg d 57 0 [zR 4, zI x1] [] M Q) : zCt d 57 [.inr (.inr 4), .inl x1] M Q := zCt_of (I := zm57) rfl rfl h
/-! CommaCopies$State.addCopy([II)I , as 58 -/
set_option maxRecDepth 20000 in
theorem zv58_0 {d : Nat} {M : zMem} {Q : Option zV → zMem → Prop} (x2 : Int) (h :
  ((M 13 4 : Int) ≠ 0 →
    zBg d 58 15 [zR 4, zR 35, zI x2, zI 0] [] M Q) ∧
  (¬ (M 13 4 : Int) ≠ 0 →
    Q (zI (-2)) M)) : zBg d 58 0 [zR 4, zR 35, zI x2, none] [] M Q :=
  zvc_ok (I := zm58) (cuts := [(15, [true, true, true, true])]) (n := 61) rfl h
set_option maxRecDepth 20000 in
theorem zv58_15 {d : Nat} {M : zMem} {Q : Option zV → zMem → Prop} (x2 : Int) (x3 : Int) (h :
  ((x3 : Int) ≥ (M 13 6) →
    ((M 4 9 : Int) < 8 →
      zR32 ((M 4 9) * 6) ∧ (0 : Int) ≤ x2 ∧ (0 : Int) ≤ ((M 4 9) * 6) ∧ (0 : Int) ≤ (M 13 6) ∧ (x2 : Int) + (M 13 6) ≤ 48 ∧ (((M 4 9) * 6) : Int) + (M 13 6) ≤ 48 ∧ zR32 ((M 4 9) + 1) ∧ zR32 (((M 4 9) + 1) - 1) ∧ Q (zI (((M 4 9) + 1) - 1)) (zup (zcpy M 35 x2.toNat 7 (((M 4 9) * 6).toNat) ((M 13 6).toNat)) 4 9 ((M 4 9) + 1))) ∧
    (¬ (M 4 9 : Int) < 8 →
      Q (zI (-3)) M)) ∧
  (¬ (x3 : Int) ≥ (M 13 6) →
    zR32 (x2 + x3) ∧ (0 : Int) ≤ (x2 + x3) ∧ (x2 + x3 : Int) < 48 ∧ ∃ Q1, zCi d 35 [.inr (.inr 13), .inl x3, .inl (M 35 ((x2 + x3).toNat))] M Q1 ∧ ∀ v1 M1, Q1 v1 M1 →
    ((v1 : Int) ≠ 0 →
      zR32 (x3 + 1) ∧ zBg (d + 1) 58 15 [zR 4, zR 35, zI x2, zI (x3 + 1)] [] M1 Q) ∧
    (¬ (v1 : Int) ≠ 0 →
      Q (zI (-2)) M1))) : zBg (d + 1) 58 15 [zR 4, zR 35, zI x2, zI x3] [] M Q :=
  zvc_ok (I := zm58) (cuts := [(15, [true, true, true, true])]) (n := 61) rfl h
theorem zk58 {d : Nat} {M : zMem} {Q : Option zV → zMem → Prop} {x2 : Int} (h : zBg d 58 0 [zR 4, zR 35, zI x2, none] [] M Q) : zCt d 58 [.inr (.inr 4), .inr (.inr 35), .inl x2] M Q := zCt_of (I := zm58) rfl rfl h
/-! CommaCopies$State.addPast()I , as 59 -/
set_option maxRecDepth 20000 in
theorem zv59_0 {d : Nat} {M : zMem} {Q : Option zV → zMem → Prop} (h :
  ((M 4 10 : Int) < 6 →
    zR32 ((M 4 10) * 6) ∧ (0 : Int) ≤ 0 ∧ (0 : Int) ≤ ((M 4 10) * 6) ∧ (0 : Int) ≤ 6 ∧ (0 : Int) + 6 ≤ 6 ∧ (((M 4 10) * 6) : Int) + 6 ≤ 36 ∧ (0 : Int) ≤ (M 4 10) ∧ (M 4 10 : Int) < 6 ∧ (0 : Int) ≤ (M 4 10) ∧ (M 4 10 : Int) < 6 ∧ zR32 ((M 4 10) + 1) ∧ zR32 (((M 4 10) + 1) - 1) ∧ Q (zI (((M 4 10) + 1) - 1)) (zup (zup (zup (zcpy M 8 0 9 (((M 4 10) * 6).toNat) 6) 10 ((M 4 10).toNat) (M 4 11)) 11 ((M 4 10).toNat) (M 4 12)) 4 10 ((M 4 10) + 1))) ∧
  (¬ (M 4 10 : Int) < 6 →
    Q (zI (-3)) M)) : zBg d 59 0 [zR 4] [] M Q :=
  zvc_ok (I := zm59) (cuts := []) (n := 47) rfl h
theorem zk59 {d : Nat} {M : zMem} {Q : Option zV → zMem → Prop} (h : zBg d 59 0 [zR 4] [] M Q) : zCt d 59 [.inr (.inr 4)] M Q := zCt_of (I := zm59) rfl rfl h
/-! CommaCopies$State.bitsOf([II)I , as 60 -/
set_option maxRecDepth 20000 in
theorem zv60_0 {d : Nat} {M : zMem} {Q : Option zV → zMem → Prop} (a1 : Nat) (x2 : Int) (h :
  zBg d 60 5 [zR 4, zR a1, zI x2, zI 0, zI 0] [] M Q) : zBg d 60 0 [zR 4, zR a1, zI x2, none, none] [] M Q :=
  zvc_ok (I := zm60) (cuts := [(5, [true, true, true, true, true])]) (n := 39) rfl h
set_option maxRecDepth 20000 in
theorem zv60_5 {d : Nat} {M : zMem} {Q : Option zV → zMem → Prop} (a1 : Nat) (x2 : Int) (x3 : Int) (x4 : Int) (h :
  ((x4 : Int) ≥ (M 13 6) →
    Q (zI x3) M) ∧
  (¬ (x4 : Int) ≥ (M 13 6) →
    zR32 (x2 + x4) ∧ zar a1 0 fun n => (0 : Int) ≤ (x2 + x4) ∧ (x2 + x4 : Int) < n ∧ ((M a1 ((x2 + x4).toNat) : Int) = 5 →
      zR32 (x4 + 1) ∧ zBg d 60 5 [zR 4, zR a1, zI x2, zI x3, zI (x4 + 1)] [] M Q) ∧
    (¬ (M a1 ((x2 + x4).toNat) : Int) = 5 →
      zR32 (5 * x4) ∧ zR32 (x2 + x4) ∧ zar a1 0 fun n => (0 : Int) ≤ (x2 + x4) ∧ (x2 + x4 : Int) < n ∧ zR32 ((5 * x4) + (M a1 ((x2 + x4).toNat))) ∧ zR32 (x4 + 1) ∧ zBg d 60 5 [zR 4, zR a1, zI x2, zI (zior x3 (zishl 1 ((5 * x4) + (M a1 ((x2 + x4).toNat))))), zI (x4 + 1)] [] M Q))) : zBg d 60 5 [zR 4, zR a1, zI x2, zI x3, zI x4] [] M Q :=
  zvc_ok (I := zm60) (cuts := [(5, [true, true, true, true, true])]) (n := 39) rfl h
theorem zk60 {d : Nat} {M : zMem} {Q : Option zV → zMem → Prop} {a1 : Nat} {x2 : Int} (h : zBg d 60 0 [zR 4, zR a1, zI x2, none, none] [] M Q) : zCt d 60 [.inr (.inr 4), .inr (.inr a1), .inl x2] M Q := zCt_of (I := zm60) rfl rfl h
/-! CommaCopies$State.countLost()I , as 61 -/
set_option maxRecDepth 20000 in
theorem zv61_0 {d : Nat} {M : zMem} {Q : Option zV → zMem → Prop} (h :
  zBg d 61 4 [zR 4, zI 0, zI 0] [] M Q) : zBg d 61 0 [zR 4, none, none] [] M Q :=
  zvc_ok (I := zm61) (cuts := [(4, [true, true, true])]) (n := 30) rfl h
set_option maxRecDepth 20000 in
theorem zv61_4 {d : Nat} {M : zMem} {Q : Option zV → zMem → Prop} (x1 : Int) (x2 : Int) (h :
  ((x2 : Int) ≥ (M 13 6) →
    Q (zI x1) M) ∧
  (¬ (x2 : Int) ≥ (M 13 6) →
    (0 : Int) ≤ x2 ∧ (x2 : Int) < 6 ∧ ((M 8 x2.toNat : Int) ≠ 5 →
      zR32 (x1 + 0) ∧ zR32 (x2 + 1) ∧ zBg d 61 4 [zR 4, zI (x1 + 0), zI (x2 + 1)] [] M Q) ∧
    (¬ (M 8 x2.toNat : Int) ≠ 5 →
      zR32 (x1 + 1) ∧ zR32 (x2 + 1) ∧ zBg d 61 4 [zR 4, zI (x1 + 1), zI (x2 + 1)] [] M Q))) : zBg d 61 4 [zR 4, zI x1, zI x2] [] M Q :=
  zvc_ok (I := zm61) (cuts := [(4, [true, true, true])]) (n := 30) rfl h
theorem zk61 {d : Nat} {M : zMem} {Q : Option zV → zMem → Prop} (h : zBg d 61 0 [zR 4, none, none] [] M Q) : zCt d 61 [.inr (.inr 4)] M Q := zCt_of (I := zm61) rfl rfl h
/-! CommaCopies$State.matches(I)I , as 62 -/
set_option maxRecDepth 20000 in
theorem zv62_0 {d : Nat} {M : zMem} {Q : Option zV → zMem → Prop} (x1 : Int) (h :
  zBg d 62 4 [zR 4, zI x1, zI 0, zI 0] [] M Q) : zBg d 62 0 [zR 4, zI x1, none, none] [] M Q :=
  zvc_ok (I := zm62) (cuts := [(4, [true, true, true, true])]) (n := 37) rfl h
set_option maxRecDepth 20000 in
theorem zv62_4 {d : Nat} {M : zMem} {Q : Option zV → zMem → Prop} (x1 : Int) (x2 : Int) (x3 : Int) (h :
  ((x3 : Int) ≥ (M 13 6) →
    Q (zI x2) M) ∧
  (¬ (x3 : Int) ≥ (M 13 6) →
    (0 : Int) ≤ x3 ∧ (x3 : Int) < 6 ∧ zR32 (x1 * 6) ∧ zR32 ((x1 * 6) + x3) ∧ (0 : Int) ≤ ((x1 * 6) + x3) ∧ ((x1 * 6) + x3 : Int) < 48 ∧ ((M 8 x3.toNat : Int) ≠ (M 7 (((x1 * 6) + x3).toNat)) →
      zR32 (x2 + 0) ∧ zR32 (x3 + 1) ∧ zBg d 62 4 [zR 4, zI x1, zI (x2 + 0), zI (x3 + 1)] [] M Q) ∧
    (¬ (M 8 x3.toNat : Int) ≠ (M 7 (((x1 * 6) + x3).toNat)) →
      zR32 (x2 + 1) ∧ zR32 (x3 + 1) ∧ zBg d 62 4 [zR 4, zI x1, zI (x2 + 1), zI (x3 + 1)] [] M Q))) : zBg d 62 4 [zR 4, zI x1, zI x2, zI x3] [] M Q :=
  zvc_ok (I := zm62) (cuts := [(4, [true, true, true, true])]) (n := 37) rfl h
theorem zk62 {d : Nat} {M : zMem} {Q : Option zV → zMem → Prop} {x1 : Int} (h : zBg d 62 0 [zR 4, zI x1, none, none] [] M Q) : zCt d 62 [.inr (.inr 4), .inl x1] M Q := zCt_of (I := zm62) rfl rfl h
/-! CommaCopies$State.sumCosts(I)I , as 63 -/
set_option maxRecDepth 20000 in
theorem zv63_0 {d : Nat} {M : zMem} {Q : Option zV → zMem → Prop} (x1 : Int) (h :
  zBg d 63 4 [zR 4, zI x1, zI 0, zI 0] [] M Q) : zBg d 63 0 [zR 4, zI x1, none, none] [] M Q :=
  zvc_ok (I := zm63) (cuts := [(4, [true, true, true, true])]) (n := 36) rfl h
set_option maxRecDepth 20000 in
theorem zv63_4 {d : Nat} {M : zMem} {Q : Option zV → zMem → Prop} (x1 : Int) (x2 : Int) (x3 : Int) (h :
  ((x3 : Int) ≥ (M 13 6) →
    Q (zI x2) M) ∧
  (¬ (x3 : Int) ≥ (M 13 6) →
    zR32 (x3 * 4) ∧ zR32 (x1 * 6) ∧ zR32 ((x1 * 6) + x3) ∧ (0 : Int) ≤ ((x1 * 6) + x3) ∧ ((x1 * 6) + x3 : Int) < 48 ∧ zR32 ((x3 * 4) + (M 7 (((x1 * 6) + x3).toNat))) ∧ (0 : Int) ≤ ((x3 * 4) + (M 7 (((x1 * 6) + x3).toNat))) ∧ ((x3 * 4) + (M 7 (((x1 * 6) + x3).toNat)) : Int) < 24 ∧ zR32 (x2 + (M 5 (((x3 * 4) + (M 7 (((x1 * 6) + x3).toNat))).toNat))) ∧ zR32 (x3 + 1) ∧ zBg d 63 4 [zR 4, zI x1, zI (x2 + (M 5 (((x3 * 4) + (M 7 (((x1 * 6) + x3).toNat))).toNat))), zI (x3 + 1)] [] M Q)) : zBg d 63 4 [zR 4, zI x1, zI x2, zI x3] [] M Q :=
  zvc_ok (I := zm63) (cuts := [(4, [true, true, true, true])]) (n := 36) rfl h
theorem zk63 {d : Nat} {M : zMem} {Q : Option zV → zMem → Prop} {x1 : Int} (h : zBg d 63 0 [zR 4, zI x1, none, none] [] M Q) : zCt d 63 [.inr (.inr 4), .inl x1] M Q := zCt_of (I := zm63) rfl rfl h
/-! CommaCopies$State.bestOrder(I)I , as 64 -/
set_option maxRecDepth 20000 in
theorem zv64_0 {d : Nat} {M : zMem} {Q : Option zV → zMem → Prop} (x1 : Int) (h :
  ∃ Q1, zCv d 182 [.inr (.inr 12), .inl 0] M Q1 ∧ ∀ M1, Q1 M1 →
  zBg (d + 1) 64 10 [zR 4, zI x1, zI 0, none, none, none] [] M1 Q) : zBg (d + 1) 64 0 [zR 4, zI x1, none, none, none, none] [] M Q :=
  zvc_ok (I := zm64) (cuts := [(10, [true, true, true, false, false, false]), (52, [true, true, true, true, true, false])]) (n := 65) rfl h
set_option maxRecDepth 20000 in
theorem zv64_10 {d : Nat} {M : zMem} {Q : Option zV → zMem → Prop} (x1 : Int) (x2 : Int) (h :
  ((x2 : Int) ≥ (M 4 9) →
    zBg d 64 52 [zR 4, zI x1, zI 0, zI 2147483647, zI 0, none] [] M Q) ∧
  (¬ (x2 : Int) ≥ (M 4 9) →
    zR32 (x2 * 6) ∧ zR32 ((x2 * 6) + x1) ∧ (0 : Int) ≤ ((x2 * 6) + x1) ∧ ((x2 * 6) + x1 : Int) < 48 ∧ (0 : Int) ≤ (M 7 (((x2 * 6) + x1).toNat)) ∧ (M 7 (((x2 * 6) + x1).toNat) : Int) < 4 ∧ zR32 ((M 12 ((M 7 (((x2 * 6) + x1).toNat)).toNat)) + 1) ∧ (0 : Int) ≤ (M 7 (((x2 * 6) + x1).toNat)) ∧ (M 7 (((x2 * 6) + x1).toNat) : Int) < 4 ∧ zR32 (x2 + 1) ∧ zBg d 64 10 [zR 4, zI x1, zI (x2 + 1), none, none, none] [] (zup M 12 ((M 7 (((x2 * 6) + x1).toNat)).toNat) ((M 12 ((M 7 (((x2 * 6) + x1).toNat)).toNat)) + 1)) Q)) : zBg d 64 10 [zR 4, zI x1, zI x2, none, none, none] [] M Q :=
  zvc_ok (I := zm64) (cuts := [(10, [true, true, true, false, false, false]), (52, [true, true, true, true, true, false])]) (n := 65) rfl h
set_option maxRecDepth 20000 in
theorem zv64_52 {d : Nat} {M : zMem} {Q : Option zV → zMem → Prop} (x1 : Int) (x2 : Int) (x3 : Int) (x4 : Int) (h :
  ((x4 : Int) ≥ 256 →
    Q (zI x2) M) ∧
  (¬ (x4 : Int) ≥ 256 →
    (0 : Int) ≤ x1 ∧ (x1 : Int) < 6 ∧ ∃ Q1, zCi d 68 [.inl x4, .inl (M 15 x1.toNat)] M Q1 ∧ ∀ v1 M1, Q1 v1 M1 →
    ((v1 : Int) = 0 →
      zR32 (x4 + 1) ∧ zBg (d + 1) 64 52 [zR 4, zI x1, zI x2, zI x3, zI (x4 + 1), none] [] M1 Q) ∧
    (¬ (v1 : Int) = 0 →
      ∃ Q2, zCi d 65 [.inr (.inr 4), .inl x4, .inl x1] M1 Q2 ∧ ∀ v2 M2, Q2 v2 M2 →
      ((v2 : Int) ≥ x3 →
        zR32 (x4 + 1) ∧ zBg (d + 1) 64 52 [zR 4, zI x1, zI x2, zI x3, zI (x4 + 1), none] [] M2 Q) ∧
      (¬ (v2 : Int) ≥ x3 →
        zR32 (x4 + 1) ∧ zBg (d + 1) 64 52 [zR 4, zI x1, zI x4, zI v2, zI (x4 + 1), none] [] M2 Q)))) : zBg (d + 1) 64 52 [zR 4, zI x1, zI x2, zI x3, zI x4, none] [] M Q :=
  zvc_ok (I := zm64) (cuts := [(10, [true, true, true, false, false, false]), (52, [true, true, true, true, true, false])]) (n := 65) rfl h
theorem zk64 {d : Nat} {M : zMem} {Q : Option zV → zMem → Prop} {x1 : Int} (h : zBg d 64 0 [zR 4, zI x1, none, none, none, none] [] M Q) : zCt d 64 [.inr (.inr 4), .inl x1] M Q := zCt_of (I := zm64) rfl rfl h
/-! CommaCopies$State.costBy(II)I , as 65 -/
set_option maxRecDepth 20000 in
theorem zv65_0 {d : Nat} {M : zMem} {Q : Option zV → zMem → Prop} (x1 : Int) (x2 : Int) (h :
  zBg d 65 5 [zR 4, zI x1, zI x2, zI 0, zI 0] [] M Q) : zBg d 65 0 [zR 4, zI x1, zI x2, none, none] [] M Q :=
  zvc_ok (I := zm65) (cuts := [(5, [true, true, true, true, true])]) (n := 34) rfl h
set_option maxRecDepth 20000 in
theorem zv65_5 {d : Nat} {M : zMem} {Q : Option zV → zMem → Prop} (x1 : Int) (x2 : Int) (x3 : Int) (x4 : Int) (h :
  ((x4 : Int) ≥ 4 →
    Q (zI x3) M) ∧
  (¬ (x4 : Int) ≥ 4 →
    (0 : Int) ≤ x4 ∧ (x4 : Int) < 4 ∧ zR32 (x2 * 4) ∧ ∃ Q1, zCi d 67 [.inl x1, .inl x4] M Q1 ∧ ∀ v1 M1, Q1 v1 M1 →
    zR32 ((x2 * 4) + v1) ∧ (0 : Int) ≤ ((x2 * 4) + v1) ∧ ((x2 * 4) + v1 : Int) < 24 ∧ zR32 ((M 12 x4.toNat) * (M1 5 (((x2 * 4) + v1).toNat))) ∧ zR32 (x3 + ((M 12 x4.toNat) * (M1 5 (((x2 * 4) + v1).toNat)))) ∧ zR32 (x4 + 1) ∧ zBg (d + 1) 65 5 [zR 4, zI x1, zI x2, zI (x3 + ((M 12 x4.toNat) * (M1 5 (((x2 * 4) + v1).toNat)))), zI (x4 + 1)] [] M1 Q)) : zBg (d + 1) 65 5 [zR 4, zI x1, zI x2, zI x3, zI x4] [] M Q :=
  zvc_ok (I := zm65) (cuts := [(5, [true, true, true, true, true])]) (n := 34) rfl h
theorem zk65 {d : Nat} {M : zMem} {Q : Option zV → zMem → Prop} {x1 : Int} {x2 : Int} (h : zBg d 65 0 [zR 4, zI x1, zI x2, none, none] [] M Q) : zCt d 65 [.inr (.inr 4), .inl x1, .inl x2] M Q := zCt_of (I := zm65) rfl rfl h
/-! CommaCopies$State.reorder(II)V , as 66 -/
set_option maxRecDepth 20000 in
theorem zv66_0 {d : Nat} {M : zMem} {Q : Option zV → zMem → Prop} (x1 : Int) (x2 : Int) (h :
  zBg d 66 2 [zR 4, zI x1, zI x2, zI 0, none] [] M Q) : zBg d 66 0 [zR 4, zI x1, zI x2, none, none] [] M Q :=
  zvc_ok (I := zm66) (cuts := [(2, [true, true, true, true, false])]) (n := 30) rfl h
set_option maxRecDepth 20000 in
theorem zv66_2 {d : Nat} {M : zMem} {Q : Option zV → zMem → Prop} (x1 : Int) (x2 : Int) (x3 : Int) (h :
  ((x3 : Int) ≥ (M 4 9) →
    Q none M) ∧
  (¬ (x3 : Int) ≥ (M 4 9) →
    zR32 (x3 * 6) ∧ zR32 ((x3 * 6) + x1) ∧ (0 : Int) ≤ ((x3 * 6) + x1) ∧ ((x3 * 6) + x1 : Int) < 48 ∧ ∃ Q1, zCi d 67 [.inl x2, .inl (M 7 (((x3 * 6) + x1).toNat))] M Q1 ∧ ∀ v1 M1, Q1 v1 M1 →
    (0 : Int) ≤ ((x3 * 6) + x1) ∧ ((x3 * 6) + x1 : Int) < 48 ∧ zR32 (x3 + 1) ∧ zBg (d + 1) 66 2 [zR 4, zI x1, zI x2, zI (x3 + 1), none] [] (zup M1 7 (((x3 * 6) + x1).toNat) v1) Q)) : zBg (d + 1) 66 2 [zR 4, zI x1, zI x2, zI x3, none] [] M Q :=
  zvc_ok (I := zm66) (cuts := [(2, [true, true, true, true, false])]) (n := 30) rfl h
theorem zk66 {d : Nat} {M : zMem} {Q : Option zV → zMem → Prop} {x1 : Int} {x2 : Int} (h : zBg d 66 0 [zR 4, zI x1, zI x2, none, none] [] M Q) : zCt d 66 [.inr (.inr 4), .inl x1, .inl x2] M Q := zCt_of (I := zm66) rfl rfl h
/-! CommaCopies$State.standsFor(II)I , as 67 -/
set_option maxRecDepth 20000 in
theorem zv67_0 {d : Nat} {M : zMem} {Q : Option zV → zMem → Prop} (x0 : Int) (x1 : Int) (h :
  zR32 (3 - x1) ∧ zR32 (2 * (3 - x1)) ∧ Q (zI (ziand (zishr x0 (2 * (3 - x1))) 3)) M) : zBg d 67 0 [zI x0, zI x1] [] M Q :=
  zvc_ok (I := zm67) (cuts := []) (n := 15) rfl h
theorem zk67 {d : Nat} {M : zMem} {Q : Option zV → zMem → Prop} {x0 : Int} {x1 : Int} (h : zBg d 67 0 [zI x0, zI x1] [] M Q) : zCt d 67 [.inl x0, .inl x1] M Q := zCt_of (I := zm67) rfl rfl h
/-! CommaCopies$State.isOrder(II)Z , as 68 -/
set_option maxRecDepth 20000 in
theorem zv68_0 {d : Nat} {M : zMem} {Q : Option zV → zMem → Prop} (x0 : Int) (x1 : Int) (h :
  zBg d 68 4 [zI x0, zI x1, zI 0, zI 0, none] [] M Q) : zBg d 68 0 [zI x0, zI x1, none, none, none] [] M Q :=
  zvc_ok (I := zm68) (cuts := [(4, [true, true, true, true, false])]) (n := 39) rfl h
set_option maxRecDepth 20000 in
theorem zv68_4 {d : Nat} {M : zMem} {Q : Option zV → zMem → Prop} (x0 : Int) (x1 : Int) (x2 : Int) (x3 : Int) (h :
  ((x3 : Int) ≥ 4 →
    ((x2 : Int) ≠ 15 →
      ((0 : Int) = 0 ∨ (0 : Int) = 1) ∧ Q (zI 0) M) ∧
    (¬ (x2 : Int) ≠ 15 →
      ((1 : Int) = 0 ∨ (1 : Int) = 1) ∧ Q (zI 1) M)) ∧
  (¬ (x3 : Int) ≥ 4 →
    ∃ Q1, zCi d 67 [.inl x0, .inl x3] M Q1 ∧ ∀ v1 M1, Q1 v1 M1 →
    ((x3 : Int) < x1 →
      zR32 (x3 + 1) ∧ zBg (d + 1) 68 4 [zI x0, zI x1, zI (zior x2 (zishl 1 v1)), zI (x3 + 1), none] [] M1 Q) ∧
    (¬ (x3 : Int) < x1 →
      ((v1 : Int) = x3 →
        zR32 (x3 + 1) ∧ zBg (d + 1) 68 4 [zI x0, zI x1, zI (zior x2 (zishl 1 v1)), zI (x3 + 1), none] [] M1 Q) ∧
      (¬ (v1 : Int) = x3 →
        ((0 : Int) = 0 ∨ (0 : Int) = 1) ∧ Q (zI 0) M1)))) : zBg (d + 1) 68 4 [zI x0, zI x1, zI x2, zI x3, none] [] M Q :=
  zvc_ok (I := zm68) (cuts := [(4, [true, true, true, true, false])]) (n := 39) rfl h
theorem zk68 {d : Nat} {M : zMem} {Q : Option zV → zMem → Prop} {x0 : Int} {x1 : Int} (h : zBg d 68 0 [zI x0, zI x1, none, none, none] [] M Q) : zCt d 68 [.inl x0, .inl x1] M Q := zCt_of (I := zm68) rfl rfl h
/-! CommaCopies$Tape.append(JI)I , as 69 -/
set_option maxRecDepth 20000 in
theorem zv69_0 {d : Nat} {M : zMem} {Q : Option zV → zMem → Prop} (x1 : Int) (x3 : Int) (h :
  ((x3 : Int) < 1 →
    Q (zI (-1)) M) ∧
  (¬ (x3 : Int) < 1 →
    ((x3 : Int) ≤ 8 →
      zBg d 69 16 [zR 2, zL x1, none, zI x3, zI 0] [] M Q) ∧
    (¬ (x3 : Int) ≤ 8 →
      Q (zI (-1)) M))) : zBg d 69 0 [zR 2, zL x1, none, zI x3, none] [] M Q :=
  zvc_ok (I := zm69) (cuts := [(16, [true, true, false, true, true]), (71, [true, true, false, false, true])]) (n := 66) rfl h
set_option maxRecDepth 20000 in
theorem zv69_16 {d : Nat} {M : zMem} {Q : Option zV → zMem → Prop} (x1 : Int) (x3 : Int) (x4 : Int) (h :
  ((x4 : Int) ≥ x3 →
    zR32 (120 - x3) ∧ ((M 2 1 : Int) ≤ (120 - x3) →
      zR32 (x3 - 1) ∧ zBg (d + 1) 69 71 [zR 2, zL x1, none, none, zI (x3 - 1)] [] M Q) ∧
    (¬ (M 2 1 : Int) ≤ (120 - x3) →
      Q (zI (-3)) M)) ∧
  (¬ (x4 : Int) ≥ x3 →
    ∃ Q1, zCi d 70 [.inr (.inl x1), .inl x4] M Q1 ∧ ∀ v1 M1, Q1 v1 M1 →
    ((v1 : Int) < 32 →
      Q (zI (-1)) M1) ∧
    (¬ (v1 : Int) < 32 →
      ∃ Q2, zCi d 70 [.inr (.inl x1), .inl x4] M1 Q2 ∧ ∀ v2 M2, Q2 v2 M2 →
      ((v2 : Int) ≤ 126 →
        zR32 (x4 + 1) ∧ zBg (d + 1) 69 16 [zR 2, zL x1, none, zI x3, zI (x4 + 1)] [] M2 Q) ∧
      (¬ (v2 : Int) ≤ 126 →
        Q (zI (-1)) M2)))) : zBg (d + 1) 69 16 [zR 2, zL x1, none, zI x3, zI x4] [] M Q :=
  zvc_ok (I := zm69) (cuts := [(16, [true, true, false, true, true]), (71, [true, true, false, false, true])]) (n := 66) rfl h
set_option maxRecDepth 20000 in
theorem zv69_71 {d : Nat} {M : zMem} {Q : Option zV → zMem → Prop} (x1 : Int) (x4 : Int) (h :
  ((x4 : Int) < 0 →
    Q (zI (M 2 1)) M) ∧
  (¬ (x4 : Int) < 0 →
    ∃ Q1, zCi d 70 [.inr (.inl x1), .inl x4] M Q1 ∧ ∀ v1 M1, Q1 v1 M1 →
    (0 : Int) ≤ (M 2 1) ∧ (M 2 1 : Int) < 120 ∧ zR32 ((M1 2 1) + 1) ∧ zR32 (x4 + (-1)) ∧ zBg (d + 1) 69 71 [zR 2, zL x1, none, none, zI (x4 + (-1))] [] (zup (zup M1 3 ((M 2 1).toNat) (zi2b (zi2b v1))) 2 1 ((M1 2 1) + 1)) Q)) : zBg (d + 1) 69 71 [zR 2, zL x1, none, none, zI x4] [] M Q :=
  zvc_ok (I := zm69) (cuts := [(16, [true, true, false, true, true]), (71, [true, true, false, false, true])]) (n := 66) rfl h
theorem zk69 {d : Nat} {M : zMem} {Q : Option zV → zMem → Prop} {x1 : Int} {x3 : Int} (h : zBg d 69 0 [zR 2, zL x1, none, zI x3, none] [] M Q) : zCt d 69 [.inr (.inr 2), .inr (.inl x1), .inl x3] M Q := zCt_of (I := zm69) rfl rfl h
/-! CommaCopies$Tape.byteOf(JI)I , as 70 -/
set_option maxRecDepth 20000 in
theorem zv70_0 {d : Nat} {M : zMem} {Q : Option zV → zMem → Prop} (x0 : Int) (x2 : Int) (h :
  zR32 (8 * x2) ∧ Q (zI (ziand (zl2i (zlushr x0 (8 * x2))) 255)) M) : zBg d 70 0 [zL x0, none, zI x2] [] M Q :=
  zvc_ok (I := zm70) (cuts := []) (n := 14) rfl h
theorem zk70 {d : Nat} {M : zMem} {Q : Option zV → zMem → Prop} {x0 : Int} {x2 : Int} (h : zBg d 70 0 [zL x0, none, zI x2] [] M Q) : zCt d 70 [.inr (.inl x0), .inl x2] M Q := zCt_of (I := zm70) rfl rfl h
/-! CommaCopies.type(JI)I , as 71 -/
set_option maxRecDepth 20000 in
theorem zv71_0 {d : Nat} {M : zMem} {Q : Option zV → zMem → Prop} (x1 : Int) (x3 : Int) (h :
  ∃ Q1, zCi d 69 [.inr (.inr 2), .inr (.inl x1), .inl x3] M Q1 ∧ ∀ v1 M1, Q1 v1 M1 →
  Q (zI v1) M1) : zBg (d + 1) 71 0 [zR 0, zL x1, none, zI x3] [] M Q :=
  zvc_ok (I := zm71) (cuts := []) (n := 11) rfl h
theorem zk71 {d : Nat} {M : zMem} {Q : Option zV → zMem → Prop} {x1 : Int} {x3 : Int} (h : zBg d 71 0 [zR 0, zL x1, none, zI x3] [] M Q) : zCt d 71 [.inr (.inr 0), .inr (.inl x1), .inl x3] M Q := zCt_of (I := zm71) rfl rfl h
/-! CommaCopies.letter()I , as 72 -/
set_option maxRecDepth 20000 in
theorem zv72_0 {d : Nat} {M : zMem} {Q : Option zV → zMem → Prop} (h :
  ∃ Q1, zCi d 31 [.inr (.inr 3), .inl (M 2 1)] M Q1 ∧ ∀ v1 M1, Q1 v1 M1 →
  ((v1 : Int) ≥ 0 →
    ((v1 : Int) ≥ 0 →
      zR32 ((-20) - v1) ∧ Q (zI ((-20) - v1)) (zup M1 2 1 0)) ∧
    (¬ (v1 : Int) ≥ 0 →
      Q (zI (M1 13 6)) (zup M1 2 1 0))) ∧
  (¬ (v1 : Int) ≥ 0 →
    ∃ Q2, zCv d 54 [.inr (.inr 4), .inr (.inr 2)] M1 Q2 ∧ ∀ M2, Q2 M2 →
    ((v1 : Int) ≥ 0 →
      zR32 ((-20) - v1) ∧ Q (zI ((-20) - v1)) (zup M2 2 1 0)) ∧
    (¬ (v1 : Int) ≥ 0 →
      Q (zI (M2 13 6)) (zup M2 2 1 0)))) : zBg (d + 1) 72 0 [zR 0, none] [] M Q :=
  zvc_ok (I := zm72) (cuts := []) (n := 35) rfl h
theorem zk72 {d : Nat} {M : zMem} {Q : Option zV → zMem → Prop} (h : zBg d 72 0 [zR 0, none] [] M Q) : zCt d 72 [.inr (.inr 0)] M Q := zCt_of (I := zm72) rfl rfl h
/-! CommaCopies.choices(I)I , as 73 -/
set_option maxRecDepth 20000 in
theorem zv73_0 {d : Nat} {M : zMem} {Q : Option zV → zMem → Prop} (x1 : Int) (h :
  ∃ Q1, zCi d 34 [.inr (.inr 13), .inl x1] M Q1 ∧ ∀ v1 M1, Q1 v1 M1 →
  ((v1 : Int) = 0 →
    Q (zI (-1)) M1) ∧
  (¬ (v1 : Int) = 0 →
    (0 : Int) ≤ x1 ∧ (x1 : Int) < 6 ∧ Q (zI (M1 15 x1.toNat)) M1)) : zBg (d + 1) 73 0 [zR 0, zI x1] [] M Q :=
  zvc_ok (I := zm73) (cuts := []) (n := 20) rfl h
theorem zk73 {d : Nat} {M : zMem} {Q : Option zV → zMem → Prop} {x1 : Int} (h : zBg d 73 0 [zR 0, zI x1] [] M Q) : zCt d 73 [.inr (.inr 0), .inl x1] M Q := zCt_of (I := zm73) rfl rfl h
/-! CommaCopies.cost(III)I , as 74 -/
set_option maxRecDepth 20000 in
theorem zv74_0 {d : Nat} {M : zMem} {Q : Option zV → zMem → Prop} (x1 : Int) (x2 : Int) (x3 : Int) (h :
  ∃ Q1, zCi d 35 [.inr (.inr 13), .inl x1, .inl x2] M Q1 ∧ ∀ v1 M1, Q1 v1 M1 →
  ((v1 : Int) = 0 →
    Q (zI (-1)) M1) ∧
  (¬ (v1 : Int) = 0 →
    ((x3 : Int) < 0 →
      Q (zI (-1)) M1) ∧
    (¬ (x3 : Int) < 0 →
      ((x3 : Int) ≤ 9 →
        zR32 (x1 * 4) ∧ zR32 ((x1 * 4) + x2) ∧ (0 : Int) ≤ ((x1 * 4) + x2) ∧ ((x1 * 4) + x2 : Int) < 24 ∧ (0 : Int) ≤ ((x1 * 4) + x2) ∧ ((x1 * 4) + x2 : Int) < 24 ∧ Q (zI (M1 5 (((x1 * 4) + x2).toNat))) (zup M1 5 (((x1 * 4) + x2).toNat) x3)) ∧
      (¬ (x3 : Int) ≤ 9 →
        Q (zI (-1)) M1)))) : zBg (d + 1) 74 0 [zR 0, zI x1, zI x2, zI x3, none, none] [] M Q :=
  zvc_ok (I := zm74) (cuts := []) (n := 39) rfl h
theorem zk74 {d : Nat} {M : zMem} {Q : Option zV → zMem → Prop} {x1 : Int} {x2 : Int} {x3 : Int} (h : zBg d 74 0 [zR 0, zI x1, zI x2, zI x3, none, none] [] M Q) : zCt d 74 [.inr (.inr 0), .inl x1, .inl x2, .inl x3] M Q := zCt_of (I := zm74) rfl rfl h
/-! CommaCopies.mended(II)I , as 75 -/
set_option maxRecDepth 20000 in
theorem zv75_0 {d : Nat} {M : zMem} {Q : Option zV → zMem → Prop} (x1 : Int) (x2 : Int) (h :
  ∃ Q1, zCi d 34 [.inr (.inr 13), .inl x1] M Q1 ∧ ∀ v1 M1, Q1 v1 M1 →
  ((v1 : Int) = 0 →
    Q (zI (-101)) M1) ∧
  (¬ (v1 : Int) = 0 →
    ((x2 : Int) = (-1) →
      (0 : Int) ≤ x1 ∧ (x1 : Int) < 6 ∧ (0 : Int) ≤ x1 ∧ (x1 : Int) < 6 ∧ Q (zI (M1 6 x1.toNat)) (zup M1 6 x1.toNat x2)) ∧
    (¬ (x2 : Int) = (-1) →
      ∃ Q2, zCi d 35 [.inr (.inr 13), .inl x1, .inl x2] M1 Q2 ∧ ∀ v2 M2, Q2 v2 M2 →
      ((v2 : Int) ≠ 0 →
        (0 : Int) ≤ x1 ∧ (x1 : Int) < 6 ∧ (0 : Int) ≤ x1 ∧ (x1 : Int) < 6 ∧ Q (zI (M2 6 x1.toNat)) (zup M2 6 x1.toNat x2)) ∧
      (¬ (v2 : Int) ≠ 0 →
        Q (zI (-101)) M2)))) : zBg (d + 1) 75 0 [zR 0, zI x1, zI x2, none] [] M Q :=
  zvc_ok (I := zm75) (cuts := []) (n := 37) rfl h
theorem zk75 {d : Nat} {M : zMem} {Q : Option zV → zMem → Prop} {x1 : Int} {x2 : Int} (h : zBg d 75 0 [zR 0, zI x1, zI x2, none] [] M Q) : zCt d 75 [.inr (.inr 0), .inl x1, .inl x2] M Q := zCt_of (I := zm75) rfl rfl h
/-! CommaCopies.copyOf(III)I , as 76 -/
set_option maxRecDepth 20000 in
theorem zv76_0 {d : Nat} {M : zMem} {Q : Option zV → zMem → Prop} (x1 : Int) (x2 : Int) (x3 : Int) (h :
  ∃ Q1, zCi d 50 [.inr (.inr 32), .inl x1, .inl x2, .inl x3, .inl (M 13 6)] M Q1 ∧ ∀ v1 M1, Q1 v1 M1 →
  ((v1 : Int) ≥ 0 →
    zR32 (x1 * 12) ∧ zR32 ((x1 * 12) + x3) ∧ ∃ Q2, zCi d 58 [.inr (.inr 4), .inr (.inr 35), .inl ((x1 * 12) + x3)] M1 Q2 ∧ ∀ v2 M2, Q2 v2 M2 →
    Q (zI v2) M2) ∧
  (¬ (v1 : Int) ≥ 0 →
    Q (zI v1) M1)) : zBg (d + 1) 76 0 [zR 0, zI x1, zI x2, zI x3, none] [] M Q :=
  zvc_ok (I := zm76) (cuts := []) (n := 32) rfl h
theorem zk76 {d : Nat} {M : zMem} {Q : Option zV → zMem → Prop} {x1 : Int} {x2 : Int} {x3 : Int} (h : zBg d 76 0 [zR 0, zI x1, zI x2, zI x3, none] [] M Q) : zCt d 76 [.inr (.inr 0), .inl x1, .inl x2, .inl x3] M Q := zCt_of (I := zm76) rfl rfl h
/-! CommaCopies.choice(II)I , as 77 -/
set_option maxRecDepth 20000 in
theorem zv77_0 {d : Nat} {M : zMem} {Q : Option zV → zMem → Prop} (x1 : Int) (x2 : Int) (h :
  ∃ Q1, zCi d 56 [.inr (.inr 4), .inl x1] M Q1 ∧ ∀ v1 M1, Q1 v1 M1 →
  ((v1 : Int) = 0 →
    Q (zI (-1)) M1) ∧
  (¬ (v1 : Int) = 0 →
    ∃ Q2, zCi d 34 [.inr (.inr 13), .inl x2] M1 Q2 ∧ ∀ v2 M2, Q2 v2 M2 →
    ((v2 : Int) ≠ 0 →
      zR32 (x1 * 6) ∧ zR32 ((x1 * 6) + x2) ∧ (0 : Int) ≤ ((x1 * 6) + x2) ∧ ((x1 * 6) + x2 : Int) < 48 ∧ Q (zI (M2 7 (((x1 * 6) + x2).toNat))) M2) ∧
    (¬ (v2 : Int) ≠ 0 →
      Q (zI (-1)) M2))) : zBg (d + 1) 77 0 [zR 0, zI x1, zI x2] [] M Q :=
  zvc_ok (I := zm77) (cuts := []) (n := 28) rfl h
theorem zk77 {d : Nat} {M : zMem} {Q : Option zV → zMem → Prop} {x1 : Int} {x2 : Int} (h : zBg d 77 0 [zR 0, zI x1, zI x2] [] M Q) : zCt d 77 [.inr (.inr 0), .inl x1, .inl x2] M Q := zCt_of (I := zm77) rfl rfl h
/-! CommaCopies.burn(I)I , as 78 -/
set_option maxRecDepth 20000 in
theorem zv78_0 {d : Nat} {M : zMem} {Q : Option zV → zMem → Prop} (x1 : Int) (h :
  ∃ Q1, zCi d 56 [.inr (.inr 4), .inl x1] M Q1 ∧ ∀ v1 M1, Q1 v1 M1 →
  ((v1 : Int) ≠ 0 →
    zR32 ((M1 4 9) - x1) ∧ zR32 (((M1 4 9) - x1) - 1) ∧ zR32 (x1 + 1) ∧ zR32 ((x1 + 1) * 6) ∧ zR32 (x1 * 6) ∧ zR32 ((((M1 4 9) - x1) - 1) * 6) ∧ (0 : Int) ≤ ((x1 + 1) * 6) ∧ (0 : Int) ≤ (x1 * 6) ∧ (0 : Int) ≤ ((((M1 4 9) - x1) - 1) * 6) ∧ (((x1 + 1) * 6) : Int) + ((((M1 4 9) - x1) - 1) * 6) ≤ 48 ∧ ((x1 * 6) : Int) + ((((M1 4 9) - x1) - 1) * 6) ≤ 48 ∧ zR32 ((M1 4 9) - 1) ∧ Q (zI ((M1 4 9) - 1)) (zup (zcpy M1 7 (((x1 + 1) * 6).toNat) 7 ((x1 * 6).toNat) (((((M1 4 9) - x1) - 1) * 6).toNat)) 4 9 ((M1 4 9) - 1))) ∧
  (¬ (v1 : Int) ≠ 0 →
    Q (zI (-1)) M1)) : zBg (d + 1) 78 0 [zR 0, zI x1, none] [] M Q :=
  zvc_ok (I := zm78) (cuts := []) (n := 49) rfl h
theorem zk78 {d : Nat} {M : zMem} {Q : Option zV → zMem → Prop} {x1 : Int} (h : zBg d 78 0 [zR 0, zI x1, none] [] M Q) : zCt d 78 [.inr (.inr 0), .inl x1] M Q := zCt_of (I := zm78) rfl rfl h
/-! CommaCopies.reads(II)I , as 79 -/
set_option maxRecDepth 20000 in
theorem zv79_0 {d : Nat} {M : zMem} {Q : Option zV → zMem → Prop} (x1 : Int) (x2 : Int) (h :
  ∃ Q1, zCi d 56 [.inr (.inr 4), .inl x1] M Q1 ∧ ∀ v1 M1, Q1 v1 M1 →
  ((v1 : Int) = 0 →
    Q (zI (-1)) M1) ∧
  (¬ (v1 : Int) = 0 →
    ((x2 : Int) ≥ 0 →
      zR32 (x1 * 6) ∧ ∃ Q2, zCi d 39 [.inr (.inr 13), .inr (.inr 7), .inl (x1 * 6), .inl x2] M1 Q2 ∧ ∀ v2 M2, Q2 v2 M2 →
      Q (zI v2) M2) ∧
    (¬ (x2 : Int) ≥ 0 →
      Q (zI (-1)) M1))) : zBg (d + 1) 79 0 [zR 0, zI x1, zI x2] [] M Q :=
  zvc_ok (I := zm79) (cuts := []) (n := 26) rfl h
theorem zk79 {d : Nat} {M : zMem} {Q : Option zV → zMem → Prop} {x1 : Int} {x2 : Int} (h : zBg d 79 0 [zR 0, zI x1, zI x2] [] M Q) : zCt d 79 [.inr (.inr 0), .inl x1, .inl x2] M Q := zCt_of (I := zm79) rfl rfl h
/-! CommaCopies.costOf(I)I , as 80 -/
set_option maxRecDepth 20000 in
theorem zv80_0 {d : Nat} {M : zMem} {Q : Option zV → zMem → Prop} (x1 : Int) (h :
  ∃ Q1, zCi d 56 [.inr (.inr 4), .inl x1] M Q1 ∧ ∀ v1 M1, Q1 v1 M1 →
  ((v1 : Int) = 0 →
    Q (zI (-1)) M1) ∧
  (¬ (v1 : Int) = 0 →
    ∃ Q2, zCi d 63 [.inr (.inr 4), .inl x1] M1 Q2 ∧ ∀ v2 M2, Q2 v2 M2 →
    Q (zI v2) M2)) : zBg (d + 1) 80 0 [zR 0, zI x1] [] M Q :=
  zvc_ok (I := zm80) (cuts := []) (n := 17) rfl h
theorem zk80 {d : Nat} {M : zMem} {Q : Option zV → zMem → Prop} {x1 : Int} (h : zBg d 80 0 [zR 0, zI x1] [] M Q) : zCt d 80 [.inr (.inr 0), .inl x1] M Q := zCt_of (I := zm80) rfl rfl h
/-! CommaCopies.set(II)I , as 81 -/
set_option maxRecDepth 20000 in
theorem zv81_0 {d : Nat} {M : zMem} {Q : Option zV → zMem → Prop} (x1 : Int) (x2 : Int) (h :
  ((x1 : Int) ≠ 0 →
    ((x1 : Int) ≠ 1 →
      Q (zI (-1)) M) ∧
    (¬ (x1 : Int) ≠ 1 →
      ((x2 : Int) < 0 →
        Q (zI (-1)) M) ∧
      (¬ (x2 : Int) < 0 →
        ((x2 : Int) > 2 →
          Q (zI (-1)) M) ∧
        (¬ (x2 : Int) > 2 →
          Q (zI (M 4 12)) (zup M 4 12 x2))))) ∧
  (¬ (x1 : Int) ≠ 0 →
    ((x2 : Int) < 1 →
      ((x1 : Int) ≠ 1 →
        Q (zI (-1)) M) ∧
      (¬ (x1 : Int) ≠ 1 →
        ((x2 : Int) < 0 →
          Q (zI (-1)) M) ∧
        (¬ (x2 : Int) < 0 →
          ((x2 : Int) > 2 →
            Q (zI (-1)) M) ∧
          (¬ (x2 : Int) > 2 →
            Q (zI (M 4 12)) (zup M 4 12 x2))))) ∧
    (¬ (x2 : Int) < 1 →
      ((x2 : Int) > 3 →
        ((x1 : Int) ≠ 1 →
          Q (zI (-1)) M) ∧
        (¬ (x1 : Int) ≠ 1 →
          ((x2 : Int) < 0 →
            Q (zI (-1)) M) ∧
          (¬ (x2 : Int) < 0 →
            ((x2 : Int) > 2 →
              Q (zI (-1)) M) ∧
            (¬ (x2 : Int) > 2 →
              Q (zI (M 4 12)) (zup M 4 12 x2))))) ∧
      (¬ (x2 : Int) > 3 →
        Q (zI (M 4 11)) (zup M 4 11 x2))))) : zBg d 81 0 [zR 0, zI x1, zI x2, none] [] M Q :=
  zvc_ok (I := zm81) (cuts := []) (n := 43) rfl h
theorem zk81 {d : Nat} {M : zMem} {Q : Option zV → zMem → Prop} {x1 : Int} {x2 : Int} (h : zBg d 81 0 [zR 0, zI x1, zI x2, none] [] M Q) : zCt d 81 [.inr (.inr 0), .inl x1, .inl x2] M Q := zCt_of (I := zm81) rfl rfl h
/-! CommaCopies.count(I)I , as 82 -/
set_option maxRecDepth 20000 in
theorem zv82_0 {d : Nat} {M : zMem} {Q : Option zV → zMem → Prop} (x1 : Int) (h :
  ((x1 = 0 →
    Q (zI (M 13 6)) M) ∧ (x1 = 1 →
    Q (zI (M 4 9)) M) ∧ (x1 = 2 →
    Q (zI (M 4 10)) M) ∧ (x1 = 3 →
    Q (zI (M 13 5)) M) ∧ (x1 = 4 →
    ∃ Q1, zCr d 108 [.inr (.inr 0)] M Q1 ∧ ∀ M1, Q1 M1 →
    Q (zI (M1 42 13)) M1) ∧ (x1 = 5 →
    ∃ Q2, zCi d 61 [.inr (.inr 4)] M Q2 ∧ ∀ v2 M2, Q2 v2 M2 →
    Q (zI v2) M2) ∧ True) ∧ ((x1 < 0 ∨ 5 < x1) →
    Q (zI (-1)) M)) : zBg (d + 1) 82 0 [zR 0, zI x1] [] M Q :=
  zvc_ok (I := zm82) (cuts := []) (n := 35) rfl h
theorem zk82 {d : Nat} {M : zMem} {Q : Option zV → zMem → Prop} {x1 : Int} (h : zBg d 82 0 [zR 0, zI x1] [] M Q) : zCt d 82 [.inr (.inr 0), .inl x1] M Q := zCt_of (I := zm82) rfl rfl h
/-! CommaCopies.print(II)I , as 83 -/
set_option maxRecDepth 20000 in
theorem zv83_0 {d : Nat} {M : zMem} {Q : Option zV → zMem → Prop} (x1 : Int) (x2 : Int) (h :
  ∃ Q1, zCi d 35 [.inr (.inr 13), .inl x1, .inl x2] M Q1 ∧ ∀ v1 M1, Q1 v1 M1 →
  ((v1 : Int) ≠ 0 →
    (0 : Int) ≤ x1 ∧ (x1 : Int) < 6 ∧ (0 : Int) ≤ x1 ∧ (x1 : Int) < 6 ∧ Q (zI (M1 8 x1.toNat)) (zup M1 8 x1.toNat x2)) ∧
  (¬ (v1 : Int) ≠ 0 →
    ∃ Q2, zCi d 34 [.inr (.inr 13), .inl x1] M1 Q2 ∧ ∀ v2 M2, Q2 v2 M2 →
    ((v2 : Int) = 0 →
      Q (zI (-1)) M2) ∧
    (¬ (v2 : Int) = 0 →
      ((x2 : Int) = 4 →
        (0 : Int) ≤ x1 ∧ (x1 : Int) < 6 ∧ (0 : Int) ≤ x1 ∧ (x1 : Int) < 6 ∧ Q (zI (M2 8 x1.toNat)) (zup M2 8 x1.toNat x2)) ∧
      (¬ (x2 : Int) = 4 →
        ((x2 : Int) = 5 →
          (0 : Int) ≤ x1 ∧ (x1 : Int) < 6 ∧ (0 : Int) ≤ x1 ∧ (x1 : Int) < 6 ∧ Q (zI (M2 8 x1.toNat)) (zup M2 8 x1.toNat x2)) ∧
        (¬ (x2 : Int) = 5 →
          Q (zI (-1)) M2))))) : zBg (d + 1) 83 0 [zR 0, zI x1, zI x2, none] [] M Q :=
  zvc_ok (I := zm83) (cuts := []) (n := 40) rfl h
theorem zk83 {d : Nat} {M : zMem} {Q : Option zV → zMem → Prop} {x1 : Int} {x2 : Int} (h : zBg d 83 0 [zR 0, zI x1, zI x2, none] [] M Q) : zCt d 83 [.inr (.inr 0), .inl x1, .inl x2] M Q := zCt_of (I := zm83) rfl rfl h
/-! CommaCopies.printed()I , as 84 -/
set_option maxRecDepth 20000 in
theorem zv84_0 {d : Nat} {M : zMem} {Q : Option zV → zMem → Prop} (h :
  ((M 13 4 : Int) ≠ 0 →
    ∃ Q1, zCi d 42 [.inr (.inr 47), .inr (.inr 13), .inr (.inr 3), .inl (M 2 1), .inr (.inr 8)] (zup M 2 1 0) Q1 ∧ ∀ v1 M1, Q1 v1 M1 →
    ((v1 : Int) = 0 →
      Q (zI (-4)) M1) ∧
    (¬ (v1 : Int) = 0 →
      Q (zI 1) M1)) ∧
  (¬ (M 13 4 : Int) ≠ 0 →
    Q (zI (-2)) (zup M 2 1 0))) : zBg (d + 1) 84 0 [zR 0, none] [] M Q :=
  zvc_ok (I := zm84) (cuts := []) (n := 38) rfl h
theorem zk84 {d : Nat} {M : zMem} {Q : Option zV → zMem → Prop} (h : zBg d 84 0 [zR 0, none] [] M Q) : zCt d 84 [.inr (.inr 0)] M Q := zCt_of (I := zm84) rfl rfl h
end
section
/-! CommaCopies.could(I)I , as 85 -/
set_option maxRecDepth 20000 in
theorem zv85_0 {d : Nat} {M : zMem} {Q : Option zV → zMem → Prop} (x1 : Int) (h :
  ∃ Q1, zCi d 57 [.inr (.inr 4), .inl x1] M Q1 ∧ ∀ v1 M1, Q1 v1 M1 →
  ((v1 : Int) ≠ 0 →
    ∃ Q2, zCi d 60 [.inr (.inr 4), .inr (.inr 8), .inl 0] M1 Q2 ∧ ∀ v2 M2, Q2 v2 M2 →
    ∃ Q3, zCr d 107 [.inr (.inr 0)] M2 Q3 ∧ ∀ M3, Q3 M3 →
    ∃ Q4, zCi d 12 [.inr (.inr 42), .inl x1] M3 Q4 ∧ ∀ v4 M4, Q4 v4 M4 →
    ((ziand v2 (zixor v4 (-1)) : Int) ≠ 0 →
      Q (zI 0) M4) ∧
    (¬ (ziand v2 (zixor v4 (-1)) : Int) ≠ 0 →
      Q (zI 1) M4)) ∧
  (¬ (v1 : Int) ≠ 0 →
    Q (zI (-1)) M1)) : zBg (d + 1) 85 0 [zR 0, zI x1, none] [] M Q :=
  zvc_ok (I := zm85) (cuts := []) (n := 33) rfl h
theorem zk85 {d : Nat} {M : zMem} {Q : Option zV → zMem → Prop} {x1 : Int} (h : zBg d 85 0 [zR 0, zI x1, none] [] M Q) : zCt d 85 [.inr (.inr 0), .inl x1] M Q := zCt_of (I := zm85) rfl rfl h
/-! CommaCopies.maker(I)I , as 86 -/
set_option maxRecDepth 20000 in
theorem zv86_0 {d : Nat} {M : zMem} {Q : Option zV → zMem → Prop} (x1 : Int) (h :
  ((x1 : Int) ≥ 0 →
    ∃ Q1, zCr d 107 [.inr (.inr 0)] M Q1 ∧ ∀ M1, Q1 M1 →
    ∃ Q2, zCv d 10 [.inr (.inr 42)] M1 Q2 ∧ ∀ M2, Q2 M2 →
    ∃ Q3, zCi d 60 [.inr (.inr 4), .inr (.inr 8), .inl 0] M2 Q3 ∧ ∀ v3 M3, Q3 v3 M3 →
    ∃ Q4, zCi d 14 [.inr (.inr 42), .inl v3, .inl x1] M3 Q4 ∧ ∀ v4 M4, Q4 v4 M4 →
    Q (zI v4) M4) ∧
  (¬ (x1 : Int) ≥ 0 →
    Q (zI (-1)) M)) : zBg (d + 1) 86 0 [zR 0, zI x1] [] M Q :=
  zvc_ok (I := zm86) (cuts := []) (n := 24) rfl h
theorem zk86 {d : Nat} {M : zMem} {Q : Option zV → zMem → Prop} {x1 : Int} (h : zBg d 86 0 [zR 0, zI x1] [] M Q) : zCt d 86 [.inr (.inr 0), .inl x1] M Q := zCt_of (I := zm86) rfl rfl h
/-! CommaCopies.blamed(I)I , as 87 -/
set_option maxRecDepth 20000 in
theorem zv87_0 {d : Nat} {M : zMem} {Q : Option zV → zMem → Prop} (x1 : Int) (h :
  ((x1 : Int) = 0 →
    ∃ Q1, zCr d 108 [.inr (.inr 0)] M Q1 ∧ ∀ M1, Q1 M1 →
    ((x1 : Int) ≠ 0 →
      Q (zI (M1 42 12)) M1) ∧
    (¬ (x1 : Int) ≠ 0 →
      Q (zI (M1 42 11)) M1)) ∧
  (¬ (x1 : Int) = 0 →
    ((x1 : Int) = 1 →
      ∃ Q2, zCr d 108 [.inr (.inr 0)] M Q2 ∧ ∀ M2, Q2 M2 →
      ((x1 : Int) ≠ 0 →
        Q (zI (M2 42 12)) M2) ∧
      (¬ (x1 : Int) ≠ 0 →
        Q (zI (M2 42 11)) M2)) ∧
    (¬ (x1 : Int) = 1 →
      Q (zI (-1)) M))) : zBg (d + 1) 87 0 [zR 0, zI x1, none] [] M Q :=
  zvc_ok (I := zm87) (cuts := []) (n := 23) rfl h
theorem zk87 {d : Nat} {M : zMem} {Q : Option zV → zMem → Prop} {x1 : Int} (h : zBg d 87 0 [zR 0, zI x1, none] [] M Q) : zCt d 87 [.inr (.inr 0), .inl x1] M Q := zCt_of (I := zm87) rfl rfl h
/-! CommaCopies.unjust(I)I , as 88 -/
set_option maxRecDepth 20000 in
theorem zv88_0 {d : Nat} {M : zMem} {Q : Option zV → zMem → Prop} (x1 : Int) (h :
  ∃ Q1, zCi d 57 [.inr (.inr 4), .inl x1] M Q1 ∧ ∀ v1 M1, Q1 v1 M1 →
  ((v1 : Int) ≠ 0 →
    ∃ Q2, zCr d 108 [.inr (.inr 0)] M1 Q2 ∧ ∀ M2, Q2 M2 →
    ((M2 42 13 : Int) ≠ 0 →
      ((ziand x1 (zixor (M2 42 11) (-1)) : Int) ≠ 0 →
        ∃ Q3, zCi d 179 [.inl (ziand x1 (zixor (M2 42 11) (-1)))] M2 Q3 ∧ ∀ v3 M3, Q3 v3 M3 →
        Q (zI v3) M3) ∧
      (¬ (ziand x1 (zixor (M2 42 11) (-1)) : Int) ≠ 0 →
        Q (zI (-4)) M2)) ∧
    (¬ (M2 42 13 : Int) ≠ 0 →
      Q (zI (-2)) M2)) ∧
  (¬ (v1 : Int) ≠ 0 →
    Q (zI (-1)) M1)) : zBg (d + 1) 88 0 [zR 0, zI x1, none, none] [] M Q :=
  zvc_ok (I := zm88) (cuts := []) (n := 34) rfl h
theorem zk88 {d : Nat} {M : zMem} {Q : Option zV → zMem → Prop} {x1 : Int} (h : zBg d 88 0 [zR 0, zI x1, none, none] [] M Q) : zCt d 88 [.inr (.inr 0), .inl x1] M Q := zCt_of (I := zm88) rfl rfl h
/-! CommaCopies.holds(I)I , as 89 -/
set_option maxRecDepth 20000 in
theorem zv89_0 {d : Nat} {M : zMem} {Q : Option zV → zMem → Prop} (x1 : Int) (h :
  ((x1 : Int) < 0 →
    Q (zI (-1)) M) ∧
  (¬ (x1 : Int) < 0 →
    ((x1 : Int) ≤ 2 →
      ∃ Q1, zCi d 109 [.inr (.inr 0), .inl x1] M Q1 ∧ ∀ v1 M1, Q1 v1 M1 →
      ((v1 : Int) = 0 →
        Q (zI 1) M1) ∧
      (¬ (v1 : Int) = 0 →
        Q (zI 0) M1)) ∧
    (¬ (x1 : Int) ≤ 2 →
      Q (zI (-1)) M))) : zBg (d + 1) 89 0 [zR 0, zI x1] [] M Q :=
  zvc_ok (I := zm89) (cuts := []) (n := 20) rfl h
theorem zk89 {d : Nat} {M : zMem} {Q : Option zV → zMem → Prop} {x1 : Int} (h : zBg d 89 0 [zR 0, zI x1] [] M Q) : zCt d 89 [.inr (.inr 0), .inl x1] M Q := zCt_of (I := zm89) rfl rfl h
/-! CommaCopies.breach(II)I , as 90 -/
set_option maxRecDepth 20000 in
theorem zv90_0 {d : Nat} {M : zMem} {Q : Option zV → zMem → Prop} (x1 : Int) (x2 : Int) (h :
  ((x1 : Int) ≠ 2 →
    ((x1 : Int) = 0 →
      ((x2 : Int) = 0 →
        ((1 : Int) ≠ 0 →
          ∃ Q1, zCi d 109 [.inr (.inr 0), .inl x1] M Q1 ∧ ∀ v1 M1, Q1 v1 M1 →
          ((v1 : Int) ≠ 0 →
            ((x1 : Int) ≠ 2 →
              ((x2 : Int) ≠ 0 →
                Q (zI (M1 36 7)) M1) ∧
              (¬ (x2 : Int) ≠ 0 →
                Q (zI (M1 36 6)) M1)) ∧
            (¬ (x1 : Int) ≠ 2 →
              (0 : Int) ≤ x2 ∧ (x2 : Int) < 6 ∧ Q (zI (M1 37 x2.toNat)) M1)) ∧
          (¬ (v1 : Int) ≠ 0 →
            Q (zI (-4)) M1)) ∧
        (¬ (1 : Int) ≠ 0 →
          Q (zI (-1)) M)) ∧
      (¬ (x2 : Int) = 0 →
        ((x2 : Int) ≠ 1 →
          ((0 : Int) ≠ 0 →
            ∃ Q2, zCi d 109 [.inr (.inr 0), .inl x1] M Q2 ∧ ∀ v2 M2, Q2 v2 M2 →
            ((v2 : Int) ≠ 0 →
              ((x1 : Int) ≠ 2 →
                ((x2 : Int) ≠ 0 →
                  Q (zI (M2 36 7)) M2) ∧
                (¬ (x2 : Int) ≠ 0 →
                  Q (zI (M2 36 6)) M2)) ∧
              (¬ (x1 : Int) ≠ 2 →
                (0 : Int) ≤ x2 ∧ (x2 : Int) < 6 ∧ Q (zI (M2 37 x2.toNat)) M2)) ∧
            (¬ (v2 : Int) ≠ 0 →
              Q (zI (-4)) M2)) ∧
          (¬ (0 : Int) ≠ 0 →
            Q (zI (-1)) M)) ∧
        (¬ (x2 : Int) ≠ 1 →
          ((1 : Int) ≠ 0 →
            ∃ Q3, zCi d 109 [.inr (.inr 0), .inl x1] M Q3 ∧ ∀ v3 M3, Q3 v3 M3 →
            ((v3 : Int) ≠ 0 →
              ((x1 : Int) ≠ 2 →
                ((x2 : Int) ≠ 0 →
                  Q (zI (M3 36 7)) M3) ∧
                (¬ (x2 : Int) ≠ 0 →
                  Q (zI (M3 36 6)) M3)) ∧
              (¬ (x1 : Int) ≠ 2 →
                (0 : Int) ≤ x2 ∧ (x2 : Int) < 6 ∧ Q (zI (M3 37 x2.toNat)) M3)) ∧
            (¬ (v3 : Int) ≠ 0 →
              Q (zI (-4)) M3)) ∧
          (¬ (1 : Int) ≠ 0 →
            Q (zI (-1)) M)))) ∧
    (¬ (x1 : Int) = 0 →
      ((x1 : Int) ≠ 1 →
        ((0 : Int) ≠ 0 →
          ∃ Q4, zCi d 109 [.inr (.inr 0), .inl x1] M Q4 ∧ ∀ v4 M4, Q4 v4 M4 →
          ((v4 : Int) ≠ 0 →
            ((x1 : Int) ≠ 2 →
              ((x2 : Int) ≠ 0 →
                Q (zI (M4 36 7)) M4) ∧
              (¬ (x2 : Int) ≠ 0 →
                Q (zI (M4 36 6)) M4)) ∧
            (¬ (x1 : Int) ≠ 2 →
              (0 : Int) ≤ x2 ∧ (x2 : Int) < 6 ∧ Q (zI (M4 37 x2.toNat)) M4)) ∧
          (¬ (v4 : Int) ≠ 0 →
            Q (zI (-4)) M4)) ∧
        (¬ (0 : Int) ≠ 0 →
          Q (zI (-1)) M)) ∧
      (¬ (x1 : Int) ≠ 1 →
        ((x2 : Int) = 0 →
          ((1 : Int) ≠ 0 →
            ∃ Q5, zCi d 109 [.inr (.inr 0), .inl x1] M Q5 ∧ ∀ v5 M5, Q5 v5 M5 →
            ((v5 : Int) ≠ 0 →
              ((x1 : Int) ≠ 2 →
                ((x2 : Int) ≠ 0 →
                  Q (zI (M5 36 7)) M5) ∧
                (¬ (x2 : Int) ≠ 0 →
                  Q (zI (M5 36 6)) M5)) ∧
              (¬ (x1 : Int) ≠ 2 →
                (0 : Int) ≤ x2 ∧ (x2 : Int) < 6 ∧ Q (zI (M5 37 x2.toNat)) M5)) ∧
            (¬ (v5 : Int) ≠ 0 →
              Q (zI (-4)) M5)) ∧
          (¬ (1 : Int) ≠ 0 →
            Q (zI (-1)) M)) ∧
        (¬ (x2 : Int) = 0 →
          ((x2 : Int) ≠ 1 →
            ((0 : Int) ≠ 0 →
              ∃ Q6, zCi d 109 [.inr (.inr 0), .inl x1] M Q6 ∧ ∀ v6 M6, Q6 v6 M6 →
              ((v6 : Int) ≠ 0 →
                ((x1 : Int) ≠ 2 →
                  ((x2 : Int) ≠ 0 →
                    Q (zI (M6 36 7)) M6) ∧
                  (¬ (x2 : Int) ≠ 0 →
                    Q (zI (M6 36 6)) M6)) ∧
                (¬ (x1 : Int) ≠ 2 →
                  (0 : Int) ≤ x2 ∧ (x2 : Int) < 6 ∧ Q (zI (M6 37 x2.toNat)) M6)) ∧
              (¬ (v6 : Int) ≠ 0 →
                Q (zI (-4)) M6)) ∧
            (¬ (0 : Int) ≠ 0 →
              Q (zI (-1)) M)) ∧
          (¬ (x2 : Int) ≠ 1 →
            ((1 : Int) ≠ 0 →
              ∃ Q7, zCi d 109 [.inr (.inr 0), .inl x1] M Q7 ∧ ∀ v7 M7, Q7 v7 M7 →
              ((v7 : Int) ≠ 0 →
                ((x1 : Int) ≠ 2 →
                  ((x2 : Int) ≠ 0 →
                    Q (zI (M7 36 7)) M7) ∧
                  (¬ (x2 : Int) ≠ 0 →
                    Q (zI (M7 36 6)) M7)) ∧
                (¬ (x1 : Int) ≠ 2 →
                  (0 : Int) ≤ x2 ∧ (x2 : Int) < 6 ∧ Q (zI (M7 37 x2.toNat)) M7)) ∧
              (¬ (v7 : Int) ≠ 0 →
                Q (zI (-4)) M7)) ∧
            (¬ (1 : Int) ≠ 0 →
              Q (zI (-1)) M)))))) ∧
  (¬ (x1 : Int) ≠ 2 →
    ∃ Q8, zCi d 34 [.inr (.inr 13), .inl x2] M Q8 ∧ ∀ v8 M8, Q8 v8 M8 →
    ((v8 : Int) ≠ 0 →
      ∃ Q9, zCi d 109 [.inr (.inr 0), .inl x1] M8 Q9 ∧ ∀ v9 M9, Q9 v9 M9 →
      ((v9 : Int) ≠ 0 →
        ((x1 : Int) ≠ 2 →
          ((x2 : Int) ≠ 0 →
            Q (zI (M9 36 7)) M9) ∧
          (¬ (x2 : Int) ≠ 0 →
            Q (zI (M9 36 6)) M9)) ∧
        (¬ (x1 : Int) ≠ 2 →
          (0 : Int) ≤ x2 ∧ (x2 : Int) < 6 ∧ Q (zI (M9 37 x2.toNat)) M9)) ∧
      (¬ (v9 : Int) ≠ 0 →
        Q (zI (-4)) M9)) ∧
    (¬ (v8 : Int) ≠ 0 →
      Q (zI (-1)) M8))) : zBg (d + 1) 90 0 [zR 0, zI x1, zI x2, none] [] M Q :=
  zvc_ok (I := zm90) (cuts := []) (n := 57) rfl h
theorem zk90 {d : Nat} {M : zMem} {Q : Option zV → zMem → Prop} {x1 : Int} {x2 : Int} (h : zBg d 90 0 [zR 0, zI x1, zI x2, none] [] M Q) : zCt d 90 [.inr (.inr 0), .inl x1, .inl x2] M Q := zCt_of (I := zm90) rfl rfl h
/-! CommaCopies.fewest(I)I , as 91 -/
set_option maxRecDepth 20000 in
theorem zv91_0 {d : Nat} {M : zMem} {Q : Option zV → zMem → Prop} (x1 : Int) (h :
  ((x1 : Int) < 0 →
    Q (zI (-1)) M) ∧
  (¬ (x1 : Int) < 0 →
    ((x1 : Int) ≤ 2 →
      ∃ Q1, zCi d 109 [.inr (.inr 0), .inl x1] M Q1 ∧ ∀ v1 M1, Q1 v1 M1 →
      ((v1 : Int) = 0 →
        ∃ Q2, zCi d 36 [.inr (.inr 13)] M1 Q2 ∧ ∀ v2 M2, Q2 v2 M2 →
        zBg (d + 1) 91 35 [zR 0, zI x1, zI v2, zI 0, none] [] M2 Q) ∧
      (¬ (v1 : Int) = 0 →
        Q (zI (-4)) M1)) ∧
    (¬ (x1 : Int) ≤ 2 →
      Q (zI (-1)) M))) : zBg (d + 1) 91 0 [zR 0, zI x1, none, none, none] [] M Q :=
  zvc_ok (I := zm91) (cuts := [(35, [true, true, true, true, false]), (52, [true, true, true, true, true])]) (n := 54) rfl h
set_option maxRecDepth 20000 in
theorem zv91_35 {d : Nat} {M : zMem} {Q : Option zV → zMem → Prop} (x1 : Int) (x2 : Int) (x3 : Int) (h :
  ((x3 : Int) > (M 13 6) →
    Q (zI (-4)) M) ∧
  (¬ (x3 : Int) > (M 13 6) →
    zBg d 91 52 [zR 0, zI x1, zI x2, zI x3, zI 0] [] M Q)) : zBg d 91 35 [zR 0, zI x1, zI x2, zI x3, none] [] M Q :=
  zvc_ok (I := zm91) (cuts := [(35, [true, true, true, true, false]), (52, [true, true, true, true, true])]) (n := 54) rfl h
set_option maxRecDepth 20000 in
theorem zv91_52 {d : Nat} {M : zMem} {Q : Option zV → zMem → Prop} (x1 : Int) (x2 : Int) (x3 : Int) (x4 : Int) (h :
  ((x4 : Int) > x2 →
    zR32 (x3 + 1) ∧ zBg (d + 1) 91 35 [zR 0, zI x1, zI x2, zI (x3 + 1), none] [] M Q) ∧
  (¬ (x4 : Int) > x2 →
    ∃ Q1, zCi d 180 [.inl x4] M Q1 ∧ ∀ v1 M1, Q1 v1 M1 →
    ((v1 : Int) ≠ x3 →
      zR32 (x4 + 1) ∧ zBg (d + 1) 91 52 [zR 0, zI x1, zI x2, zI x3, zI (x4 + 1)] [] M1 Q) ∧
    (¬ (v1 : Int) ≠ x3 →
      ∃ Q2, zCi d 16 [.inr (.inr 36), .inl x1, .inl x4] M1 Q2 ∧ ∀ v2 M2, Q2 v2 M2 →
      ((v2 : Int) ≠ 0 →
        zR32 (x4 + 1) ∧ zBg (d + 1) 91 52 [zR 0, zI x1, zI x2, zI x3, zI (x4 + 1)] [] M2 Q) ∧
      (¬ (v2 : Int) ≠ 0 →
        Q (zI x4) M2)))) : zBg (d + 1) 91 52 [zR 0, zI x1, zI x2, zI x3, zI x4] [] M Q :=
  zvc_ok (I := zm91) (cuts := [(35, [true, true, true, true, false]), (52, [true, true, true, true, true])]) (n := 54) rfl h
theorem zk91 {d : Nat} {M : zMem} {Q : Option zV → zMem → Prop} {x1 : Int} (h : zBg d 91 0 [zR 0, zI x1, none, none, none] [] M Q) : zCt d 91 [.inr (.inr 0), .inl x1] M Q := zCt_of (I := zm91) rfl rfl h
/-! CommaCopies.more(II)I , as 92 -/
set_option maxRecDepth 20000 in
theorem zv92_0 {d : Nat} {M : zMem} {Q : Option zV → zMem → Prop} (x1 : Int) (x2 : Int) (h :
  ((x1 : Int) = 0 →
    ∃ Q1, zCi d 34 [.inr (.inr 13), .inl x2] M Q1 ∧ ∀ v1 M1, Q1 v1 M1 →
    ((v1 : Int) ≠ 0 →
      ((M1 4 9 : Int) < 8 →
        ∃ Q2, zCi d 109 [.inr (.inr 0), .inl x1] M1 Q2 ∧ ∀ v2 M2, Q2 v2 M2 →
        ((v2 : Int) = 0 →
          ∃ Q3, zCi d 40 [.inr (.inr 13)] M2 Q3 ∧ ∀ v3 M3, Q3 v3 M3 →
          zBg (d + 1) 92 65 [zR 0, zI x1, zI x2, zI v3, zI 0] [] M3 Q) ∧
        (¬ (v2 : Int) = 0 →
          Q (zI (-4)) M2)) ∧
      (¬ (M1 4 9 : Int) < 8 →
        Q (zI (-3)) M1)) ∧
    (¬ (v1 : Int) ≠ 0 →
      Q (zI (-1)) M1)) ∧
  (¬ (x1 : Int) = 0 →
    ((x1 : Int) ≠ 1 →
      Q (zI (-1)) M) ∧
    (¬ (x1 : Int) ≠ 1 →
      ∃ Q4, zCi d 34 [.inr (.inr 13), .inl x2] M Q4 ∧ ∀ v4 M4, Q4 v4 M4 →
      ((v4 : Int) ≠ 0 →
        ((M4 4 9 : Int) < 8 →
          ∃ Q5, zCi d 109 [.inr (.inr 0), .inl x1] M4 Q5 ∧ ∀ v5 M5, Q5 v5 M5 →
          ((v5 : Int) = 0 →
            ∃ Q6, zCi d 40 [.inr (.inr 13)] M5 Q6 ∧ ∀ v6 M6, Q6 v6 M6 →
            zBg (d + 1) 92 65 [zR 0, zI x1, zI x2, zI v6, zI 0] [] M6 Q) ∧
          (¬ (v5 : Int) = 0 →
            Q (zI (-4)) M5)) ∧
        (¬ (M4 4 9 : Int) < 8 →
          Q (zI (-3)) M4)) ∧
      (¬ (v4 : Int) ≠ 0 →
        Q (zI (-1)) M4)))) : zBg (d + 1) 92 0 [zR 0, zI x1, zI x2, none, none] [] M Q :=
  zvc_ok (I := zm92) (cuts := [(65, [true, true, true, true, true])]) (n := 68) rfl h
set_option maxRecDepth 20000 in
theorem zv92_65 {d : Nat} {M : zMem} {Q : Option zV → zMem → Prop} (x1 : Int) (x2 : Int) (x3 : Int) (x4 : Int) (h :
  ((x4 : Int) ≥ x3 →
    Q (zI (-4)) M) ∧
  (¬ (x4 : Int) ≥ x3 →
    ∃ Q1, zCv d 41 [.inr (.inr 13), .inl x4, .inr (.inr 1)] M Q1 ∧ ∀ M1, Q1 M1 →
    ∃ Q2, zCi d 60 [.inr (.inr 4), .inr (.inr 1), .inl 0] M1 Q2 ∧ ∀ v2 M2, Q2 v2 M2 →
    ∃ Q3, zCi d 28 [.inr (.inr 36), .inl x1, .inl v2] M2 Q3 ∧ ∀ v3 M3, Q3 v3 M3 →
    ((v3 : Int) = 0 →
      zR32 (x4 + 1) ∧ zBg (d + 1) 92 65 [zR 0, zI x1, zI x2, zI x3, zI (x4 + 1)] [] M3 Q) ∧
    (¬ (v3 : Int) = 0 →
      (0 : Int) ≤ x2 ∧ (x2 : Int) < 6 ∧ Q (zI (M3 1 x2.toNat)) M3))) : zBg (d + 1) 92 65 [zR 0, zI x1, zI x2, zI x3, zI x4] [] M Q :=
  zvc_ok (I := zm92) (cuts := [(65, [true, true, true, true, true])]) (n := 68) rfl h
theorem zk92 {d : Nat} {M : zMem} {Q : Option zV → zMem → Prop} {x1 : Int} {x2 : Int} (h : zBg d 92 0 [zR 0, zI x1, zI x2, none, none] [] M Q) : zCt d 92 [.inr (.inr 0), .inl x1, .inl x2] M Q := zCt_of (I := zm92) rfl rfl h
/-! CommaCopies.score(I)I , as 93 -/
set_option maxRecDepth 20000 in
theorem zv93_0 {d : Nat} {M : zMem} {Q : Option zV → zMem → Prop} (x1 : Int) (h :
  ∃ Q1, zCi d 56 [.inr (.inr 4), .inl x1] M Q1 ∧ ∀ v1 M1, Q1 v1 M1 →
  ((v1 : Int) = 0 →
    Q (zI (-1)) M1) ∧
  (¬ (v1 : Int) = 0 →
    ∃ Q2, zCi d 62 [.inr (.inr 4), .inl x1] M1 Q2 ∧ ∀ v2 M2, Q2 v2 M2 →
    Q (zI v2) M2)) : zBg (d + 1) 93 0 [zR 0, zI x1] [] M Q :=
  zvc_ok (I := zm93) (cuts := []) (n := 17) rfl h
theorem zk93 {d : Nat} {M : zMem} {Q : Option zV → zMem → Prop} {x1 : Int} (h : zBg d 93 0 [zR 0, zI x1] [] M Q) : zCt d 93 [.inr (.inr 0), .inl x1] M Q := zCt_of (I := zm93) rfl rfl h
/-! CommaCopies.wrong(II)I , as 94 -/
set_option maxRecDepth 20000 in
theorem zv94_0 {d : Nat} {M : zMem} {Q : Option zV → zMem → Prop} (x1 : Int) (x2 : Int) (h :
  ((x1 : Int) < 0 →
    Q (zI (-1)) M) ∧
  (¬ (x1 : Int) < 0 →
    ((x1 : Int) > 6 →
      Q (zI (-1)) M) ∧
    (¬ (x1 : Int) > 6 →
      ((x2 : Int) = 0 →
        ((M 13 4 : Int) ≠ 0 →
          ∃ Q1, zCv d 0 [.inr (.inr 49), .inr (.inr 4)] M Q1 ∧ ∀ M1, Q1 M1 →
          ∃ Q2, zCi d 2 [.inr (.inr 49), .inl x1, .inl x2] M1 Q2 ∧ ∀ v2 M2, Q2 v2 M2 →
          Q (zI v2) M2) ∧
        (¬ (M 13 4 : Int) ≠ 0 →
          Q (zI (-2)) M)) ∧
      (¬ (x2 : Int) = 0 →
        ((x2 : Int) = 1 →
          ((M 13 4 : Int) ≠ 0 →
            ∃ Q3, zCv d 0 [.inr (.inr 49), .inr (.inr 4)] M Q3 ∧ ∀ M3, Q3 M3 →
            ∃ Q4, zCi d 2 [.inr (.inr 49), .inl x1, .inl x2] M3 Q4 ∧ ∀ v4 M4, Q4 v4 M4 →
            Q (zI v4) M4) ∧
          (¬ (M 13 4 : Int) ≠ 0 →
            Q (zI (-2)) M)) ∧
        (¬ (x2 : Int) = 1 →
          Q (zI (-1)) M))))) : zBg (d + 1) 94 0 [zR 0, zI x1, zI x2] [] M Q :=
  zvc_ok (I := zm94) (cuts := []) (n := 35) rfl h
theorem zk94 {d : Nat} {M : zMem} {Q : Option zV → zMem → Prop} {x1 : Int} {x2 : Int} (h : zBg d 94 0 [zR 0, zI x1, zI x2] [] M Q) : zCt d 94 [.inr (.inr 0), .inl x1, .inl x2] M Q := zCt_of (I := zm94) rfl rfl h
/-! CommaCopies.bar(I)I , as 95 -/
set_option maxRecDepth 20000 in
theorem zv95_0 {d : Nat} {M : zMem} {Q : Option zV → zMem → Prop} (x1 : Int) (h :
  ((x1 : Int) < 1 →
    Q (zI (-1)) M) ∧
  (¬ (x1 : Int) < 1 →
    ((x1 : Int) ≤ 9999 →
      ((M 13 4 : Int) ≠ 0 →
        ∃ Q1, zCv d 0 [.inr (.inr 49), .inr (.inr 4)] M Q1 ∧ ∀ M1, Q1 M1 →
        ∃ Q2, zCi d 4 [.inr (.inr 49), .inl x1] M1 Q2 ∧ ∀ v2 M2, Q2 v2 M2 →
        Q (zI v2) M2) ∧
      (¬ (M 13 4 : Int) ≠ 0 →
        Q (zI (-2)) M)) ∧
    (¬ (x1 : Int) ≤ 9999 →
      Q (zI (-1)) M))) : zBg (d + 1) 95 0 [zR 0, zI x1] [] M Q :=
  zvc_ok (I := zm95) (cuts := []) (n := 30) rfl h
theorem zk95 {d : Nat} {M : zMem} {Q : Option zV → zMem → Prop} {x1 : Int} (h : zBg d 95 0 [zR 0, zI x1] [] M Q) : zCt d 95 [.inr (.inr 0), .inl x1] M Q := zCt_of (I := zm95) rfl rfl h
/-! CommaCopies.put(II)I , as 96 -/
set_option maxRecDepth 20000 in
theorem zv96_0 {d : Nat} {M : zMem} {Q : Option zV → zMem → Prop} (x1 : Int) (x2 : Int) (h :
  ∃ Q1, zCi d 35 [.inr (.inr 13), .inl x1, .inl x2] M Q1 ∧ ∀ v1 M1, Q1 v1 M1 →
  ((v1 : Int) ≠ 0 →
    ∃ Q2, zCi d 64 [.inr (.inr 4), .inl x1] M1 Q2 ∧ ∀ v2 M2, Q2 v2 M2 →
    ∃ Q3, zCi d 67 [.inl v2, .inl x2] M2 Q3 ∧ ∀ v3 M3, Q3 v3 M3 →
    Q (zI v3) M3) ∧
  (¬ (v1 : Int) ≠ 0 →
    Q (zI (-1)) M1)) : zBg (d + 1) 96 0 [zR 0, zI x1, zI x2] [] M Q :=
  zvc_ok (I := zm96) (cuts := []) (n := 21) rfl h
theorem zk96 {d : Nat} {M : zMem} {Q : Option zV → zMem → Prop} {x1 : Int} {x2 : Int} (h : zBg d 96 0 [zR 0, zI x1, zI x2] [] M Q) : zCt d 96 [.inr (.inr 0), .inl x1, .inl x2] M Q := zCt_of (I := zm96) rfl rfl h
/-! CommaCopies.putAll()I , as 97 -/
set_option maxRecDepth 20000 in
theorem zv97_0 {d : Nat} {M : zMem} {Q : Option zV → zMem → Prop} (h :
  ((M 13 4 : Int) ≠ 0 →
    zBg d 97 18 [zR 0, zI 0, none] [] M Q) ∧
  (¬ (M 13 4 : Int) ≠ 0 →
    Q (zI (-2)) M)) : zBg d 97 0 [zR 0, none, none] [] M Q :=
  zvc_ok (I := zm97) (cuts := [(18, [true, true, false]), (58, [true, true, true])]) (n := 50) rfl h
set_option maxRecDepth 20000 in
theorem zv97_18 {d : Nat} {M : zMem} {Q : Option zV → zMem → Prop} (x1 : Int) (h :
  ((x1 : Int) ≥ (M 13 6) →
    zBg (d + 1) 97 58 [zR 0, zI 0, zI 0] [] M Q) ∧
  (¬ (x1 : Int) ≥ (M 13 6) →
    ∃ Q1, zCi d 64 [.inr (.inr 4), .inl x1] M Q1 ∧ ∀ v1 M1, Q1 v1 M1 →
    ∃ Q2, zCv d 66 [.inr (.inr 4), .inl x1, .inl v1] M1 Q2 ∧ ∀ M2, Q2 M2 →
    zR32 (x1 + 1) ∧ zBg (d + 1) 97 18 [zR 0, zI (x1 + 1), none] [] M2 Q)) : zBg (d + 1) 97 18 [zR 0, zI x1, none] [] M Q :=
  zvc_ok (I := zm97) (cuts := [(18, [true, true, false]), (58, [true, true, true])]) (n := 50) rfl h
set_option maxRecDepth 20000 in
theorem zv97_58 {d : Nat} {M : zMem} {Q : Option zV → zMem → Prop} (x1 : Int) (x2 : Int) (h :
  ((x2 : Int) ≥ (M 4 9) →
    Q (zI x1) M) ∧
  (¬ (x2 : Int) ≥ (M 4 9) →
    ∃ Q1, zCi d 63 [.inr (.inr 4), .inl x2] M Q1 ∧ ∀ v1 M1, Q1 v1 M1 →
    zR32 (x1 + v1) ∧ zR32 (x2 + 1) ∧ zBg (d + 1) 97 58 [zR 0, zI (x1 + v1), zI (x2 + 1)] [] M1 Q)) : zBg (d + 1) 97 58 [zR 0, zI x1, zI x2] [] M Q :=
  zvc_ok (I := zm97) (cuts := [(18, [true, true, false]), (58, [true, true, true])]) (n := 50) rfl h
theorem zk97 {d : Nat} {M : zMem} {Q : Option zV → zMem → Prop} (h : zBg d 97 0 [zR 0, none, none] [] M Q) : zCt d 97 [.inr (.inr 0)] M Q := zCt_of (I := zm97) rfl rfl h
/-! CommaCopies.hidden(II)I , as 98 -/
set_option maxRecDepth 20000 in
theorem zv98_0 {d : Nat} {M : zMem} {Q : Option zV → zMem → Prop} (x1 : Int) (x2 : Int) (h :
  ∃ Q1, zCi d 57 [.inr (.inr 4), .inl x1] M Q1 ∧ ∀ v1 M1, Q1 v1 M1 →
  ((v1 : Int) = 0 →
    Q (zI (-1)) M1) ∧
  (¬ (v1 : Int) = 0 →
    ((x2 : Int) = (-1) →
      ∃ Q2, zCr d 107 [.inr (.inr 0)] M1 Q2 ∧ ∀ M2, Q2 M2 →
      ∃ Q3, zCv d 5 [.inr (.inr 51), .inr (.inr 42), .inl x1, .inl (M2 13 6)] M2 Q3 ∧ ∀ M3, Q3 M3 →
      ((x2 : Int) ≠ (-1) →
        (0 : Int) ≤ x2 ∧ (x2 : Int) < 6 ∧ Q (zI (M3 54 x2.toNat)) M3) ∧
      (¬ (x2 : Int) ≠ (-1) →
        Q (zI (M3 51 3)) M3)) ∧
    (¬ (x2 : Int) = (-1) →
      ∃ Q4, zCi d 34 [.inr (.inr 13), .inl x2] M1 Q4 ∧ ∀ v4 M4, Q4 v4 M4 →
      ((v4 : Int) ≠ 0 →
        ∃ Q5, zCr d 107 [.inr (.inr 0)] M4 Q5 ∧ ∀ M5, Q5 M5 →
        ∃ Q6, zCv d 5 [.inr (.inr 51), .inr (.inr 42), .inl x1, .inl (M5 13 6)] M5 Q6 ∧ ∀ M6, Q6 M6 →
        ((x2 : Int) ≠ (-1) →
          (0 : Int) ≤ x2 ∧ (x2 : Int) < 6 ∧ Q (zI (M6 54 x2.toNat)) M6) ∧
        (¬ (x2 : Int) ≠ (-1) →
          Q (zI (M6 51 3)) M6)) ∧
      (¬ (v4 : Int) ≠ 0 →
        Q (zI (-1)) M4)))) : zBg (d + 1) 98 0 [zR 0, zI x1, zI x2] [] M Q :=
  zvc_ok (I := zm98) (cuts := []) (n := 44) rfl h
theorem zk98 {d : Nat} {M : zMem} {Q : Option zV → zMem → Prop} {x1 : Int} {x2 : Int} (h : zBg d 98 0 [zR 0, zI x1, zI x2] [] M Q) : zCt d 98 [.inr (.inr 0), .inl x1, .inl x2] M Q := zCt_of (I := zm98) rfl rfl h
/-! CommaCopies.keep()I , as 99 -/
set_option maxRecDepth 20000 in
theorem zv99_0 {d : Nat} {M : zMem} {Q : Option zV → zMem → Prop} (h :
  ((M 13 4 : Int) = 0 →
    Q (zI (-2)) M) ∧
  (¬ (M 13 4 : Int) = 0 →
    ∃ Q1, zCi d 59 [.inr (.inr 4)] M Q1 ∧ ∀ v1 M1, Q1 v1 M1 →
    Q (zI v1) M1)) : zBg (d + 1) 99 0 [zR 0] [] M Q :=
  zvc_ok (I := zm99) (cuts := []) (n := 16) rfl h
theorem zk99 {d : Nat} {M : zMem} {Q : Option zV → zMem → Prop} (h : zBg d 99 0 [zR 0] [] M Q) : zCt d 99 [.inr (.inr 0)] M Q := zCt_of (I := zm99) rfl rfl h
/-! CommaCopies.past(II)I , as 100 -/
set_option maxRecDepth 20000 in
theorem zv100_0 {d : Nat} {M : zMem} {Q : Option zV → zMem → Prop} (x1 : Int) (x2 : Int) (h :
  ∃ Q1, zCi d 56 [.inr (.inr 4), .inl x1] M Q1 ∧ ∀ v1 M1, Q1 v1 M1 →
  ((v1 : Int) = 0 →
    Q (zI (-1)) M1) ∧
  (¬ (v1 : Int) = 0 →
    ((x2 : Int) = 0 →
      zBg (d + 1) 100 27 [zR 0, zI x1, zI x2, zI 0, zI 0, none] [] M1 Q) ∧
    (¬ (x2 : Int) = 0 →
      ((x2 : Int) = 1 →
        zBg (d + 1) 100 27 [zR 0, zI x1, zI x2, zI 0, zI 0, none] [] M1 Q) ∧
      (¬ (x2 : Int) = 1 →
        Q (zI (-1)) M1)))) : zBg (d + 1) 100 0 [zR 0, zI x1, zI x2, none, none, none] [] M Q :=
  zvc_ok (I := zm100) (cuts := [(27, [true, true, true, true, true, false])]) (n := 78) rfl h
set_option maxRecDepth 20000 in
theorem zv100_27 {d : Nat} {M : zMem} {Q : Option zV → zMem → Prop} (x1 : Int) (x2 : Int) (x3 : Int) (x4 : Int) (h :
  ((x4 : Int) ≥ (M 4 10) →
    Q (zI x3) M) ∧
  (¬ (x4 : Int) ≥ (M 4 10) →
    (0 : Int) ≤ x4 ∧ (x4 : Int) < 6 ∧ (0 : Int) ≤ x4 ∧ (x4 : Int) < 6 ∧ ∃ Q1, zCv d 9 [.inr (.inr 42), .inr (.inr 4), .inl (M 10 x4.toNat), .inl (M 11 x4.toNat)] M Q1 ∧ ∀ M1, Q1 M1 →
    ∃ Q2, zCv d 10 [.inr (.inr 42)] M1 Q2 ∧ ∀ M2, Q2 M2 →
    zR32 (x4 * 6) ∧ ∃ Q3, zCi d 60 [.inr (.inr 4), .inr (.inr 9), .inl (x4 * 6)] M2 Q3 ∧ ∀ v3 M3, Q3 v3 M3 →
    ∃ Q4, zCv d 15 [.inr (.inr 42), .inl v3] M3 Q4 ∧ ∀ M4, Q4 M4 →
    ((x2 : Int) ≠ 0 →
      zR32 (x3 + (ziand (zishr (M4 42 12) x1) 1)) ∧ zR32 (x4 + 1) ∧ zBg (d + 1) 100 27 [zR 0, zI x1, zI x2, zI (x3 + (ziand (zishr (M4 42 12) x1) 1)), zI (x4 + 1), none] [] M4 Q) ∧
    (¬ (x2 : Int) ≠ 0 →
      zR32 (x3 + (ziand (zishr (M4 42 11) x1) 1)) ∧ zR32 (x4 + 1) ∧ zBg (d + 1) 100 27 [zR 0, zI x1, zI x2, zI (x3 + (ziand (zishr (M4 42 11) x1) 1)), zI (x4 + 1), none] [] M4 Q))) : zBg (d + 1) 100 27 [zR 0, zI x1, zI x2, zI x3, zI x4, none] [] M Q :=
  zvc_ok (I := zm100) (cuts := [(27, [true, true, true, true, true, false])]) (n := 78) rfl h
theorem zk100 {d : Nat} {M : zMem} {Q : Option zV → zMem → Prop} {x1 : Int} {x2 : Int} (h : zBg d 100 0 [zR 0, zI x1, zI x2, none, none, none] [] M Q) : zCt d 100 [.inr (.inr 0), .inl x1, .inl x2] M Q := zCt_of (I := zm100) rfl rfl h
/-! CommaCopies.image()I , as 101 -/
set_option maxRecDepth 20000 in
theorem zv101_0 {d : Nat} {M : zMem} {Q : Option zV → zMem → Prop} (h :
  ∃ Q1, zCv d 55 [.inr (.inr 18), .inr (.inr 4)] M Q1 ∧ ∀ M1, Q1 M1 →
  ((1 : Int) = 0 ∨ (1 : Int) = 1) ∧ Q (zI 1) (zup M1 0 10 1)) : zBg (d + 1) 101 0 [zR 0] [] M Q :=
  zvc_ok (I := zm101) (cuts := []) (n := 15) rfl h
theorem zk101 {d : Nat} {M : zMem} {Q : Option zV → zMem → Prop} (h : zBg d 101 0 [zR 0] [] M Q) : zCt d 101 [.inr (.inr 0)] M Q := zCt_of (I := zm101) rfl rfl h
/-! CommaCopies.restore()I , as 102 -/
set_option maxRecDepth 20000 in
theorem zv102_0 {d : Nat} {M : zMem} {Q : Option zV → zMem → Prop} (h :
  ((M 0 10 : Int) ≠ 0 →
    ∃ Q1, zCv d 55 [.inr (.inr 4), .inr (.inr 18)] M Q1 ∧ ∀ M1, Q1 M1 →
    Q (zI 1) M1) ∧
  (¬ (M 0 10 : Int) ≠ 0 →
    Q (zI (-4)) M)) : zBg (d + 1) 102 0 [zR 0] [] M Q :=
  zvc_ok (I := zm102) (cuts := []) (n := 17) rfl h
theorem zk102 {d : Nat} {M : zMem} {Q : Option zV → zMem → Prop} (h : zBg d 102 0 [zR 0] [] M Q) : zCt d 102 [.inr (.inr 0)] M Q := zCt_of (I := zm102) rfl rfl h
/-! CommaCopies.sheet(III)I , as 103 -/
set_option maxRecDepth 20000 in
theorem zv103_0 {d : Nat} {M : zMem} {Q : Option zV → zMem → Prop} (x1 : Int) (x2 : Int) (x3 : Int) (h :
  ∃ Q1, zCi d 48 [.inr (.inr 32), .inl x1, .inl x2, .inl x3] M Q1 ∧ ∀ v1 M1, Q1 v1 M1 →
  Q (zI v1) M1) : zBg (d + 1) 103 0 [zR 0, zI x1, zI x2, zI x3] [] M Q :=
  zvc_ok (I := zm103) (cuts := []) (n := 12) rfl h
theorem zk103 {d : Nat} {M : zMem} {Q : Option zV → zMem → Prop} {x1 : Int} {x2 : Int} {x3 : Int} (h : zBg d 103 0 [zR 0, zI x1, zI x2, zI x3] [] M Q) : zCt d 103 [.inr (.inr 0), .inl x1, .inl x2, .inl x3] M Q := zCt_of (I := zm103) rfl rfl h
/-! CommaCopies.drop(I)I , as 104 -/
set_option maxRecDepth 20000 in
theorem zv104_0 {d : Nat} {M : zMem} {Q : Option zV → zMem → Prop} (x1 : Int) (h :
  ∃ Q1, zCi d 49 [.inr (.inr 32), .inl x1] M Q1 ∧ ∀ v1 M1, Q1 v1 M1 →
  Q (zI v1) M1) : zBg (d + 1) 104 0 [zR 0, zI x1] [] M Q :=
  zvc_ok (I := zm104) (cuts := []) (n := 10) rfl h
theorem zk104 {d : Nat} {M : zMem} {Q : Option zV → zMem → Prop} {x1 : Int} (h : zBg d 104 0 [zR 0, zI x1] [] M Q) : zCt d 104 [.inr (.inr 0), .inl x1] M Q := zCt_of (I := zm104) rfl rfl h
/-! CommaCopies.item(IIII)I , as 105 -/
set_option maxRecDepth 20000 in
theorem zv105_0 {d : Nat} {M : zMem} {Q : Option zV → zMem → Prop} (x1 : Int) (x2 : Int) (x3 : Int) (x4 : Int) (h :
  ∃ Q1, zCi d 50 [.inr (.inr 32), .inl x1, .inl x2, .inl x3, .inl 1] M Q1 ∧ ∀ v1 M1, Q1 v1 M1 →
  ((v1 : Int) ≥ 0 →
    zR32 (x1 * 12) ∧ zR32 ((x1 * 12) + x3) ∧ ∃ Q2, zCi d 52 [.inl x2, .inl x4] M1 Q2 ∧ ∀ v2 M2, Q2 v2 M2 →
    (0 : Int) ≤ ((x1 * 12) + x3) ∧ ((x1 * 12) + x3 : Int) < 48 ∧ Q (zI 1) (zup M2 35 (((x1 * 12) + x3).toNat) v2)) ∧
  (¬ (v1 : Int) ≥ 0 →
    Q (zI v1) M1)) : zBg (d + 1) 105 0 [zR 0, zI x1, zI x2, zI x3, zI x4, none] [] M Q :=
  zvc_ok (I := zm105) (cuts := []) (n := 31) rfl h
theorem zk105 {d : Nat} {M : zMem} {Q : Option zV → zMem → Prop} {x1 : Int} {x2 : Int} {x3 : Int} {x4 : Int} (h : zBg d 105 0 [zR 0, zI x1, zI x2, zI x3, zI x4, none] [] M Q) : zCt d 105 [.inr (.inr 0), .inl x1, .inl x2, .inl x3, .inl x4] M Q := zCt_of (I := zm105) rfl rfl h
/-! CommaCopies.copy(IIIII)I , as 106 -/
set_option maxRecDepth 20000 in
theorem zv106_0 {d : Nat} {M : zMem} {Q : Option zV → zMem → Prop} (x1 : Int) (x2 : Int) (x3 : Int) (x4 : Int) (x5 : Int) (h :
  ∃ Q1, zCi d 53 [.inr (.inr 32), .inl x1, .inl x2, .inl x3, .inl x4, .inl x5] M Q1 ∧ ∀ v1 M1, Q1 v1 M1 →
  Q (zI v1) M1) : zBg (d + 1) 106 0 [zR 0, zI x1, zI x2, zI x3, zI x4, zI x5] [] M Q :=
  zvc_ok (I := zm106) (cuts := []) (n := 14) rfl h
theorem zk106 {d : Nat} {M : zMem} {Q : Option zV → zMem → Prop} {x1 : Int} {x2 : Int} {x3 : Int} {x4 : Int} {x5 : Int} (h : zBg d 106 0 [zR 0, zI x1, zI x2, zI x3, zI x4, zI x5] [] M Q) : zCt d 106 [.inr (.inr 0), .inl x1, .inl x2, .inl x3, .inl x4, .inl x5] M Q := zCt_of (I := zm106) rfl rfl h
/-! CommaCopies.lookNow()LCommaCopies$Joins; , as 107 -/
set_option maxRecDepth 20000 in
theorem zv107_0 {d : Nat} {M : zMem} {Q : Option zV → zMem → Prop} (h :
  ∃ Q1, zCv d 9 [.inr (.inr 42), .inr (.inr 4), .inl (M 4 11), .inl (M 4 12)] M Q1 ∧ ∀ M1, Q1 M1 →
  Q (zR 42) M1) : zBg (d + 1) 107 0 [zR 0] [] M Q :=
  zvc_ok (I := zm107) (cuts := []) (n := 19) rfl h
theorem zk107 {d : Nat} {M : zMem} {Q : Option zV → zMem → Prop} (h : zBg d 107 0 [zR 0] [] M Q) : zCt d 107 [.inr (.inr 0)] M Q := zCt_of (I := zm107) rfl rfl h
/-! CommaCopies.tryPrint()LCommaCopies$Joins; , as 108 -/
set_option maxRecDepth 20000 in
theorem zv108_0 {d : Nat} {M : zMem} {Q : Option zV → zMem → Prop} (h :
  ∃ Q1, zCr d 107 [.inr (.inr 0)] M Q1 ∧ ∀ M1, Q1 M1 →
  ∃ Q2, zCv d 10 [.inr (.inr 42)] M1 Q2 ∧ ∀ M2, Q2 M2 →
  ∃ Q3, zCi d 60 [.inr (.inr 4), .inr (.inr 8), .inl 0] M2 Q3 ∧ ∀ v3 M3, Q3 v3 M3 →
  ∃ Q4, zCv d 15 [.inr (.inr 42), .inl v3] M3 Q4 ∧ ∀ M4, Q4 M4 →
  Q (zR 42) M4) : zBg (d + 1) 108 0 [zR 0] [] M Q :=
  zvc_ok (I := zm108) (cuts := []) (n := 21) rfl h
theorem zk108 {d : Nat} {M : zMem} {Q : Option zV → zMem → Prop} (h : zBg d 108 0 [zR 0] [] M Q) : zCt d 108 [.inr (.inr 0)] M Q := zCt_of (I := zm108) rfl rfl h
/-! CommaCopies.breaks(I)Z , as 109 -/
set_option maxRecDepth 20000 in
theorem zv109_0 {d : Nat} {M : zMem} {Q : Option zV → zMem → Prop} (x1 : Int) (h :
  ∃ Q1, zCr d 107 [.inr (.inr 0)] M Q1 ∧ ∀ M1, Q1 M1 →
  ∃ Q2, zCv d 10 [.inr (.inr 42)] M1 Q2 ∧ ∀ M2, Q2 M2 →
  ((x1 : Int) ≠ 2 →
    ∃ Q3, zCi d 36 [.inr (.inr 13)] M2 Q3 ∧ ∀ v3 M3, Q3 v3 M3 →
    ∃ Q4, zCi d 16 [.inr (.inr 36), .inl x1, .inl v3] M3 Q4 ∧ ∀ v4 M4, Q4 v4 M4 →
    ((v4 : Int) = 0 ∨ (v4 : Int) = 1) ∧ Q (zI v4) M4) ∧
  (¬ (x1 : Int) ≠ 2 →
    ∃ Q5, zCv d 24 [.inr (.inr 36)] M2 Q5 ∧ ∀ M5, Q5 M5 →
    ∃ Q6, zCi d 36 [.inr (.inr 13)] M5 Q6 ∧ ∀ v6 M6, Q6 v6 M6 →
    ∃ Q7, zCi d 16 [.inr (.inr 36), .inl x1, .inl v6] M6 Q7 ∧ ∀ v7 M7, Q7 v7 M7 →
    ((v7 : Int) = 0 ∨ (v7 : Int) = 1) ∧ Q (zI v7) M7)) : zBg (d + 1) 109 0 [zR 0, zI x1] [] M Q :=
  zvc_ok (I := zm109) (cuts := []) (n := 23) rfl h
theorem zk109 {d : Nat} {M : zMem} {Q : Option zV → zMem → Prop} {x1 : Int} (h : zBg d 109 0 [zR 0, zI x1] [] M Q) : zCt d 109 [.inr (.inr 0), .inl x1] M Q := zCt_of (I := zm109) rfl rfl h
/-! CommaCopiesModel.in(JJJ)Z , as 110 -/
set_option maxRecDepth 20000 in
theorem zv110_0 {d : Nat} {M : zMem} {Q : Option zV → zMem → Prop} (x0 : Int) (x2 : Int) (x4 : Int) (h :
  ((zlcmp x0 x2 : Int) < 0 →
    ((0 : Int) = 0 ∨ (0 : Int) = 1) ∧ Q (zI 0) M) ∧
  (¬ (zlcmp x0 x2 : Int) < 0 →
    ((zlcmp x0 x4 : Int) > 0 →
      ((0 : Int) = 0 ∨ (0 : Int) = 1) ∧ Q (zI 0) M) ∧
    (¬ (zlcmp x0 x4 : Int) > 0 →
      ((1 : Int) = 0 ∨ (1 : Int) = 1) ∧ Q (zI 1) M))) : zBg d 110 0 [zL x0, none, zL x2, none, zL x4, none] [] M Q :=
  zvc_ok (I := zm110) (cuts := []) (n := 17) rfl h
theorem zk110 {d : Nat} {M : zMem} {Q : Option zV → zMem → Prop} {x0 : Int} {x2 : Int} {x4 : Int} (h : zBg d 110 0 [zL x0, none, zL x2, none, zL x4, none] [] M Q) : zCt d 110 [.inr (.inl x0), .inr (.inl x2), .inr (.inl x4)] M Q := zCt_of (I := zm110) rfl rfl h
/-! CommaCopiesModel.type(JI)I , as 111 -/
set_option maxRecDepth 20000 in
theorem zv111_0 {d : Nat} {M : zMem} {Q : Option zV → zMem → Prop} (x1 : Int) (x3 : Int) (h :
  ∃ Q1, zCi d 110 [.inr (.inl x3), .inr (.inl 1), .inr (.inl 8)] M Q1 ∧ ∀ v1 M1, Q1 v1 M1 →
  ((v1 : Int) ≠ 0 →
    zBg (d + 1) 111 17 [zR 55, zL x1, none, zI x3, zI 0] [] M1 Q) ∧
  (¬ (v1 : Int) ≠ 0 →
    Q (zI (-1)) M1)) : zBg (d + 1) 111 0 [zR 55, zL x1, none, zI x3, none] [] M Q :=
  zvc_ok (I := zm111) (cuts := [(17, [true, true, false, true, true]), (73, [true, true, false, false, true])]) (n := 71) rfl h
set_option maxRecDepth 20000 in
theorem zv111_17 {d : Nat} {M : zMem} {Q : Option zV → zMem → Prop} (x1 : Int) (x3 : Int) (x4 : Int) (h :
  ((x4 : Int) ≥ x3 →
    zR32 ((M 55 1) + x3) ∧ (((M 55 1) + x3 : Int) ≤ 120 →
      zR32 (x3 - 1) ∧ zBg (d + 1) 111 73 [zR 55, zL x1, none, none, zI (x3 - 1)] [] M Q) ∧
    (¬ ((M 55 1) + x3 : Int) ≤ 120 →
      Q (zI (-3)) M)) ∧
  (¬ (x4 : Int) ≥ x3 →
    zR32 (8 * x4) ∧ ∃ Q1, zCi d 110 [.inr (.inl (zland (zlshr x1 (8 * x4)) 255)), .inr (.inl 32), .inr (.inl 126)] M Q1 ∧ ∀ v1 M1, Q1 v1 M1 →
    ((v1 : Int) ≠ 0 →
      zR32 (x4 + 1) ∧ zBg (d + 1) 111 17 [zR 55, zL x1, none, zI x3, zI (x4 + 1)] [] M1 Q) ∧
    (¬ (v1 : Int) ≠ 0 →
      Q (zI (-1)) M1))) : zBg (d + 1) 111 17 [zR 55, zL x1, none, zI x3, zI x4] [] M Q :=
  zvc_ok (I := zm111) (cuts := [(17, [true, true, false, true, true]), (73, [true, true, false, false, true])]) (n := 71) rfl h
set_option maxRecDepth 20000 in
theorem zv111_73 {d : Nat} {M : zMem} {Q : Option zV → zMem → Prop} (x1 : Int) (x4 : Int) (h :
  ((x4 : Int) < 0 →
    Q (zI (M 55 1)) M) ∧
  (¬ (x4 : Int) < 0 →
    zR32 (8 * x4) ∧ (0 : Int) ≤ (M 55 1) ∧ (M 55 1 : Int) < 120 ∧ zR32 ((M 55 1) + 1) ∧ zR32 (x4 + (-1)) ∧ zBg d 111 73 [zR 55, zL x1, none, none, zI (x4 + (-1))] [] (zup (zup M 56 ((M 55 1).toNat) (zl2i (zland (zlshr x1 (8 * x4)) 255))) 55 1 ((M 55 1) + 1)) Q)) : zBg d 111 73 [zR 55, zL x1, none, none, zI x4] [] M Q :=
  zvc_ok (I := zm111) (cuts := [(17, [true, true, false, true, true]), (73, [true, true, false, false, true])]) (n := 71) rfl h
theorem zk111 {d : Nat} {M : zMem} {Q : Option zV → zMem → Prop} {x1 : Int} {x3 : Int} (h : zBg d 111 0 [zR 55, zL x1, none, zI x3, none] [] M Q) : zCt d 111 [.inr (.inr 55), .inr (.inl x1), .inl x3] M Q := zCt_of (I := zm111) rfl rfl h
/-! CommaCopiesModel.fault()I , as 112 -/
set_option maxRecDepth 20000 in
theorem zv112_0 {d : Nat} {M : zMem} {Q : Option zV → zMem → Prop} (h :
  zBg d 112 12 [zR 55, zI 0, zI 0, zI 0, zI 0, zI 0, none, none] [] M Q) : zBg d 112 0 [zR 55, none, none, none, none, none, none, none] [] M Q :=
  zvc_ok (I := zm112) (cuts := [(12, [true, true, true, true, true, true, false, false])]) (n := 101) rfl h
set_option maxRecDepth 20000 in
theorem zv112_12 {d : Nat} {M : zMem} {Q : Option zV → zMem → Prop} (x1 : Int) (x2 : Int) (x3 : Int) (x4 : Int) (x5 : Int) (h :
  ((x5 : Int) ≥ (M 55 1) →
    ((x4 : Int) ≠ 0 →
      Q (zI (M 55 1)) M) ∧
    (¬ (x4 : Int) ≠ 0 →
      ((M 55 1 : Int) ≠ 0 →
        Q (zI (-4)) M) ∧
      (¬ (M 55 1 : Int) ≠ 0 →
        Q (zI (M 55 1)) M))) ∧
  (¬ (x5 : Int) ≥ (M 55 1) →
    (0 : Int) ≤ x5 ∧ (x5 : Int) < 120 ∧ ((M 56 x5.toNat : Int) ≠ 91 →
      ((M 56 x5.toNat : Int) ≠ 47 →
        ((M 56 x5.toNat : Int) ≠ 93 →
          ((x4 : Int) = 0 →
            zR32 (x3 + 1) ∧ ((0 : Int) = 0 →
              zR32 (x5 + 1) ∧ zBg d 112 12 [zR 55, zI x1, zI x2, zI (x3 + 1), zI x4, zI (x5 + 1), none, none] [] M Q) ∧
            (¬ (0 : Int) = 0 →
              Q (zI x5) M)) ∧
          (¬ (x4 : Int) = 0 →
            ((x3 : Int) ≠ 8 →
              zR32 (x3 + 1) ∧ ((0 : Int) = 0 →
                zR32 (x5 + 1) ∧ zBg d 112 12 [zR 55, zI x1, zI x2, zI (x3 + 1), zI x4, zI (x5 + 1), none, none] [] M Q) ∧
              (¬ (0 : Int) = 0 →
                Q (zI x5) M)) ∧
            (¬ (x3 : Int) ≠ 8 →
              zR32 (x3 + 1) ∧ ((1 : Int) = 0 →
                zR32 (x5 + 1) ∧ zBg d 112 12 [zR 55, zI x1, zI x2, zI (x3 + 1), zI x4, zI (x5 + 1), none, none] [] M Q) ∧
              (¬ (1 : Int) = 0 →
                Q (zI x5) M)))) ∧
        (¬ (M 56 x5.toNat : Int) ≠ 93 →
          ((x4 : Int) = 0 →
            ((1 : Int) = 0 →
              zR32 (x5 + 1) ∧ zBg d 112 12 [zR 55, zI x1, zI x2, zI x3, zI 0, zI (x5 + 1), none, none] [] M Q) ∧
            (¬ (1 : Int) = 0 →
              Q (zI x5) M)) ∧
          (¬ (x4 : Int) = 0 →
            ((x2 : Int) ≥ 2 →
              ((0 : Int) = 0 →
                zR32 (x5 + 1) ∧ zBg d 112 12 [zR 55, zI x1, zI x2, zI x3, zI 0, zI (x5 + 1), none, none] [] M Q) ∧
              (¬ (0 : Int) = 0 →
                Q (zI x5) M)) ∧
            (¬ (x2 : Int) ≥ 2 →
              ((1 : Int) = 0 →
                zR32 (x5 + 1) ∧ zBg d 112 12 [zR 55, zI x1, zI x2, zI x3, zI 0, zI (x5 + 1), none, none] [] M Q) ∧
              (¬ (1 : Int) = 0 →
                Q (zI x5) M))))) ∧
      (¬ (M 56 x5.toNat : Int) ≠ 47 →
        ((x4 : Int) = 0 →
          zR32 (x2 + 1) ∧ ((1 : Int) = 0 →
            zR32 (x5 + 1) ∧ zBg d 112 12 [zR 55, zI x1, zI (x2 + 1), zI 0, zI x4, zI (x5 + 1), none, none] [] M Q) ∧
          (¬ (1 : Int) = 0 →
            Q (zI x5) M)) ∧
        (¬ (x4 : Int) = 0 →
          ((x2 : Int) ≠ 4 →
            zR32 (x2 + 1) ∧ ((0 : Int) = 0 →
              zR32 (x5 + 1) ∧ zBg d 112 12 [zR 55, zI x1, zI (x2 + 1), zI 0, zI x4, zI (x5 + 1), none, none] [] M Q) ∧
            (¬ (0 : Int) = 0 →
              Q (zI x5) M)) ∧
          (¬ (x2 : Int) ≠ 4 →
            zR32 (x2 + 1) ∧ ((1 : Int) = 0 →
              zR32 (x5 + 1) ∧ zBg d 112 12 [zR 55, zI x1, zI (x2 + 1), zI 0, zI x4, zI (x5 + 1), none, none] [] M Q) ∧
            (¬ (1 : Int) = 0 →
              Q (zI x5) M))))) ∧
    (¬ (M 56 x5.toNat : Int) ≠ 91 →
      ((x4 : Int) ≠ 0 →
        zR32 (x1 + 1) ∧ ((1 : Int) = 0 →
          zR32 (x5 + 1) ∧ zBg d 112 12 [zR 55, zI (x1 + 1), zI 1, zI 0, zI 1, zI (x5 + 1), none, none] [] M Q) ∧
        (¬ (1 : Int) = 0 →
          Q (zI x5) M)) ∧
      (¬ (x4 : Int) ≠ 0 →
        ((x1 : Int) ≠ 6 →
          zR32 (x1 + 1) ∧ ((0 : Int) = 0 →
            zR32 (x5 + 1) ∧ zBg d 112 12 [zR 55, zI (x1 + 1), zI 1, zI 0, zI 1, zI (x5 + 1), none, none] [] M Q) ∧
          (¬ (0 : Int) = 0 →
            Q (zI x5) M)) ∧
        (¬ (x1 : Int) ≠ 6 →
          zR32 (x1 + 1) ∧ ((1 : Int) = 0 →
            zR32 (x5 + 1) ∧ zBg d 112 12 [zR 55, zI (x1 + 1), zI 1, zI 0, zI 1, zI (x5 + 1), none, none] [] M Q) ∧
          (¬ (1 : Int) = 0 →
            Q (zI x5) M)))))) : zBg d 112 12 [zR 55, zI x1, zI x2, zI x3, zI x4, zI x5, none, none] [] M Q :=
  zvc_ok (I := zm112) (cuts := [(12, [true, true, true, true, true, true, false, false])]) (n := 101) rfl h
theorem zk112 {d : Nat} {M : zMem} {Q : Option zV → zMem → Prop} (h : zBg d 112 0 [zR 55, none, none, none, none, none, none, none] [] M Q) : zCt d 112 [.inr (.inr 55)] M Q := zCt_of (I := zm112) rfl rfl h
/-! CommaCopiesModel.lays()V , as 113 -/
set_option maxRecDepth 20000 in
theorem zv113_0 {d : Nat} {M : zMem} {Q : Option zV → zMem → Prop} (h :
  zBg d 113 15 [zR 55, zI 0, none] [] (zup (zup M 55 2 (M 55 1)) 55 4 0) Q) : zBg d 113 0 [zR 55, none, none] [] M Q :=
  zvc_ok (I := zm113) (cuts := [(15, [true, true, false])]) (n := 122) rfl h
set_option maxRecDepth 20000 in
theorem zv113_15 {d : Nat} {M : zMem} {Q : Option zV → zMem → Prop} (x1 : Int) (h :
  ((x1 : Int) ≥ (M 55 1) →
    Q none M) ∧
  (¬ (x1 : Int) ≥ (M 55 1) →
    (0 : Int) ≤ x1 ∧ (x1 : Int) < 120 ∧ (0 : Int) ≤ x1 ∧ (x1 : Int) < 120 ∧ (0 : Int) ≤ x1 ∧ (x1 : Int) < 120 ∧ ((M 56 x1.toNat : Int) ≠ 91 →
      (0 : Int) ≤ x1 ∧ (x1 : Int) < 120 ∧ ((M 56 x1.toNat : Int) = 47 →
        zR32 (4 * (M 55 4)) ∧ (0 : Int) ≤ (M 55 4) ∧ (M 55 4 : Int) < 6 ∧ zR32 ((4 * (M 55 4)) + (M 60 ((M 55 4).toNat))) ∧ zR32 (((4 * (M 55 4)) + (M 60 ((M 55 4).toNat))) - 1) ∧ (0 : Int) ≤ (((4 * (M 55 4)) + (M 60 ((M 55 4).toNat))) - 1) ∧ (((4 * (M 55 4)) + (M 60 ((M 55 4).toNat))) - 1 : Int) < 24 ∧ (0 : Int) ≤ x1 ∧ (x1 : Int) < 120 ∧ ((M 56 x1.toNat : Int) ≠ 47 →
          (0 : Int) ≤ (M 55 4) ∧ (M 55 4 : Int) < 6 ∧ zR32 ((M 55 4) + 1) ∧ zR32 (x1 + 1) ∧ zBg d 113 15 [zR 55, zI (x1 + 1), none] [] (zup (zup (zup (zup M 57 x1.toNat (M 56 x1.toNat)) 62 ((((4 * (M 55 4)) + (M 60 ((M 55 4).toNat))) - 1).toNat) x1) 59 ((M 55 4).toNat) x1) 55 4 ((M 55 4) + 1)) Q) ∧
        (¬ (M 56 x1.toNat : Int) ≠ 47 →
          zR32 (x1 + 1) ∧ (0 : Int) ≤ ((4 * (M 55 4)) + (M 60 ((M 55 4).toNat))) ∧ ((4 * (M 55 4)) + (M 60 ((M 55 4).toNat)) : Int) < 24 ∧ (0 : Int) ≤ (M 55 4) ∧ (M 55 4 : Int) < 6 ∧ zR32 ((M 60 ((M 55 4).toNat)) + 1) ∧ (0 : Int) ≤ (M 55 4) ∧ (M 55 4 : Int) < 6 ∧ zR32 (x1 + 1) ∧ zBg d 113 15 [zR 55, zI (x1 + 1), none] [] (zup (zup (zup (zup M 57 x1.toNat (M 56 x1.toNat)) 62 ((((4 * (M 55 4)) + (M 60 ((M 55 4).toNat))) - 1).toNat) x1) 61 (((4 * (M 55 4)) + (M 60 ((M 55 4).toNat))).toNat) (x1 + 1)) 60 ((M 55 4).toNat) ((M 60 ((M 55 4).toNat)) + 1)) Q)) ∧
      (¬ (M 56 x1.toNat : Int) = 47 →
        (0 : Int) ≤ x1 ∧ (x1 : Int) < 120 ∧ ((M 56 x1.toNat : Int) ≠ 93 →
          zR32 (x1 + 1) ∧ zBg d 113 15 [zR 55, zI (x1 + 1), none] [] (zup M 57 x1.toNat (M 56 x1.toNat)) Q) ∧
        (¬ (M 56 x1.toNat : Int) ≠ 93 →
          zR32 (4 * (M 55 4)) ∧ (0 : Int) ≤ (M 55 4) ∧ (M 55 4 : Int) < 6 ∧ zR32 ((4 * (M 55 4)) + (M 60 ((M 55 4).toNat))) ∧ zR32 (((4 * (M 55 4)) + (M 60 ((M 55 4).toNat))) - 1) ∧ (0 : Int) ≤ (((4 * (M 55 4)) + (M 60 ((M 55 4).toNat))) - 1) ∧ (((4 * (M 55 4)) + (M 60 ((M 55 4).toNat))) - 1 : Int) < 24 ∧ (0 : Int) ≤ x1 ∧ (x1 : Int) < 120 ∧ ((M 56 x1.toNat : Int) ≠ 47 →
            (0 : Int) ≤ (M 55 4) ∧ (M 55 4 : Int) < 6 ∧ zR32 ((M 55 4) + 1) ∧ zR32 (x1 + 1) ∧ zBg d 113 15 [zR 55, zI (x1 + 1), none] [] (zup (zup (zup (zup M 57 x1.toNat (M 56 x1.toNat)) 62 ((((4 * (M 55 4)) + (M 60 ((M 55 4).toNat))) - 1).toNat) x1) 59 ((M 55 4).toNat) x1) 55 4 ((M 55 4) + 1)) Q) ∧
          (¬ (M 56 x1.toNat : Int) ≠ 47 →
            zR32 (x1 + 1) ∧ (0 : Int) ≤ ((4 * (M 55 4)) + (M 60 ((M 55 4).toNat))) ∧ ((4 * (M 55 4)) + (M 60 ((M 55 4).toNat)) : Int) < 24 ∧ (0 : Int) ≤ (M 55 4) ∧ (M 55 4 : Int) < 6 ∧ zR32 ((M 60 ((M 55 4).toNat)) + 1) ∧ (0 : Int) ≤ (M 55 4) ∧ (M 55 4 : Int) < 6 ∧ zR32 (x1 + 1) ∧ zBg d 113 15 [zR 55, zI (x1 + 1), none] [] (zup (zup (zup (zup M 57 x1.toNat (M 56 x1.toNat)) 62 ((((4 * (M 55 4)) + (M 60 ((M 55 4).toNat))) - 1).toNat) x1) 61 (((4 * (M 55 4)) + (M 60 ((M 55 4).toNat))).toNat) (x1 + 1)) 60 ((M 55 4).toNat) ((M 60 ((M 55 4).toNat)) + 1)) Q)))) ∧
    (¬ (M 56 x1.toNat : Int) ≠ 91 →
      (0 : Int) ≤ (M 55 4) ∧ (M 55 4 : Int) < 6 ∧ (0 : Int) ≤ (M 55 4) ∧ (M 55 4 : Int) < 6 ∧ zR32 (4 * (M 55 4)) ∧ zR32 (x1 + 1) ∧ (0 : Int) ≤ (4 * (M 55 4)) ∧ (4 * (M 55 4) : Int) < 24 ∧ (0 : Int) ≤ x1 ∧ (x1 : Int) < 120 ∧ ((M 56 x1.toNat : Int) = 47 →
        zR32 (4 * (M 55 4)) ∧ (0 : Int) ≤ (M 55 4) ∧ (M 55 4 : Int) < 6 ∧ zR32 ((4 * (M 55 4)) + ((zup (zup (zup M 57 x1.toNat (M 56 x1.toNat)) 58 ((M 55 4).toNat) x1) 60 ((M 55 4).toNat) 1) 60 ((M 55 4).toNat))) ∧ zR32 (((4 * (M 55 4)) + ((zup (zup (zup M 57 x1.toNat (M 56 x1.toNat)) 58 ((M 55 4).toNat) x1) 60 ((M 55 4).toNat) 1) 60 ((M 55 4).toNat))) - 1) ∧ (0 : Int) ≤ (((4 * (M 55 4)) + ((zup (zup (zup M 57 x1.toNat (M 56 x1.toNat)) 58 ((M 55 4).toNat) x1) 60 ((M 55 4).toNat) 1) 60 ((M 55 4).toNat))) - 1) ∧ (((4 * (M 55 4)) + ((zup (zup (zup M 57 x1.toNat (M 56 x1.toNat)) 58 ((M 55 4).toNat) x1) 60 ((M 55 4).toNat) 1) 60 ((M 55 4).toNat))) - 1 : Int) < 24 ∧ (0 : Int) ≤ x1 ∧ (x1 : Int) < 120 ∧ ((M 56 x1.toNat : Int) ≠ 47 →
          (0 : Int) ≤ (M 55 4) ∧ (M 55 4 : Int) < 6 ∧ zR32 ((M 55 4) + 1) ∧ zR32 (x1 + 1) ∧ zBg d 113 15 [zR 55, zI (x1 + 1), none] [] (zup (zup (zup (zup (zup (zup (zup M 57 x1.toNat (M 56 x1.toNat)) 58 ((M 55 4).toNat) x1) 60 ((M 55 4).toNat) 1) 61 ((4 * (M 55 4)).toNat) (x1 + 1)) 62 ((((4 * (M 55 4)) + ((zup (zup (zup M 57 x1.toNat (M 56 x1.toNat)) 58 ((M 55 4).toNat) x1) 60 ((M 55 4).toNat) 1) 60 ((M 55 4).toNat))) - 1).toNat) x1) 59 ((M 55 4).toNat) x1) 55 4 ((M 55 4) + 1)) Q) ∧
        (¬ (M 56 x1.toNat : Int) ≠ 47 →
          zR32 (x1 + 1) ∧ (0 : Int) ≤ ((4 * (M 55 4)) + ((zup (zup (zup M 57 x1.toNat (M 56 x1.toNat)) 58 ((M 55 4).toNat) x1) 60 ((M 55 4).toNat) 1) 60 ((M 55 4).toNat))) ∧ ((4 * (M 55 4)) + ((zup (zup (zup M 57 x1.toNat (M 56 x1.toNat)) 58 ((M 55 4).toNat) x1) 60 ((M 55 4).toNat) 1) 60 ((M 55 4).toNat)) : Int) < 24 ∧ (0 : Int) ≤ (M 55 4) ∧ (M 55 4 : Int) < 6 ∧ zR32 (((zup (zup (zup M 57 x1.toNat (M 56 x1.toNat)) 58 ((M 55 4).toNat) x1) 60 ((M 55 4).toNat) 1) 60 ((M 55 4).toNat)) + 1) ∧ (0 : Int) ≤ (M 55 4) ∧ (M 55 4 : Int) < 6 ∧ zR32 (x1 + 1) ∧ zBg d 113 15 [zR 55, zI (x1 + 1), none] [] (zup (zup (zup (zup (zup (zup (zup M 57 x1.toNat (M 56 x1.toNat)) 58 ((M 55 4).toNat) x1) 60 ((M 55 4).toNat) 1) 61 ((4 * (M 55 4)).toNat) (x1 + 1)) 62 ((((4 * (M 55 4)) + ((zup (zup (zup M 57 x1.toNat (M 56 x1.toNat)) 58 ((M 55 4).toNat) x1) 60 ((M 55 4).toNat) 1) 60 ((M 55 4).toNat))) - 1).toNat) x1) 61 (((4 * (M 55 4)) + ((zup (zup (zup M 57 x1.toNat (M 56 x1.toNat)) 58 ((M 55 4).toNat) x1) 60 ((M 55 4).toNat) 1) 60 ((M 55 4).toNat))).toNat) (x1 + 1)) 60 ((M 55 4).toNat) (((zup (zup (zup M 57 x1.toNat (M 56 x1.toNat)) 58 ((M 55 4).toNat) x1) 60 ((M 55 4).toNat) 1) 60 ((M 55 4).toNat)) + 1)) Q)) ∧
      (¬ (M 56 x1.toNat : Int) = 47 →
        (0 : Int) ≤ x1 ∧ (x1 : Int) < 120 ∧ ((M 56 x1.toNat : Int) ≠ 93 →
          zR32 (x1 + 1) ∧ zBg d 113 15 [zR 55, zI (x1 + 1), none] [] (zup (zup (zup (zup M 57 x1.toNat (M 56 x1.toNat)) 58 ((M 55 4).toNat) x1) 60 ((M 55 4).toNat) 1) 61 ((4 * (M 55 4)).toNat) (x1 + 1)) Q) ∧
        (¬ (M 56 x1.toNat : Int) ≠ 93 →
          zR32 (4 * (M 55 4)) ∧ (0 : Int) ≤ (M 55 4) ∧ (M 55 4 : Int) < 6 ∧ zR32 ((4 * (M 55 4)) + ((zup (zup (zup M 57 x1.toNat (M 56 x1.toNat)) 58 ((M 55 4).toNat) x1) 60 ((M 55 4).toNat) 1) 60 ((M 55 4).toNat))) ∧ zR32 (((4 * (M 55 4)) + ((zup (zup (zup M 57 x1.toNat (M 56 x1.toNat)) 58 ((M 55 4).toNat) x1) 60 ((M 55 4).toNat) 1) 60 ((M 55 4).toNat))) - 1) ∧ (0 : Int) ≤ (((4 * (M 55 4)) + ((zup (zup (zup M 57 x1.toNat (M 56 x1.toNat)) 58 ((M 55 4).toNat) x1) 60 ((M 55 4).toNat) 1) 60 ((M 55 4).toNat))) - 1) ∧ (((4 * (M 55 4)) + ((zup (zup (zup M 57 x1.toNat (M 56 x1.toNat)) 58 ((M 55 4).toNat) x1) 60 ((M 55 4).toNat) 1) 60 ((M 55 4).toNat))) - 1 : Int) < 24 ∧ (0 : Int) ≤ x1 ∧ (x1 : Int) < 120 ∧ ((M 56 x1.toNat : Int) ≠ 47 →
            (0 : Int) ≤ (M 55 4) ∧ (M 55 4 : Int) < 6 ∧ zR32 ((M 55 4) + 1) ∧ zR32 (x1 + 1) ∧ zBg d 113 15 [zR 55, zI (x1 + 1), none] [] (zup (zup (zup (zup (zup (zup (zup M 57 x1.toNat (M 56 x1.toNat)) 58 ((M 55 4).toNat) x1) 60 ((M 55 4).toNat) 1) 61 ((4 * (M 55 4)).toNat) (x1 + 1)) 62 ((((4 * (M 55 4)) + ((zup (zup (zup M 57 x1.toNat (M 56 x1.toNat)) 58 ((M 55 4).toNat) x1) 60 ((M 55 4).toNat) 1) 60 ((M 55 4).toNat))) - 1).toNat) x1) 59 ((M 55 4).toNat) x1) 55 4 ((M 55 4) + 1)) Q) ∧
          (¬ (M 56 x1.toNat : Int) ≠ 47 →
            zR32 (x1 + 1) ∧ (0 : Int) ≤ ((4 * (M 55 4)) + ((zup (zup (zup M 57 x1.toNat (M 56 x1.toNat)) 58 ((M 55 4).toNat) x1) 60 ((M 55 4).toNat) 1) 60 ((M 55 4).toNat))) ∧ ((4 * (M 55 4)) + ((zup (zup (zup M 57 x1.toNat (M 56 x1.toNat)) 58 ((M 55 4).toNat) x1) 60 ((M 55 4).toNat) 1) 60 ((M 55 4).toNat)) : Int) < 24 ∧ (0 : Int) ≤ (M 55 4) ∧ (M 55 4 : Int) < 6 ∧ zR32 (((zup (zup (zup M 57 x1.toNat (M 56 x1.toNat)) 58 ((M 55 4).toNat) x1) 60 ((M 55 4).toNat) 1) 60 ((M 55 4).toNat)) + 1) ∧ (0 : Int) ≤ (M 55 4) ∧ (M 55 4 : Int) < 6 ∧ zR32 (x1 + 1) ∧ zBg d 113 15 [zR 55, zI (x1 + 1), none] [] (zup (zup (zup (zup (zup (zup (zup M 57 x1.toNat (M 56 x1.toNat)) 58 ((M 55 4).toNat) x1) 60 ((M 55 4).toNat) 1) 61 ((4 * (M 55 4)).toNat) (x1 + 1)) 62 ((((4 * (M 55 4)) + ((zup (zup (zup M 57 x1.toNat (M 56 x1.toNat)) 58 ((M 55 4).toNat) x1) 60 ((M 55 4).toNat) 1) 60 ((M 55 4).toNat))) - 1).toNat) x1) 61 (((4 * (M 55 4)) + ((zup (zup (zup M 57 x1.toNat (M 56 x1.toNat)) 58 ((M 55 4).toNat) x1) 60 ((M 55 4).toNat) 1) 60 ((M 55 4).toNat))).toNat) (x1 + 1)) 60 ((M 55 4).toNat) (((zup (zup (zup M 57 x1.toNat (M 56 x1.toNat)) 58 ((M 55 4).toNat) x1) 60 ((M 55 4).toNat) 1) 60 ((M 55 4).toNat)) + 1)) Q)))))) : zBg d 113 15 [zR 55, zI x1, none] [] M Q :=
  zvc_ok (I := zm113) (cuts := [(15, [true, true, false])]) (n := 122) rfl h
theorem zk113 {d : Nat} {M : zMem} {Q : Option zV → zMem → Prop} (h : zBg d 113 0 [zR 55, none, none] [] M Q) : zCt d 113 [.inr (.inr 55)] M Q := zCt_of (I := zm113) rfl rfl h
/-! CommaCopiesModel.letter()I , as 114 -/
set_option maxRecDepth 20000 in
theorem zv114_0 {d : Nat} {M : zMem} {Q : Option zV → zMem → Prop} (h :
  ∃ Q1, zCi d 112 [.inr (.inr 55)] M Q1 ∧ ∀ v1 M1, Q1 v1 M1 →
  ((v1 : Int) < 0 →
    ∃ Q2, zCv d 113 [.inr (.inr 55)] M1 Q2 ∧ ∀ M2, Q2 M2 →
    zBg (d + 1) 114 30 [zR 55, none, zI 0] [] (zup M2 55 1 0) Q) ∧
  (¬ (v1 : Int) < 0 →
    zR32 ((-20) - v1) ∧ Q (zI ((-20) - v1)) (zup M1 55 1 0))) : zBg (d + 1) 114 0 [zR 55, none, none] [] M Q :=
  zvc_ok (I := zm114) (cuts := [(30, [true, false, true]), (51, [true, false, true])]) (n := 60) rfl h
set_option maxRecDepth 20000 in
theorem zv114_30 {d : Nat} {M : zMem} {Q : Option zV → zMem → Prop} (x2 : Int) (h :
  ((x2 : Int) ≥ 24 →
    zBg d 114 51 [zR 55, none, zI 0] [] M Q) ∧
  (¬ (x2 : Int) ≥ 24 →
    (0 : Int) ≤ x2 ∧ (x2 : Int) < 24 ∧ zR32 (x2 + 1) ∧ zBg d 114 30 [zR 55, none, zI (x2 + 1)] [] (zup M 63 x2.toNat 0) Q)) : zBg d 114 30 [zR 55, none, zI x2] [] M Q :=
  zvc_ok (I := zm114) (cuts := [(30, [true, false, true]), (51, [true, false, true])]) (n := 60) rfl h
set_option maxRecDepth 20000 in
theorem zv114_51 {d : Nat} {M : zMem} {Q : Option zV → zMem → Prop} (x2 : Int) (h :
  ((x2 : Int) ≥ 6 →
    Q (zI (M 55 4)) (zup (zup M 55 12 0) 55 17 0)) ∧
  (¬ (x2 : Int) ≥ 6 →
    (0 : Int) ≤ x2 ∧ (x2 : Int) < 6 ∧ (0 : Int) ≤ x2 ∧ (x2 : Int) < 6 ∧ zR32 (x2 + 1) ∧ zBg d 114 51 [zR 55, none, zI (x2 + 1)] [] (zup (zup M 66 x2.toNat 5) 64 x2.toNat (-1)) Q)) : zBg d 114 51 [zR 55, none, zI x2] [] M Q :=
  zvc_ok (I := zm114) (cuts := [(30, [true, false, true]), (51, [true, false, true])]) (n := 60) rfl h
theorem zk114 {d : Nat} {M : zMem} {Q : Option zV → zMem → Prop} (h : zBg d 114 0 [zR 55, none, none] [] M Q) : zCt d 114 [.inr (.inr 55)] M Q := zCt_of (I := zm114) rfl rfl h
/-! CommaCopiesModel.isPlace(I)Z , as 115 -/
set_option maxRecDepth 20000 in
theorem zv115_0 {d : Nat} {M : zMem} {Q : Option zV → zMem → Prop} (x1 : Int) (h :
  zR32 ((M 55 4) - 1) ∧ ∃ Q1, zCi d 110 [.inr (.inl x1), .inr (.inl 0), .inr (.inl ((M 55 4) - 1))] M Q1 ∧ ∀ v1 M1, Q1 v1 M1 →
  ((v1 : Int) = 0 ∨ (v1 : Int) = 1) ∧ Q (zI v1) M1) : zBg (d + 1) 115 0 [zR 55, zI x1] [] M Q :=
  zvc_ok (I := zm115) (cuts := []) (n := 15) rfl h
theorem zk115 {d : Nat} {M : zMem} {Q : Option zV → zMem → Prop} {x1 : Int} (h : zBg d 115 0 [zR 55, zI x1] [] M Q) : zCt d 115 [.inr (.inr 55), .inl x1] M Q := zCt_of (I := zm115) rfl rfl h
/-! CommaCopiesModel.isChoice(II)Z , as 116 -/
set_option maxRecDepth 20000 in
theorem zv116_0 {d : Nat} {M : zMem} {Q : Option zV → zMem → Prop} (x1 : Int) (x2 : Int) (h :
  ∃ Q1, zCi d 115 [.inr (.inr 55), .inl x1] M Q1 ∧ ∀ v1 M1, Q1 v1 M1 →
  ((v1 : Int) = 0 →
    ((0 : Int) = 0 ∨ (0 : Int) = 1) ∧ Q (zI 0) M1) ∧
  (¬ (v1 : Int) = 0 →
    (0 : Int) ≤ x1 ∧ (x1 : Int) < 6 ∧ zR32 ((M1 60 x1.toNat) - 1) ∧ ∃ Q2, zCi d 110 [.inr (.inl x2), .inr (.inl 0), .inr (.inl ((M1 60 x1.toNat) - 1))] M1 Q2 ∧ ∀ v2 M2, Q2 v2 M2 →
    ((v2 : Int) = 0 →
      ((0 : Int) = 0 ∨ (0 : Int) = 1) ∧ Q (zI 0) M2) ∧
    (¬ (v2 : Int) = 0 →
      ((1 : Int) = 0 ∨ (1 : Int) = 1) ∧ Q (zI 1) M2))) : zBg (d + 1) 116 0 [zR 55, zI x1, zI x2] [] M Q :=
  zvc_ok (I := zm116) (cuts := []) (n := 25) rfl h
theorem zk116 {d : Nat} {M : zMem} {Q : Option zV → zMem → Prop} {x1 : Int} {x2 : Int} (h : zBg d 116 0 [zR 55, zI x1, zI x2] [] M Q) : zCt d 116 [.inr (.inr 55), .inl x1, .inl x2] M Q := zCt_of (I := zm116) rfl rfl h
/-! CommaCopiesModel.choices(I)I , as 117 -/
set_option maxRecDepth 20000 in
theorem zv117_0 {d : Nat} {M : zMem} {Q : Option zV → zMem → Prop} (x1 : Int) (h :
  ∃ Q1, zCi d 115 [.inr (.inr 55), .inl x1] M Q1 ∧ ∀ v1 M1, Q1 v1 M1 →
  ((v1 : Int) = 0 →
    Q (zI (-1)) M1) ∧
  (¬ (v1 : Int) = 0 →
    (0 : Int) ≤ x1 ∧ (x1 : Int) < 6 ∧ Q (zI (M1 60 x1.toNat)) M1)) : zBg (d + 1) 117 0 [zR 55, zI x1] [] M Q :=
  zvc_ok (I := zm117) (cuts := []) (n := 16) rfl h
theorem zk117 {d : Nat} {M : zMem} {Q : Option zV → zMem → Prop} {x1 : Int} (h : zBg d 117 0 [zR 55, zI x1] [] M Q) : zCt d 117 [.inr (.inr 55), .inl x1] M Q := zCt_of (I := zm117) rfl rfl h
/-! CommaCopiesModel.cost(III)I , as 118 -/
set_option maxRecDepth 20000 in
theorem zv118_0 {d : Nat} {M : zMem} {Q : Option zV → zMem → Prop} (x1 : Int) (x2 : Int) (x3 : Int) (h :
  ∃ Q1, zCi d 116 [.inr (.inr 55), .inl x1, .inl x2] M Q1 ∧ ∀ v1 M1, Q1 v1 M1 →
  ((v1 : Int) = 0 →
    Q (zI (-1)) M1) ∧
  (¬ (v1 : Int) = 0 →
    ∃ Q2, zCi d 110 [.inr (.inl x3), .inr (.inl 0), .inr (.inl 9)] M1 Q2 ∧ ∀ v2 M2, Q2 v2 M2 →
    ((v2 : Int) ≠ 0 →
      zR32 (4 * x1) ∧ zR32 ((4 * x1) + x2) ∧ (0 : Int) ≤ ((4 * x1) + x2) ∧ ((4 * x1) + x2 : Int) < 24 ∧ zR32 (4 * x1) ∧ zR32 ((4 * x1) + x2) ∧ (0 : Int) ≤ ((4 * x1) + x2) ∧ ((4 * x1) + x2 : Int) < 24 ∧ Q (zI (M2 63 (((4 * x1) + x2).toNat))) (zup M2 63 (((4 * x1) + x2).toNat) x3)) ∧
    (¬ (v2 : Int) ≠ 0 →
      Q (zI (-1)) M2))) : zBg (d + 1) 118 0 [zR 55, zI x1, zI x2, zI x3, none] [] M Q :=
  zvc_ok (I := zm118) (cuts := []) (n := 38) rfl h
theorem zk118 {d : Nat} {M : zMem} {Q : Option zV → zMem → Prop} {x1 : Int} {x2 : Int} {x3 : Int} (h : zBg d 118 0 [zR 55, zI x1, zI x2, zI x3, none] [] M Q) : zCt d 118 [.inr (.inr 55), .inl x1, .inl x2, .inl x3] M Q := zCt_of (I := zm118) rfl rfl h
/-! CommaCopiesModel.mended(II)I , as 119 -/
set_option maxRecDepth 20000 in
theorem zv119_0 {d : Nat} {M : zMem} {Q : Option zV → zMem → Prop} (x1 : Int) (x2 : Int) (h :
  ∃ Q1, zCi d 115 [.inr (.inr 55), .inl x1] M Q1 ∧ ∀ v1 M1, Q1 v1 M1 →
  ((v1 : Int) = 0 →
    Q (zI (-101)) M1) ∧
  (¬ (v1 : Int) = 0 →
    ((x2 : Int) = (-1) →
      (0 : Int) ≤ x1 ∧ (x1 : Int) < 6 ∧ (0 : Int) ≤ x1 ∧ (x1 : Int) < 6 ∧ Q (zI (M1 64 x1.toNat)) (zup M1 64 x1.toNat x2)) ∧
    (¬ (x2 : Int) = (-1) →
      ∃ Q2, zCi d 116 [.inr (.inr 55), .inl x1, .inl x2] M1 Q2 ∧ ∀ v2 M2, Q2 v2 M2 →
      ((v2 : Int) ≠ 0 →
        (0 : Int) ≤ x1 ∧ (x1 : Int) < 6 ∧ (0 : Int) ≤ x1 ∧ (x1 : Int) < 6 ∧ Q (zI (M2 64 x1.toNat)) (zup M2 64 x1.toNat x2)) ∧
      (¬ (v2 : Int) ≠ 0 →
        Q (zI (-101)) M2)))) : zBg (d + 1) 119 0 [zR 55, zI x1, zI x2, none] [] M Q :=
  zvc_ok (I := zm119) (cuts := []) (n := 31) rfl h
theorem zk119 {d : Nat} {M : zMem} {Q : Option zV → zMem → Prop} {x1 : Int} {x2 : Int} (h : zBg d 119 0 [zR 55, zI x1, zI x2, none] [] M Q) : zCt d 119 [.inr (.inr 55), .inl x1, .inl x2] M Q := zCt_of (I := zm119) rfl rfl h
/-! CommaCopiesModel.copyOf(III)I , as 120 -/
set_option maxRecDepth 20000 in
theorem zv120_0 {d : Nat} {M : zMem} {Q : Option zV → zMem → Prop} (x1 : Int) (x2 : Int) (x3 : Int) (h :
  ∃ Q1, zCi d 172 [.inl x1] M Q1 ∧ ∀ v1 M1, Q1 v1 M1 →
  ((v1 : Int) = 0 →
    Q (zI (-1)) M1) ∧
  (¬ (v1 : Int) = 0 →
    ∃ Q2, zCi d 173 [.inl x2] M1 Q2 ∧ ∀ v2 M2, Q2 v2 M2 →
    ((v2 : Int) ≠ 0 →
      ∃ Q3, zCi d 174 [.inr (.inr 55), .inl x1, .inl x2, .inl x3, .inl (M2 55 4)] M2 Q3 ∧ ∀ v3 M3, Q3 v3 M3 →
      ((v3 : Int) ≥ 0 →
        ((M3 55 2 : Int) ≤ 0 →
          zBg (d + 1) 120 54 [zR 55, zI x1, none, zI x3, none, zI 0, zI 0] [] M3 Q) ∧
        (¬ (M3 55 2 : Int) ≤ 0 →
          zBg (d + 1) 120 54 [zR 55, zI x1, none, zI x3, none, zI 1, zI 0] [] M3 Q)) ∧
      (¬ (v3 : Int) ≥ 0 →
        Q (zI v3) M3)) ∧
    (¬ (v2 : Int) ≠ 0 →
      Q (zI (-1)) M2))) : zBg (d + 1) 120 0 [zR 55, zI x1, zI x2, zI x3, none, none, none] [] M Q :=
  zvc_ok (I := zm120) (cuts := [(54, [true, true, false, true, false, true, true]), (127, [true, true, false, true, false, false, true])]) (n := 108) rfl h
set_option maxRecDepth 20000 in
theorem zv120_54 {d : Nat} {M : zMem} {Q : Option zV → zMem → Prop} (x1 : Int) (x3 : Int) (x5 : Int) (x6 : Int) (h :
  ((x6 : Int) ≥ (M 55 4) →
    ((x5 : Int) ≠ 0 →
      ((M 55 12 : Int) ≠ 8 →
        zBg (d + 1) 120 127 [zR 55, zI x1, none, zI x3, none, none, zI 0] [] M Q) ∧
      (¬ (M 55 12 : Int) ≠ 8 →
        Q (zI (-3)) M)) ∧
    (¬ (x5 : Int) ≠ 0 →
      Q (zI (-2)) M)) ∧
  (¬ (x6 : Int) ≥ (M 55 4) →
    ((x5 : Int) = 0 →
      zR32 (x6 + 1) ∧ zBg (d + 1) 120 54 [zR 55, zI x1, none, zI x3, none, zI 0, zI (x6 + 1)] [] M Q) ∧
    (¬ (x5 : Int) = 0 →
      zR32 (12 * x1) ∧ zR32 ((12 * x1) + x3) ∧ zR32 (((12 * x1) + x3) + x6) ∧ (0 : Int) ≤ (((12 * x1) + x3) + x6) ∧ (((12 * x1) + x3) + x6 : Int) < 48 ∧ ∃ Q1, zCi d 116 [.inr (.inr 55), .inl x6, .inl (M 78 ((((12 * x1) + x3) + x6).toNat))] M Q1 ∧ ∀ v1 M1, Q1 v1 M1 →
      ((v1 : Int) = 0 →
        zR32 (x6 + 1) ∧ zBg (d + 1) 120 54 [zR 55, zI x1, none, zI x3, none, zI 0, zI (x6 + 1)] [] M1 Q) ∧
      (¬ (v1 : Int) = 0 →
        zR32 (x6 + 1) ∧ zBg (d + 1) 120 54 [zR 55, zI x1, none, zI x3, none, zI 1, zI (x6 + 1)] [] M1 Q)))) : zBg (d + 1) 120 54 [zR 55, zI x1, none, zI x3, none, zI x5, zI x6] [] M Q :=
  zvc_ok (I := zm120) (cuts := [(54, [true, true, false, true, false, true, true]), (127, [true, true, false, true, false, false, true])]) (n := 108) rfl h
set_option maxRecDepth 20000 in
theorem zv120_127 {d : Nat} {M : zMem} {Q : Option zV → zMem → Prop} (x1 : Int) (x3 : Int) (x6 : Int) (h :
  ((x6 : Int) ≥ (M 55 4) →
    zR32 ((M 55 12) + 1) ∧ zR32 (((M 55 12) + 1) - 1) ∧ Q (zI (((M 55 12) + 1) - 1)) (zup M 55 12 ((M 55 12) + 1))) ∧
  (¬ (x6 : Int) ≥ (M 55 4) →
    zR32 (6 * (M 55 12)) ∧ zR32 ((6 * (M 55 12)) + x6) ∧ zR32 (12 * x1) ∧ zR32 ((12 * x1) + x3) ∧ zR32 (((12 * x1) + x3) + x6) ∧ (0 : Int) ≤ (((12 * x1) + x3) + x6) ∧ (((12 * x1) + x3) + x6 : Int) < 48 ∧ (0 : Int) ≤ ((6 * (M 55 12)) + x6) ∧ ((6 * (M 55 12)) + x6 : Int) < 48 ∧ zR32 (x6 + 1) ∧ zBg d 120 127 [zR 55, zI x1, none, zI x3, none, none, zI (x6 + 1)] [] (zup M 65 (((6 * (M 55 12)) + x6).toNat) (M 78 ((((12 * x1) + x3) + x6).toNat))) Q)) : zBg d 120 127 [zR 55, zI x1, none, zI x3, none, none, zI x6] [] M Q :=
  zvc_ok (I := zm120) (cuts := [(54, [true, true, false, true, false, true, true]), (127, [true, true, false, true, false, false, true])]) (n := 108) rfl h
theorem zk120 {d : Nat} {M : zMem} {Q : Option zV → zMem → Prop} {x1 : Int} {x2 : Int} {x3 : Int} (h : zBg d 120 0 [zR 55, zI x1, zI x2, zI x3, none, none, none] [] M Q) : zCt d 120 [.inr (.inr 55), .inl x1, .inl x2, .inl x3] M Q := zCt_of (I := zm120) rfl rfl h
/-! CommaCopiesModel.isCopy(I)Z , as 121 -/
set_option maxRecDepth 20000 in
theorem zv121_0 {d : Nat} {M : zMem} {Q : Option zV → zMem → Prop} (x1 : Int) (h :
  zR32 ((M 55 12) - 1) ∧ ∃ Q1, zCi d 110 [.inr (.inl x1), .inr (.inl 0), .inr (.inl ((M 55 12) - 1))] M Q1 ∧ ∀ v1 M1, Q1 v1 M1 →
  ((v1 : Int) = 0 ∨ (v1 : Int) = 1) ∧ Q (zI v1) M1) : zBg (d + 1) 121 0 [zR 55, zI x1] [] M Q :=
  zvc_ok (I := zm121) (cuts := []) (n := 15) rfl h
theorem zk121 {d : Nat} {M : zMem} {Q : Option zV → zMem → Prop} {x1 : Int} (h : zBg d 121 0 [zR 55, zI x1] [] M Q) : zCt d 121 [.inr (.inr 55), .inl x1] M Q := zCt_of (I := zm121) rfl rfl h
/-! CommaCopiesModel.choice(II)I , as 122 -/
set_option maxRecDepth 20000 in
theorem zv122_0 {d : Nat} {M : zMem} {Q : Option zV → zMem → Prop} (x1 : Int) (x2 : Int) (h :
  ∃ Q1, zCi d 121 [.inr (.inr 55), .inl x1] M Q1 ∧ ∀ v1 M1, Q1 v1 M1 →
  ((v1 : Int) = 0 →
    Q (zI (-1)) M1) ∧
  (¬ (v1 : Int) = 0 →
    ∃ Q2, zCi d 115 [.inr (.inr 55), .inl x2] M1 Q2 ∧ ∀ v2 M2, Q2 v2 M2 →
    ((v2 : Int) = 0 →
      Q (zI (-1)) M2) ∧
    (¬ (v2 : Int) = 0 →
      zR32 (6 * x1) ∧ zR32 ((6 * x1) + x2) ∧ (0 : Int) ≤ ((6 * x1) + x2) ∧ ((6 * x1) + x2 : Int) < 48 ∧ Q (zI (M2 65 (((6 * x1) + x2).toNat))) M2))) : zBg (d + 1) 122 0 [zR 55, zI x1, zI x2] [] M Q :=
  zvc_ok (I := zm122) (cuts := []) (n := 24) rfl h
theorem zk122 {d : Nat} {M : zMem} {Q : Option zV → zMem → Prop} {x1 : Int} {x2 : Int} (h : zBg d 122 0 [zR 55, zI x1, zI x2] [] M Q) : zCt d 122 [.inr (.inr 55), .inl x1, .inl x2] M Q := zCt_of (I := zm122) rfl rfl h
/-! CommaCopiesModel.burn(I)I , as 123 -/
set_option maxRecDepth 20000 in
theorem zv123_0 {d : Nat} {M : zMem} {Q : Option zV → zMem → Prop} (x1 : Int) (h :
  ∃ Q1, zCi d 121 [.inr (.inr 55), .inl x1] M Q1 ∧ ∀ v1 M1, Q1 v1 M1 →
  ((v1 : Int) ≠ 0 →
    zR32 ((M1 55 12) - 1) ∧ zR32 (6 * x1) ∧ zBg (d + 1) 123 25 [zR 55, none, zI (6 * x1)] [] (zup M1 55 12 ((M1 55 12) - 1)) Q) ∧
  (¬ (v1 : Int) ≠ 0 →
    Q (zI (-1)) M1)) : zBg (d + 1) 123 0 [zR 55, zI x1, none] [] M Q :=
  zvc_ok (I := zm123) (cuts := [(25, [true, false, true])]) (n := 42) rfl h
set_option maxRecDepth 20000 in
theorem zv123_25 {d : Nat} {M : zMem} {Q : Option zV → zMem → Prop} (x2 : Int) (h :
  zR32 (6 * (M 55 12)) ∧ ((x2 : Int) ≥ (6 * (M 55 12)) →
    Q (zI (M 55 12)) M) ∧
  (¬ (x2 : Int) ≥ (6 * (M 55 12)) →
    zR32 (x2 + 6) ∧ (0 : Int) ≤ (x2 + 6) ∧ (x2 + 6 : Int) < 48 ∧ (0 : Int) ≤ x2 ∧ (x2 : Int) < 48 ∧ zR32 (x2 + 1) ∧ zBg d 123 25 [zR 55, none, zI (x2 + 1)] [] (zup M 65 x2.toNat (M 65 ((x2 + 6).toNat))) Q)) : zBg d 123 25 [zR 55, none, zI x2] [] M Q :=
  zvc_ok (I := zm123) (cuts := [(25, [true, false, true])]) (n := 42) rfl h
theorem zk123 {d : Nat} {M : zMem} {Q : Option zV → zMem → Prop} {x1 : Int} (h : zBg d 123 0 [zR 55, zI x1, none] [] M Q) : zCt d 123 [.inr (.inr 55), .inl x1] M Q := zCt_of (I := zm123) rfl rfl h
end
section
/-! CommaCopiesModel.readsAs([II)I , as 124 -/
set_option maxRecDepth 20000 in
theorem zv124_0 {d : Nat} {M : zMem} {Q : Option zV → zMem → Prop} (a1 : Nat) (x2 : Int) (h :
  zBg d 124 8 [zR 55, zR a1, zI x2, zI 0, zI 0, zI 0, none, none] [] M Q) : zBg d 124 0 [zR 55, zR a1, zI x2, none, none, none, none, none] [] M Q :=
  zvc_ok (I := zm124) (cuts := [(8, [true, true, true, true, true, true, false, false]), (61, [true, true, true, true, true, false, true, true])]) (n := 87) rfl h
set_option maxRecDepth 20000 in
theorem zv124_8 {d : Nat} {M : zMem} {Q : Option zV → zMem → Prop} (a1 : Nat) (x2 : Int) (x3 : Int) (x4 : Int) (x5 : Int) (h :
  ((x5 : Int) ≥ (M 55 2) →
    Q (zI x3) M) ∧
  (¬ (x5 : Int) ≥ (M 55 2) →
    (0 : Int) ≤ x5 ∧ (x5 : Int) < 120 ∧ ((M 57 x5.toNat : Int) ≠ 91 →
      (0 : Int) ≤ x5 ∧ (x5 : Int) < 120 ∧ (0 : Int) ≤ x3 ∧ (x3 : Int) < 240 ∧ zR32 (x3 + 1) ∧ zR32 (x5 + 1) ∧ zBg d 124 8 [zR 55, zR a1, zI x2, zI (x3 + 1), zI x4, zI (x5 + 1), none, none] [] (zup M 68 x3.toNat (M 57 x5.toNat)) Q) ∧
    (¬ (M 57 x5.toNat : Int) ≠ 91 →
      zR32 (x2 + x4) ∧ zar a1 0 fun n => (0 : Int) ≤ (x2 + x4) ∧ (x2 + x4 : Int) < n ∧ ((M a1 ((x2 + x4).toNat) : Int) ≠ 4 →
        zR32 (4 * x4) ∧ zR32 ((4 * x4) + (M a1 ((x2 + x4).toNat))) ∧ (0 : Int) ≤ ((4 * x4) + (M a1 ((x2 + x4).toNat))) ∧ ((4 * x4) + (M a1 ((x2 + x4).toNat)) : Int) < 24 ∧ zBg d 124 61 [zR 55, zR a1, zI x2, zI x3, zI x4, none, zI (M a1 ((x2 + x4).toNat)), zI (M 61 (((4 * x4) + (M a1 ((x2 + x4).toNat))).toNat))] [] M Q) ∧
      (¬ (M a1 ((x2 + x4).toNat) : Int) ≠ 4 →
        zBg d 124 61 [zR 55, zR a1, zI x2, zI x3, zI x4, none, zI (M a1 ((x2 + x4).toNat)), zI 0] [] M Q)))) : zBg d 124 8 [zR 55, zR a1, zI x2, zI x3, zI x4, zI x5, none, none] [] M Q :=
  zvc_ok (I := zm124) (cuts := [(8, [true, true, true, true, true, true, false, false]), (61, [true, true, true, true, true, false, true, true])]) (n := 87) rfl h
set_option maxRecDepth 20000 in
theorem zv124_61 {d : Nat} {M : zMem} {Q : Option zV → zMem → Prop} (a1 : Nat) (x2 : Int) (x3 : Int) (x4 : Int) (x6 : Int) (x7 : Int) (h :
  ((x6 : Int) ≥ 4 →
    (0 : Int) ≤ x4 ∧ (x4 : Int) < 6 ∧ zR32 ((M 59 x4.toNat) + 1) ∧ zR32 (x4 + 1) ∧ zBg d 124 8 [zR 55, zR a1, zI x2, zI x3, zI (x4 + 1), zI ((M 59 x4.toNat) + 1), none, none] [] M Q) ∧
  (¬ (x6 : Int) ≥ 4 →
    zR32 (4 * x4) ∧ zR32 ((4 * x4) + x6) ∧ (0 : Int) ≤ ((4 * x4) + x6) ∧ ((4 * x4) + x6 : Int) < 24 ∧ ((x7 : Int) ≥ (M 62 (((4 * x4) + x6).toNat)) →
      (0 : Int) ≤ x4 ∧ (x4 : Int) < 6 ∧ zR32 ((M 59 x4.toNat) + 1) ∧ zR32 (x4 + 1) ∧ zBg d 124 8 [zR 55, zR a1, zI x2, zI x3, zI (x4 + 1), zI ((M 59 x4.toNat) + 1), none, none] [] M Q) ∧
    (¬ (x7 : Int) ≥ (M 62 (((4 * x4) + x6).toNat)) →
      (0 : Int) ≤ x7 ∧ (x7 : Int) < 120 ∧ (0 : Int) ≤ x3 ∧ (x3 : Int) < 240 ∧ zR32 (x3 + 1) ∧ zR32 (x7 + 1) ∧ zBg d 124 61 [zR 55, zR a1, zI x2, zI (x3 + 1), zI x4, none, zI x6, zI (x7 + 1)] [] (zup M 68 x3.toNat (M 57 x7.toNat)) Q))) : zBg d 124 61 [zR 55, zR a1, zI x2, zI x3, zI x4, none, zI x6, zI x7] [] M Q :=
  zvc_ok (I := zm124) (cuts := [(8, [true, true, true, true, true, true, false, false]), (61, [true, true, true, true, true, false, true, true])]) (n := 87) rfl h
theorem zk124 {d : Nat} {M : zMem} {Q : Option zV → zMem → Prop} {a1 : Nat} {x2 : Int} (h : zBg d 124 0 [zR 55, zR a1, zI x2, none, none, none, none, none] [] M Q) : zCt d 124 [.inr (.inr 55), .inr (.inr a1), .inl x2] M Q := zCt_of (I := zm124) rfl rfl h
/-! CommaCopiesModel.reads(II)I , as 125 -/
set_option maxRecDepth 20000 in
theorem zv125_0 {d : Nat} {M : zMem} {Q : Option zV → zMem → Prop} (x1 : Int) (x2 : Int) (h :
  ∃ Q1, zCi d 121 [.inr (.inr 55), .inl x1] M Q1 ∧ ∀ v1 M1, Q1 v1 M1 →
  ((v1 : Int) = 0 →
    Q (zI (-1)) M1) ∧
  (¬ (v1 : Int) = 0 →
    ((x2 : Int) ≥ 0 →
      zR32 (6 * x1) ∧ ∃ Q2, zCi d 124 [.inr (.inr 55), .inr (.inr 65), .inl (6 * x1)] M1 Q2 ∧ ∀ v2 M2, Q2 v2 M2 →
      ((x2 : Int) ≥ v2 →
        Q (zI (-4)) M2) ∧
      (¬ (x2 : Int) ≥ v2 →
        (0 : Int) ≤ x2 ∧ (x2 : Int) < 240 ∧ Q (zI (M2 68 x2.toNat)) M2)) ∧
    (¬ (x2 : Int) ≥ 0 →
      Q (zI (-1)) M1))) : zBg (d + 1) 125 0 [zR 55, zI x1, zI x2, none] [] M Q :=
  zvc_ok (I := zm125) (cuts := []) (n := 31) rfl h
theorem zk125 {d : Nat} {M : zMem} {Q : Option zV → zMem → Prop} {x1 : Int} {x2 : Int} (h : zBg d 125 0 [zR 55, zI x1, zI x2, none] [] M Q) : zCt d 125 [.inr (.inr 55), .inl x1, .inl x2] M Q := zCt_of (I := zm125) rfl rfl h
/-! CommaCopiesModel.costAll(I)I , as 126 -/
set_option maxRecDepth 20000 in
theorem zv126_0 {d : Nat} {M : zMem} {Q : Option zV → zMem → Prop} (x1 : Int) (h :
  zBg d 126 4 [zR 55, zI x1, zI 0, zI 0] [] M Q) : zBg d 126 0 [zR 55, zI x1, none, none] [] M Q :=
  zvc_ok (I := zm126) (cuts := [(4, [true, true, true, true])]) (n := 35) rfl h
set_option maxRecDepth 20000 in
theorem zv126_4 {d : Nat} {M : zMem} {Q : Option zV → zMem → Prop} (x1 : Int) (x2 : Int) (x3 : Int) (h :
  ((x3 : Int) ≥ (M 55 4) →
    Q (zI x2) M) ∧
  (¬ (x3 : Int) ≥ (M 55 4) →
    zR32 (4 * x3) ∧ zR32 (6 * x1) ∧ zR32 ((6 * x1) + x3) ∧ (0 : Int) ≤ ((6 * x1) + x3) ∧ ((6 * x1) + x3 : Int) < 48 ∧ zR32 ((4 * x3) + (M 65 (((6 * x1) + x3).toNat))) ∧ (0 : Int) ≤ ((4 * x3) + (M 65 (((6 * x1) + x3).toNat))) ∧ ((4 * x3) + (M 65 (((6 * x1) + x3).toNat)) : Int) < 24 ∧ zR32 (x2 + (M 63 (((4 * x3) + (M 65 (((6 * x1) + x3).toNat))).toNat))) ∧ zR32 (x3 + 1) ∧ zBg d 126 4 [zR 55, zI x1, zI (x2 + (M 63 (((4 * x3) + (M 65 (((6 * x1) + x3).toNat))).toNat))), zI (x3 + 1)] [] M Q)) : zBg d 126 4 [zR 55, zI x1, zI x2, zI x3] [] M Q :=
  zvc_ok (I := zm126) (cuts := [(4, [true, true, true, true])]) (n := 35) rfl h
theorem zk126 {d : Nat} {M : zMem} {Q : Option zV → zMem → Prop} {x1 : Int} (h : zBg d 126 0 [zR 55, zI x1, none, none] [] M Q) : zCt d 126 [.inr (.inr 55), .inl x1] M Q := zCt_of (I := zm126) rfl rfl h
/-! CommaCopiesModel.costOf(I)I , as 127 -/
set_option maxRecDepth 20000 in
theorem zv127_0 {d : Nat} {M : zMem} {Q : Option zV → zMem → Prop} (x1 : Int) (h :
  ∃ Q1, zCi d 121 [.inr (.inr 55), .inl x1] M Q1 ∧ ∀ v1 M1, Q1 v1 M1 →
  ((v1 : Int) = 0 →
    Q (zI (-1)) M1) ∧
  (¬ (v1 : Int) = 0 →
    ∃ Q2, zCi d 126 [.inr (.inr 55), .inl x1] M1 Q2 ∧ ∀ v2 M2, Q2 v2 M2 →
    Q (zI v2) M2)) : zBg (d + 1) 127 0 [zR 55, zI x1] [] M Q :=
  zvc_ok (I := zm127) (cuts := []) (n := 15) rfl h
theorem zk127 {d : Nat} {M : zMem} {Q : Option zV → zMem → Prop} {x1 : Int} (h : zBg d 127 0 [zR 55, zI x1] [] M Q) : zCt d 127 [.inr (.inr 55), .inl x1] M Q := zCt_of (I := zm127) rfl rfl h
/-! CommaCopiesModel.set(II)I , as 128 -/
set_option maxRecDepth 20000 in
theorem zv128_0 {d : Nat} {M : zMem} {Q : Option zV → zMem → Prop} (x1 : Int) (x2 : Int) (h :
  ∃ Q1, zCi d 110 [.inr (.inl x1), .inr (.inl 0), .inr (.inl 1)] M Q1 ∧ ∀ v1 M1, Q1 v1 M1 →
  ((v1 : Int) = 0 →
    Q (zI (-1)) M1) ∧
  (¬ (v1 : Int) = 0 →
    ((x1 : Int) ≠ 0 →
      ((x1 : Int) ≠ 0 →
        ∃ Q2, zCi d 110 [.inr (.inl x2), .inr (.inl 0), .inr (.inl 2)] M1 Q2 ∧ ∀ v2 M2, Q2 v2 M2 →
        ((v2 : Int) ≠ 0 →
          ((x1 : Int) ≠ 0 →
            ((x1 : Int) ≠ 0 →
              Q (zI (M2 55 15)) (zup M2 55 15 x2)) ∧
            (¬ (x1 : Int) ≠ 0 →
              Q (zI (M2 55 15)) (zup M2 55 14 x2))) ∧
          (¬ (x1 : Int) ≠ 0 →
            ((x1 : Int) ≠ 0 →
              Q (zI (M2 55 14)) (zup M2 55 15 x2)) ∧
            (¬ (x1 : Int) ≠ 0 →
              Q (zI (M2 55 14)) (zup M2 55 14 x2)))) ∧
        (¬ (v2 : Int) ≠ 0 →
          Q (zI (-1)) M2)) ∧
      (¬ (x1 : Int) ≠ 0 →
        ∃ Q3, zCi d 110 [.inr (.inl x2), .inr (.inl 0), .inr (.inl 3)] M1 Q3 ∧ ∀ v3 M3, Q3 v3 M3 →
        ((v3 : Int) ≠ 0 →
          ((x1 : Int) ≠ 0 →
            ((x1 : Int) ≠ 0 →
              Q (zI (M3 55 15)) (zup M3 55 15 x2)) ∧
            (¬ (x1 : Int) ≠ 0 →
              Q (zI (M3 55 15)) (zup M3 55 14 x2))) ∧
          (¬ (x1 : Int) ≠ 0 →
            ((x1 : Int) ≠ 0 →
              Q (zI (M3 55 14)) (zup M3 55 15 x2)) ∧
            (¬ (x1 : Int) ≠ 0 →
              Q (zI (M3 55 14)) (zup M3 55 14 x2)))) ∧
        (¬ (v3 : Int) ≠ 0 →
          Q (zI (-1)) M3))) ∧
    (¬ (x1 : Int) ≠ 0 →
      ((x1 : Int) ≠ 0 →
        ∃ Q4, zCi d 110 [.inr (.inl x2), .inr (.inl 1), .inr (.inl 2)] M1 Q4 ∧ ∀ v4 M4, Q4 v4 M4 →
        ((v4 : Int) ≠ 0 →
          ((x1 : Int) ≠ 0 →
            ((x1 : Int) ≠ 0 →
              Q (zI (M4 55 15)) (zup M4 55 15 x2)) ∧
            (¬ (x1 : Int) ≠ 0 →
              Q (zI (M4 55 15)) (zup M4 55 14 x2))) ∧
          (¬ (x1 : Int) ≠ 0 →
            ((x1 : Int) ≠ 0 →
              Q (zI (M4 55 14)) (zup M4 55 15 x2)) ∧
            (¬ (x1 : Int) ≠ 0 →
              Q (zI (M4 55 14)) (zup M4 55 14 x2)))) ∧
        (¬ (v4 : Int) ≠ 0 →
          Q (zI (-1)) M4)) ∧
      (¬ (x1 : Int) ≠ 0 →
        ∃ Q5, zCi d 110 [.inr (.inl x2), .inr (.inl 1), .inr (.inl 3)] M1 Q5 ∧ ∀ v5 M5, Q5 v5 M5 →
        ((v5 : Int) ≠ 0 →
          ((x1 : Int) ≠ 0 →
            ((x1 : Int) ≠ 0 →
              Q (zI (M5 55 15)) (zup M5 55 15 x2)) ∧
            (¬ (x1 : Int) ≠ 0 →
              Q (zI (M5 55 15)) (zup M5 55 14 x2))) ∧
          (¬ (x1 : Int) ≠ 0 →
            ((x1 : Int) ≠ 0 →
              Q (zI (M5 55 14)) (zup M5 55 15 x2)) ∧
            (¬ (x1 : Int) ≠ 0 →
              Q (zI (M5 55 14)) (zup M5 55 14 x2)))) ∧
        (¬ (v5 : Int) ≠ 0 →
          Q (zI (-1)) M5))))) : zBg (d + 1) 128 0 [zR 55, zI x1, zI x2, none] [] M Q :=
  zvc_ok (I := zm128) (cuts := []) (n := 46) rfl h
theorem zk128 {d : Nat} {M : zMem} {Q : Option zV → zMem → Prop} {x1 : Int} {x2 : Int} (h : zBg d 128 0 [zR 55, zI x1, zI x2, none] [] M Q) : zCt d 128 [.inr (.inr 55), .inl x1, .inl x2] M Q := zCt_of (I := zm128) rfl rfl h
/-! CommaCopiesModel.sizeOf(I)I , as 129 -/
set_option maxRecDepth 20000 in
theorem zv129_0 {d : Nat} {M : zMem} {Q : Option zV → zMem → Prop} (x0 : Int) (h :
  zBg d 129 4 [none, zI 0, zI x0] [] M Q) : zBg d 129 0 [zI x0, none, none] [] M Q :=
  zvc_ok (I := zm129) (cuts := [(4, [false, true, true])]) (n := 21) rfl h
set_option maxRecDepth 20000 in
theorem zv129_4 {d : Nat} {M : zMem} {Q : Option zV → zMem → Prop} (x1 : Int) (x2 : Int) (h :
  ((x2 : Int) = 0 →
    Q (zI x1) M) ∧
  (¬ (x2 : Int) = 0 →
    zR32 (x1 + 1) ∧ zR32 (x2 - 1) ∧ zBg d 129 4 [none, zI (x1 + 1), zI (ziand x2 (x2 - 1))] [] M Q)) : zBg d 129 4 [none, zI x1, zI x2] [] M Q :=
  zvc_ok (I := zm129) (cuts := [(4, [false, true, true])]) (n := 21) rfl h
theorem zk129 {d : Nat} {M : zMem} {Q : Option zV → zMem → Prop} {x0 : Int} (h : zBg d 129 0 [zI x0, none, none] [] M Q) : zCt d 129 [.inl x0] M Q := zCt_of (I := zm129) rfl rfl h
/-! CommaCopiesModel.can(III)I , as 130 -/
set_option maxRecDepth 20000 in
theorem zv130_0 {d : Nat} {M : zMem} {Q : Option zV → zMem → Prop} (x1 : Int) (x2 : Int) (x3 : Int) (h :
  zBg d 130 6 [zR 55, zI x1, zI x2, zI x3, zI 0, zI 0] [] M Q) : zBg d 130 0 [zR 55, zI x1, zI x2, zI x3, none, none] [] M Q :=
  zvc_ok (I := zm130) (cuts := [(6, [true, true, true, true, true, true])]) (n := 88) rfl h
set_option maxRecDepth 20000 in
theorem zv130_6 {d : Nat} {M : zMem} {Q : Option zV → zMem → Prop} (x1 : Int) (x2 : Int) (x3 : Int) (x4 : Int) (x5 : Int) (h :
  ((x5 : Int) ≥ (M 55 12) →
    ∃ Q1, zCi d 129 [.inl x4] M Q1 ∧ ∀ v1 M1, Q1 v1 M1 →
    ((v1 : Int) ≤ 1 →
      ((x3 : Int) ≠ 1 →
        ((x3 : Int) ≠ 2 →
          (0 : Int) ≤ x2 ∧ (x2 : Int) < 6 ∧ ((M1 64 x2.toNat : Int) ≥ 0 →
            (0 : Int) ≤ x2 ∧ (x2 : Int) < 6 ∧ Q (zI (zior (zior x4 0) (zishl 1 (M1 64 x2.toNat)))) M1) ∧
          (¬ (M1 64 x2.toNat : Int) ≥ 0 →
            Q (zI (zior x4 0)) M1)) ∧
        (¬ (x3 : Int) ≠ 2 →
          ((0 : Int) = 0 →
            (0 : Int) ≤ x2 ∧ (x2 : Int) < 6 ∧ ((M1 64 x2.toNat : Int) ≥ 0 →
              (0 : Int) ≤ x2 ∧ (x2 : Int) < 6 ∧ Q (zI (zior (zior x4 0) (zishl 1 (M1 64 x2.toNat)))) M1) ∧
            (¬ (M1 64 x2.toNat : Int) ≥ 0 →
              Q (zI (zior x4 0)) M1)) ∧
          (¬ (0 : Int) = 0 →
            (0 : Int) ≤ x2 ∧ (x2 : Int) < 6 ∧ ((M1 64 x2.toNat : Int) ≥ 0 →
              (0 : Int) ≤ x2 ∧ (x2 : Int) < 6 ∧ Q (zI (zior (zior x4 16) (zishl 1 (M1 64 x2.toNat)))) M1) ∧
            (¬ (M1 64 x2.toNat : Int) ≥ 0 →
              Q (zI (zior x4 16)) M1)))) ∧
      (¬ (x3 : Int) ≠ 1 →
        ((0 : Int) = 0 →
          ((x3 : Int) ≠ 2 →
            (0 : Int) ≤ x2 ∧ (x2 : Int) < 6 ∧ ((M1 64 x2.toNat : Int) ≥ 0 →
              (0 : Int) ≤ x2 ∧ (x2 : Int) < 6 ∧ Q (zI (zior (zior x4 0) (zishl 1 (M1 64 x2.toNat)))) M1) ∧
            (¬ (M1 64 x2.toNat : Int) ≥ 0 →
              Q (zI (zior x4 0)) M1)) ∧
          (¬ (x3 : Int) ≠ 2 →
            ((0 : Int) = 0 →
              (0 : Int) ≤ x2 ∧ (x2 : Int) < 6 ∧ ((M1 64 x2.toNat : Int) ≥ 0 →
                (0 : Int) ≤ x2 ∧ (x2 : Int) < 6 ∧ Q (zI (zior (zior x4 0) (zishl 1 (M1 64 x2.toNat)))) M1) ∧
              (¬ (M1 64 x2.toNat : Int) ≥ 0 →
                Q (zI (zior x4 0)) M1)) ∧
            (¬ (0 : Int) = 0 →
              (0 : Int) ≤ x2 ∧ (x2 : Int) < 6 ∧ ((M1 64 x2.toNat : Int) ≥ 0 →
                (0 : Int) ≤ x2 ∧ (x2 : Int) < 6 ∧ Q (zI (zior (zior x4 16) (zishl 1 (M1 64 x2.toNat)))) M1) ∧
              (¬ (M1 64 x2.toNat : Int) ≥ 0 →
                Q (zI (zior x4 16)) M1)))) ∧
        (¬ (0 : Int) = 0 →
          (0 : Int) ≤ x2 ∧ (x2 : Int) < 6 ∧ zR32 ((zishl 1 (M1 60 x2.toNat)) - 1) ∧ ((x3 : Int) ≠ 2 →
            (0 : Int) ≤ x2 ∧ (x2 : Int) < 6 ∧ ((M1 64 x2.toNat : Int) ≥ 0 →
              (0 : Int) ≤ x2 ∧ (x2 : Int) < 6 ∧ Q (zI (zior (zior ((zishl 1 (M1 60 x2.toNat)) - 1) 0) (zishl 1 (M1 64 x2.toNat)))) M1) ∧
            (¬ (M1 64 x2.toNat : Int) ≥ 0 →
              Q (zI (zior ((zishl 1 (M1 60 x2.toNat)) - 1) 0)) M1)) ∧
          (¬ (x3 : Int) ≠ 2 →
            ((0 : Int) = 0 →
              (0 : Int) ≤ x2 ∧ (x2 : Int) < 6 ∧ ((M1 64 x2.toNat : Int) ≥ 0 →
                (0 : Int) ≤ x2 ∧ (x2 : Int) < 6 ∧ Q (zI (zior (zior ((zishl 1 (M1 60 x2.toNat)) - 1) 0) (zishl 1 (M1 64 x2.toNat)))) M1) ∧
              (¬ (M1 64 x2.toNat : Int) ≥ 0 →
                Q (zI (zior ((zishl 1 (M1 60 x2.toNat)) - 1) 0)) M1)) ∧
            (¬ (0 : Int) = 0 →
              (0 : Int) ≤ x2 ∧ (x2 : Int) < 6 ∧ ((M1 64 x2.toNat : Int) ≥ 0 →
                (0 : Int) ≤ x2 ∧ (x2 : Int) < 6 ∧ Q (zI (zior (zior ((zishl 1 (M1 60 x2.toNat)) - 1) 16) (zishl 1 (M1 64 x2.toNat)))) M1) ∧
              (¬ (M1 64 x2.toNat : Int) ≥ 0 →
                Q (zI (zior ((zishl 1 (M1 60 x2.toNat)) - 1) 16)) M1)))))) ∧
    (¬ (v1 : Int) ≤ 1 →
      ((x3 : Int) ≠ 1 →
        ((x3 : Int) ≠ 2 →
          (0 : Int) ≤ x2 ∧ (x2 : Int) < 6 ∧ ((M1 64 x2.toNat : Int) ≥ 0 →
            (0 : Int) ≤ x2 ∧ (x2 : Int) < 6 ∧ Q (zI (zior (zior x4 0) (zishl 1 (M1 64 x2.toNat)))) M1) ∧
          (¬ (M1 64 x2.toNat : Int) ≥ 0 →
            Q (zI (zior x4 0)) M1)) ∧
        (¬ (x3 : Int) ≠ 2 →
          ((1 : Int) = 0 →
            (0 : Int) ≤ x2 ∧ (x2 : Int) < 6 ∧ ((M1 64 x2.toNat : Int) ≥ 0 →
              (0 : Int) ≤ x2 ∧ (x2 : Int) < 6 ∧ Q (zI (zior (zior x4 0) (zishl 1 (M1 64 x2.toNat)))) M1) ∧
            (¬ (M1 64 x2.toNat : Int) ≥ 0 →
              Q (zI (zior x4 0)) M1)) ∧
          (¬ (1 : Int) = 0 →
            (0 : Int) ≤ x2 ∧ (x2 : Int) < 6 ∧ ((M1 64 x2.toNat : Int) ≥ 0 →
              (0 : Int) ≤ x2 ∧ (x2 : Int) < 6 ∧ Q (zI (zior (zior x4 16) (zishl 1 (M1 64 x2.toNat)))) M1) ∧
            (¬ (M1 64 x2.toNat : Int) ≥ 0 →
              Q (zI (zior x4 16)) M1)))) ∧
      (¬ (x3 : Int) ≠ 1 →
        ((1 : Int) = 0 →
          ((x3 : Int) ≠ 2 →
            (0 : Int) ≤ x2 ∧ (x2 : Int) < 6 ∧ ((M1 64 x2.toNat : Int) ≥ 0 →
              (0 : Int) ≤ x2 ∧ (x2 : Int) < 6 ∧ Q (zI (zior (zior x4 0) (zishl 1 (M1 64 x2.toNat)))) M1) ∧
            (¬ (M1 64 x2.toNat : Int) ≥ 0 →
              Q (zI (zior x4 0)) M1)) ∧
          (¬ (x3 : Int) ≠ 2 →
            ((1 : Int) = 0 →
              (0 : Int) ≤ x2 ∧ (x2 : Int) < 6 ∧ ((M1 64 x2.toNat : Int) ≥ 0 →
                (0 : Int) ≤ x2 ∧ (x2 : Int) < 6 ∧ Q (zI (zior (zior x4 0) (zishl 1 (M1 64 x2.toNat)))) M1) ∧
              (¬ (M1 64 x2.toNat : Int) ≥ 0 →
                Q (zI (zior x4 0)) M1)) ∧
            (¬ (1 : Int) = 0 →
              (0 : Int) ≤ x2 ∧ (x2 : Int) < 6 ∧ ((M1 64 x2.toNat : Int) ≥ 0 →
                (0 : Int) ≤ x2 ∧ (x2 : Int) < 6 ∧ Q (zI (zior (zior x4 16) (zishl 1 (M1 64 x2.toNat)))) M1) ∧
              (¬ (M1 64 x2.toNat : Int) ≥ 0 →
                Q (zI (zior x4 16)) M1)))) ∧
        (¬ (1 : Int) = 0 →
          (0 : Int) ≤ x2 ∧ (x2 : Int) < 6 ∧ zR32 ((zishl 1 (M1 60 x2.toNat)) - 1) ∧ ((x3 : Int) ≠ 2 →
            (0 : Int) ≤ x2 ∧ (x2 : Int) < 6 ∧ ((M1 64 x2.toNat : Int) ≥ 0 →
              (0 : Int) ≤ x2 ∧ (x2 : Int) < 6 ∧ Q (zI (zior (zior ((zishl 1 (M1 60 x2.toNat)) - 1) 0) (zishl 1 (M1 64 x2.toNat)))) M1) ∧
            (¬ (M1 64 x2.toNat : Int) ≥ 0 →
              Q (zI (zior ((zishl 1 (M1 60 x2.toNat)) - 1) 0)) M1)) ∧
          (¬ (x3 : Int) ≠ 2 →
            ((1 : Int) = 0 →
              (0 : Int) ≤ x2 ∧ (x2 : Int) < 6 ∧ ((M1 64 x2.toNat : Int) ≥ 0 →
                (0 : Int) ≤ x2 ∧ (x2 : Int) < 6 ∧ Q (zI (zior (zior ((zishl 1 (M1 60 x2.toNat)) - 1) 0) (zishl 1 (M1 64 x2.toNat)))) M1) ∧
              (¬ (M1 64 x2.toNat : Int) ≥ 0 →
                Q (zI (zior ((zishl 1 (M1 60 x2.toNat)) - 1) 0)) M1)) ∧
            (¬ (1 : Int) = 0 →
              (0 : Int) ≤ x2 ∧ (x2 : Int) < 6 ∧ ((M1 64 x2.toNat : Int) ≥ 0 →
                (0 : Int) ≤ x2 ∧ (x2 : Int) < 6 ∧ Q (zI (zior (zior ((zishl 1 (M1 60 x2.toNat)) - 1) 16) (zishl 1 (M1 64 x2.toNat)))) M1) ∧
              (¬ (M1 64 x2.toNat : Int) ≥ 0 →
                Q (zI (zior ((zishl 1 (M1 60 x2.toNat)) - 1) 16)) M1))))))) ∧
  (¬ (x5 : Int) ≥ (M 55 12) →
    ((ziand (zishr x1 x5) 1 : Int) ≠ 1 →
      zR32 (x5 + 1) ∧ zBg (d + 1) 130 6 [zR 55, zI x1, zI x2, zI x3, zI (zior x4 0), zI (x5 + 1)] [] M Q) ∧
    (¬ (ziand (zishr x1 x5) 1 : Int) ≠ 1 →
      zR32 (6 * x5) ∧ zR32 ((6 * x5) + x2) ∧ (0 : Int) ≤ ((6 * x5) + x2) ∧ ((6 * x5) + x2 : Int) < 48 ∧ zR32 (x5 + 1) ∧ zBg (d + 1) 130 6 [zR 55, zI x1, zI x2, zI x3, zI (zior x4 (zishl 1 (M 65 (((6 * x5) + x2).toNat)))), zI (x5 + 1)] [] M Q))) : zBg (d + 1) 130 6 [zR 55, zI x1, zI x2, zI x3, zI x4, zI x5] [] M Q :=
  zvc_ok (I := zm130) (cuts := [(6, [true, true, true, true, true, true])]) (n := 88) rfl h
theorem zk130 {d : Nat} {M : zMem} {Q : Option zV → zMem → Prop} {x1 : Int} {x2 : Int} {x3 : Int} (h : zBg d 130 0 [zR 55, zI x1, zI x2, zI x3, none, none] [] M Q) : zCt d 130 [.inr (.inr 55), .inl x1, .inl x2, .inl x3] M Q := zCt_of (I := zm130) rfl rfl h
/-! CommaCopiesModel.makes(I[III)Z , as 131 -/
set_option maxRecDepth 20000 in
theorem zv131_0 {d : Nat} {M : zMem} {Q : Option zV → zMem → Prop} (x1 : Int) (a2 : Nat) (x3 : Int) (x4 : Int) (h :
  zBg d 131 6 [zR 55, zI x1, zR a2, zI x3, zI x4, zI 1, zI 0] [] M Q) : zBg d 131 0 [zR 55, zI x1, zR a2, zI x3, zI x4, none, none] [] M Q :=
  zvc_ok (I := zm131) (cuts := [(6, [true, true, true, true, true, true, true])]) (n := 45) rfl h
set_option maxRecDepth 20000 in
theorem zv131_6 {d : Nat} {M : zMem} {Q : Option zV → zMem → Prop} (x1 : Int) (a2 : Nat) (x3 : Int) (x4 : Int) (x5 : Int) (x6 : Int) (h :
  ((x6 : Int) ≥ (M 55 4) →
    ((x5 : Int) = 0 ∨ (x5 : Int) = 1) ∧ Q (zI x5) M) ∧
  (¬ (x6 : Int) ≥ (M 55 4) →
    ((x5 : Int) = 0 →
      ((x5 : Int) = 0 ∨ (x5 : Int) = 1) ∧ Q (zI x5) M) ∧
    (¬ (x5 : Int) = 0 →
      zR32 (x3 + x6) ∧ zar a2 0 fun n => (0 : Int) ≤ (x3 + x6) ∧ (x3 + x6 : Int) < n ∧ ((M a2 ((x3 + x6).toNat) : Int) = 5 →
        zR32 (x6 + 1) ∧ zBg (d + 1) 131 6 [zR 55, zI x1, zR a2, zI x3, zI x4, zI 1, zI (x6 + 1)] [] M Q) ∧
      (¬ (M a2 ((x3 + x6).toNat) : Int) = 5 →
        ∃ Q1, zCi d 130 [.inr (.inr 55), .inl x1, .inl x6, .inl x4] M Q1 ∧ ∀ v1 M1, Q1 v1 M1 →
        zR32 (x3 + x6) ∧ zar a2 0 fun n => (0 : Int) ≤ (x3 + x6) ∧ (x3 + x6 : Int) < n ∧ ((ziand (zishr v1 (M1 a2 ((x3 + x6).toNat))) 1 : Int) ≠ 1 →
          zR32 (x6 + 1) ∧ zBg (d + 1) 131 6 [zR 55, zI x1, zR a2, zI x3, zI x4, zI 0, zI (x6 + 1)] [] M1 Q) ∧
        (¬ (ziand (zishr v1 (M1 a2 ((x3 + x6).toNat))) 1 : Int) ≠ 1 →
          zR32 (x6 + 1) ∧ zBg (d + 1) 131 6 [zR 55, zI x1, zR a2, zI x3, zI x4, zI 1, zI (x6 + 1)] [] M1 Q))))) : zBg (d + 1) 131 6 [zR 55, zI x1, zR a2, zI x3, zI x4, zI x5, zI x6] [] M Q :=
  zvc_ok (I := zm131) (cuts := [(6, [true, true, true, true, true, true, true])]) (n := 45) rfl h
theorem zk131 {d : Nat} {M : zMem} {Q : Option zV → zMem → Prop} {x1 : Int} {a2 : Nat} {x3 : Int} {x4 : Int} (h : zBg d 131 0 [zR 55, zI x1, zR a2, zI x3, zI x4, none, none] [] M Q) : zCt d 131 [.inr (.inr 55), .inl x1, .inr (.inr a2), .inl x3, .inl x4] M Q := zCt_of (I := zm131) rfl rfl h
/-! CommaCopiesModel.laysSets(I)V , as 132 -/
set_option maxRecDepth 20000 in
theorem zv132_0 {d : Nat} {M : zMem} {Q : Option zV → zMem → Prop} (x1 : Int) (h :
  zBg d 132 7 [zR 55, zI x1, zI 1, none] [] (zup M 55 21 0) Q) : zBg d 132 0 [zR 55, zI x1, none, none] [] M Q :=
  zvc_ok (I := zm132) (cuts := [(7, [true, true, true, false]), (14, [true, true, true, true])]) (n := 42) rfl h
set_option maxRecDepth 20000 in
theorem zv132_7 {d : Nat} {M : zMem} {Q : Option zV → zMem → Prop} (x1 : Int) (x2 : Int) (h :
  ((x2 : Int) > x1 →
    Q none M) ∧
  (¬ (x2 : Int) > x1 →
    zBg d 132 14 [zR 55, zI x1, zI x2, zI 1] [] M Q)) : zBg d 132 7 [zR 55, zI x1, zI x2, none] [] M Q :=
  zvc_ok (I := zm132) (cuts := [(7, [true, true, true, false]), (14, [true, true, true, true])]) (n := 42) rfl h
set_option maxRecDepth 20000 in
theorem zv132_14 {d : Nat} {M : zMem} {Q : Option zV → zMem → Prop} (x1 : Int) (x2 : Int) (x3 : Int) (h :
  ((x3 : Int) ≥ (zishl 1 (M 55 12)) →
    zR32 (x2 + 1) ∧ zBg (d + 1) 132 7 [zR 55, zI x1, zI (x2 + 1), none] [] M Q) ∧
  (¬ (x3 : Int) ≥ (zishl 1 (M 55 12)) →
    ∃ Q1, zCi d 129 [.inl x3] M Q1 ∧ ∀ v1 M1, Q1 v1 M1 →
    ((v1 : Int) ≠ x2 →
      zR32 (x3 + 1) ∧ zBg (d + 1) 132 14 [zR 55, zI x1, zI x2, zI (x3 + 1)] [] M1 Q) ∧
    (¬ (v1 : Int) ≠ x2 →
      (0 : Int) ≤ (M1 55 21) ∧ (M1 55 21 : Int) < 92 ∧ zR32 ((M1 55 21) + 1) ∧ zR32 (x3 + 1) ∧ zBg (d + 1) 132 14 [zR 55, zI x1, zI x2, zI (x3 + 1)] [] (zup (zup M1 69 ((M1 55 21).toNat) x3) 55 21 ((M1 55 21) + 1)) Q))) : zBg (d + 1) 132 14 [zR 55, zI x1, zI x2, zI x3] [] M Q :=
  zvc_ok (I := zm132) (cuts := [(7, [true, true, true, false]), (14, [true, true, true, true])]) (n := 42) rfl h
theorem zk132 {d : Nat} {M : zMem} {Q : Option zV → zMem → Prop} {x1 : Int} (h : zBg d 132 0 [zR 55, zI x1, none, none] [] M Q) : zCt d 132 [.inr (.inr 55), .inl x1] M Q := zCt_of (I := zm132) rfl rfl h
/-! CommaCopiesModel.madeBy([IIII)I , as 133 -/
set_option maxRecDepth 20000 in
theorem zv133_0 {d : Nat} {M : zMem} {Q : Option zV → zMem → Prop} (a1 : Nat) (x2 : Int) (x3 : Int) (x4 : Int) (h :
  ∃ Q1, zCv d 132 [.inr (.inr 55), .inl x3] M Q1 ∧ ∀ M1, Q1 M1 →
  zBg (d + 1) 133 19 [zR 55, zR a1, zI x2, none, zI x4, zI 255, zI 0, zI 0, zI 0] [] M1 Q) : zBg (d + 1) 133 0 [zR 55, zR a1, zI x2, zI x3, zI x4, none, none, none, none] [] M Q :=
  zvc_ok (I := zm133) (cuts := [(19, [true, true, true, false, true, true, true, true, true])]) (n := 61) rfl h
set_option maxRecDepth 20000 in
theorem zv133_19 {d : Nat} {M : zMem} {Q : Option zV → zMem → Prop} (a1 : Nat) (x2 : Int) (x4 : Int) (x5 : Int) (x6 : Int) (x7 : Int) (x8 : Int) (h :
  ((x8 : Int) ≥ (M 55 21) →
    ((x7 : Int) ≠ 0 →
      zR32 (65536 * x7) ∧ zR32 (256 * x6) ∧ zR32 ((65536 * x7) + (256 * x6)) ∧ zR32 (((65536 * x7) + (256 * x6)) + x5) ∧ Q (zI (((65536 * x7) + (256 * x6)) + x5)) M) ∧
    (¬ (x7 : Int) ≠ 0 →
      Q (zI 0) M)) ∧
  (¬ (x8 : Int) ≥ (M 55 21) →
    (0 : Int) ≤ x8 ∧ (x8 : Int) < 92 ∧ ∃ Q1, zCi d 131 [.inr (.inr 55), .inl (M 69 x8.toNat), .inr (.inr a1), .inl x2, .inl x4] M Q1 ∧ ∀ v1 M1, Q1 v1 M1 →
    ((v1 : Int) = 0 →
      zR32 (x8 + 1) ∧ zBg (d + 1) 133 19 [zR 55, zR a1, zI x2, none, zI x4, zI x5, zI x6, zI x7, zI (x8 + 1)] [] M1 Q) ∧
    (¬ (v1 : Int) = 0 →
      (0 : Int) ≤ x8 ∧ (x8 : Int) < 92 ∧ (0 : Int) ≤ x8 ∧ (x8 : Int) < 92 ∧ zR32 (x7 + 1) ∧ zR32 (x8 + 1) ∧ zBg (d + 1) 133 19 [zR 55, zR a1, zI x2, none, zI x4, zI (ziand x5 (M1 69 x8.toNat)), zI (zior x6 (M1 69 x8.toNat)), zI (x7 + 1), zI (x8 + 1)] [] M1 Q))) : zBg (d + 1) 133 19 [zR 55, zR a1, zI x2, none, zI x4, zI x5, zI x6, zI x7, zI x8] [] M Q :=
  zvc_ok (I := zm133) (cuts := [(19, [true, true, true, false, true, true, true, true, true])]) (n := 61) rfl h
theorem zk133 {d : Nat} {M : zMem} {Q : Option zV → zMem → Prop} {a1 : Nat} {x2 : Int} {x3 : Int} {x4 : Int} (h : zBg d 133 0 [zR 55, zR a1, zI x2, zI x3, zI x4, none, none, none, none] [] M Q) : zCt d 133 [.inr (.inr 55), .inr (.inr a1), .inl x2, .inl x3, .inl x4] M Q := zCt_of (I := zm133) rfl rfl h
/-! CommaCopiesModel.count(I)I , as 134 -/
set_option maxRecDepth 20000 in
theorem zv134_0 {d : Nat} {M : zMem} {Q : Option zV → zMem → Prop} (x1 : Int) (h :
  zBg d 134 4 [zR 55, zI x1, zI 0, zI 0] [] M Q) : zBg d 134 0 [zR 55, zI x1, none, none] [] M Q :=
  zvc_ok (I := zm134) (cuts := [(4, [true, true, true, true])]) (n := 57) rfl h
set_option maxRecDepth 20000 in
theorem zv134_4 {d : Nat} {M : zMem} {Q : Option zV → zMem → Prop} (x1 : Int) (x2 : Int) (x3 : Int) (h :
  ((x3 : Int) ≥ (M 55 4) →
    ((x1 = 0 →
      Q (zI (M 55 4)) M) ∧ (x1 = 1 →
      Q (zI (M 55 12)) M) ∧ (x1 = 2 →
      Q (zI (M 55 17)) M) ∧ (x1 = 3 →
      Q (zI (M 55 2)) M) ∧ (x1 = 4 →
      ∃ Q1, zCi d 133 [.inr (.inr 55), .inr (.inr 66), .inl 0, .inl (M 55 14), .inl (M 55 15)] M Q1 ∧ ∀ v1 M1, Q1 v1 M1 →
      (65536 : Int) ≠ 0 ∧ Q (zI (zidiv v1 65536)) M1) ∧ (x1 = 5 →
      Q (zI x2) M) ∧ True) ∧ ((x1 < 0 ∨ 5 < x1) →
      Q (zI (-1)) M)) ∧
  (¬ (x3 : Int) ≥ (M 55 4) →
    (0 : Int) ≤ x3 ∧ (x3 : Int) < 6 ∧ ((M 66 x3.toNat : Int) ≠ 5 →
      zR32 (x2 + 0) ∧ zR32 (x3 + 1) ∧ zBg (d + 1) 134 4 [zR 55, zI x1, zI (x2 + 0), zI (x3 + 1)] [] M Q) ∧
    (¬ (M 66 x3.toNat : Int) ≠ 5 →
      zR32 (x2 + 1) ∧ zR32 (x3 + 1) ∧ zBg (d + 1) 134 4 [zR 55, zI x1, zI (x2 + 1), zI (x3 + 1)] [] M Q))) : zBg (d + 1) 134 4 [zR 55, zI x1, zI x2, zI x3] [] M Q :=
  zvc_ok (I := zm134) (cuts := [(4, [true, true, true, true])]) (n := 57) rfl h
theorem zk134 {d : Nat} {M : zMem} {Q : Option zV → zMem → Prop} {x1 : Int} (h : zBg d 134 0 [zR 55, zI x1, none, none] [] M Q) : zCt d 134 [.inr (.inr 55), .inl x1] M Q := zCt_of (I := zm134) rfl rfl h
/-! CommaCopiesModel.print(II)I , as 135 -/
set_option maxRecDepth 20000 in
theorem zv135_0 {d : Nat} {M : zMem} {Q : Option zV → zMem → Prop} (x1 : Int) (x2 : Int) (h :
  ∃ Q1, zCi d 115 [.inr (.inr 55), .inl x1] M Q1 ∧ ∀ v1 M1, Q1 v1 M1 →
  ((v1 : Int) = 0 →
    Q (zI (-1)) M1) ∧
  (¬ (v1 : Int) = 0 →
    ∃ Q2, zCi d 110 [.inr (.inl x2), .inr (.inl 0), .inr (.inl 5)] M1 Q2 ∧ ∀ v2 M2, Q2 v2 M2 →
    ((v2 : Int) = 0 →
      Q (zI (-1)) M2) ∧
    (¬ (v2 : Int) = 0 →
      ((x2 : Int) ≥ 4 →
        (0 : Int) ≤ x1 ∧ (x1 : Int) < 6 ∧ (0 : Int) ≤ x1 ∧ (x1 : Int) < 6 ∧ Q (zI (M2 66 x1.toNat)) (zup M2 66 x1.toNat x2)) ∧
      (¬ (x2 : Int) ≥ 4 →
        ∃ Q3, zCi d 116 [.inr (.inr 55), .inl x1, .inl x2] M2 Q3 ∧ ∀ v3 M3, Q3 v3 M3 →
        ((v3 : Int) ≠ 0 →
          (0 : Int) ≤ x1 ∧ (x1 : Int) < 6 ∧ (0 : Int) ≤ x1 ∧ (x1 : Int) < 6 ∧ Q (zI (M3 66 x1.toNat)) (zup M3 66 x1.toNat x2)) ∧
        (¬ (v3 : Int) ≠ 0 →
          Q (zI (-1)) M3))))) : zBg (d + 1) 135 0 [zR 55, zI x1, zI x2, none] [] M Q :=
  zvc_ok (I := zm135) (cuts := []) (n := 37) rfl h
theorem zk135 {d : Nat} {M : zMem} {Q : Option zV → zMem → Prop} {x1 : Int} {x2 : Int} (h : zBg d 135 0 [zR 55, zI x1, zI x2, none] [] M Q) : zCt d 135 [.inr (.inr 55), .inl x1, .inl x2] M Q := zCt_of (I := zm135) rfl rfl h
/-! CommaCopiesModel.goesOn(Z)Z , as 136 -/
set_option maxRecDepth 20000 in
theorem zv136_0 {d : Nat} {M : zMem} {Q : Option zV → zMem → Prop} (x1 : Int) (h :
  zR32 ((M 55 4) - 1) ∧ zBg d 136 7 [zR 55, zI x1, zI ((M 55 4) - 1)] [] M Q) : zBg d 136 0 [zR 55, zI x1, none] [] M Q :=
  zvc_ok (I := zm136) (cuts := [(7, [true, true, true])]) (n := 63) rfl h
set_option maxRecDepth 20000 in
theorem zv136_7 {d : Nat} {M : zMem} {Q : Option zV → zMem → Prop} (x1 : Int) (x2 : Int) (h :
  ((x2 : Int) < 0 →
    ((x2 : Int) ≥ 0 →
      (0 : Int) ≤ x2 ∧ (x2 : Int) < 6 ∧ zR32 ((M 70 x2.toNat) + 1) ∧ (0 : Int) ≤ x2 ∧ (x2 : Int) < 6 ∧ (((M 70 x2.toNat) + 1 : Int) < (M 60 x2.toNat) →
        (0 : Int) ≤ x2 ∧ (x2 : Int) < 6 ∧ zR32 ((M 70 x2.toNat) + 1) ∧ (0 : Int) ≤ x2 ∧ (x2 : Int) < 6 ∧ ((1 : Int) = 0 ∨ (1 : Int) = 1) ∧ Q (zI 1) (zup M 70 x2.toNat ((M 70 x2.toNat) + 1))) ∧
      (¬ ((M 70 x2.toNat) + 1 : Int) < (M 60 x2.toNat) →
        (0 : Int) ≤ x2 ∧ (x2 : Int) < 6 ∧ ((1 : Int) = 0 ∨ (1 : Int) = 1) ∧ Q (zI 1) (zup M 70 x2.toNat 4))) ∧
    (¬ (x2 : Int) ≥ 0 →
      ((0 : Int) = 0 ∨ (0 : Int) = 1) ∧ Q (zI 0) M)) ∧
  (¬ (x2 : Int) < 0 →
    (0 : Int) ≤ x2 ∧ (x2 : Int) < 6 ∧ ((x1 : Int) = 0 →
      (0 : Int) ≤ x2 ∧ (x2 : Int) < 6 ∧ zR32 ((M 60 x2.toNat) - 1) ∧ ((M 70 x2.toNat : Int) ≠ ((M 60 x2.toNat) - 1) →
        ((x2 : Int) ≥ 0 →
          (0 : Int) ≤ x2 ∧ (x2 : Int) < 6 ∧ zR32 ((M 70 x2.toNat) + 1) ∧ (0 : Int) ≤ x2 ∧ (x2 : Int) < 6 ∧ (((M 70 x2.toNat) + 1 : Int) < (M 60 x2.toNat) →
            (0 : Int) ≤ x2 ∧ (x2 : Int) < 6 ∧ zR32 ((M 70 x2.toNat) + 1) ∧ (0 : Int) ≤ x2 ∧ (x2 : Int) < 6 ∧ ((1 : Int) = 0 ∨ (1 : Int) = 1) ∧ Q (zI 1) (zup M 70 x2.toNat ((M 70 x2.toNat) + 1))) ∧
          (¬ ((M 70 x2.toNat) + 1 : Int) < (M 60 x2.toNat) →
            (0 : Int) ≤ x2 ∧ (x2 : Int) < 6 ∧ ((1 : Int) = 0 ∨ (1 : Int) = 1) ∧ Q (zI 1) (zup M 70 x2.toNat 4))) ∧
        (¬ (x2 : Int) ≥ 0 →
          ((0 : Int) = 0 ∨ (0 : Int) = 1) ∧ Q (zI 0) M)) ∧
      (¬ (M 70 x2.toNat : Int) ≠ ((M 60 x2.toNat) - 1) →
        (0 : Int) ≤ x2 ∧ (x2 : Int) < 6 ∧ zR32 (x2 + (-1)) ∧ zBg d 136 7 [zR 55, zI x1, zI (x2 + (-1))] [] (zup M 70 x2.toNat 0) Q)) ∧
    (¬ (x1 : Int) = 0 →
      ((M 70 x2.toNat : Int) ≠ 4 →
        ((x2 : Int) ≥ 0 →
          (0 : Int) ≤ x2 ∧ (x2 : Int) < 6 ∧ zR32 ((M 70 x2.toNat) + 1) ∧ (0 : Int) ≤ x2 ∧ (x2 : Int) < 6 ∧ (((M 70 x2.toNat) + 1 : Int) < (M 60 x2.toNat) →
            (0 : Int) ≤ x2 ∧ (x2 : Int) < 6 ∧ zR32 ((M 70 x2.toNat) + 1) ∧ (0 : Int) ≤ x2 ∧ (x2 : Int) < 6 ∧ ((1 : Int) = 0 ∨ (1 : Int) = 1) ∧ Q (zI 1) (zup M 70 x2.toNat ((M 70 x2.toNat) + 1))) ∧
          (¬ ((M 70 x2.toNat) + 1 : Int) < (M 60 x2.toNat) →
            (0 : Int) ≤ x2 ∧ (x2 : Int) < 6 ∧ ((1 : Int) = 0 ∨ (1 : Int) = 1) ∧ Q (zI 1) (zup M 70 x2.toNat 4))) ∧
        (¬ (x2 : Int) ≥ 0 →
          ((0 : Int) = 0 ∨ (0 : Int) = 1) ∧ Q (zI 0) M)) ∧
      (¬ (M 70 x2.toNat : Int) ≠ 4 →
        (0 : Int) ≤ x2 ∧ (x2 : Int) < 6 ∧ zR32 (x2 + (-1)) ∧ zBg d 136 7 [zR 55, zI x1, zI (x2 + (-1))] [] (zup M 70 x2.toNat 0) Q)))) : zBg d 136 7 [zR 55, zI x1, zI x2] [] M Q :=
  zvc_ok (I := zm136) (cuts := [(7, [true, true, true])]) (n := 63) rfl h
theorem zk136 {d : Nat} {M : zMem} {Q : Option zV → zMem → Prop} {x1 : Int} (h : zBg d 136 0 [zR 55, zI x1, none] [] M Q) : zCt d 136 [.inr (.inr 55), .inl x1] M Q := zCt_of (I := zm136) rfl rfl h
/-! CommaCopiesModel.begins()V , as 137 -/
set_option maxRecDepth 20000 in
theorem zv137_0 {d : Nat} {M : zMem} {Q : Option zV → zMem → Prop} (h :
  zBg d 137 2 [zR 55, zI 0] [] M Q) : zBg d 137 0 [zR 55, none] [] M Q :=
  zvc_ok (I := zm137) (cuts := [(2, [true, true])]) (n := 18) rfl h
set_option maxRecDepth 20000 in
theorem zv137_2 {d : Nat} {M : zMem} {Q : Option zV → zMem → Prop} (x1 : Int) (h :
  ((x1 : Int) ≥ 6 →
    Q none M) ∧
  (¬ (x1 : Int) ≥ 6 →
    (0 : Int) ≤ x1 ∧ (x1 : Int) < 6 ∧ zR32 (x1 + 1) ∧ zBg d 137 2 [zR 55, zI (x1 + 1)] [] (zup M 70 x1.toNat 0) Q)) : zBg d 137 2 [zR 55, zI x1] [] M Q :=
  zvc_ok (I := zm137) (cuts := [(2, [true, true])]) (n := 18) rfl h
theorem zk137 {d : Nat} {M : zMem} {Q : Option zV → zMem → Prop} (h : zBg d 137 0 [zR 55, none] [] M Q) : zCt d 137 [.inr (.inr 55)] M Q := zCt_of (I := zm137) rfl rfl h
/-! CommaCopiesModel.printed()I , as 138 -/
set_option maxRecDepth 20000 in
theorem zv138_0 {d : Nat} {M : zMem} {Q : Option zV → zMem → Prop} (h :
  ((M 55 2 : Int) ≠ 0 →
    ∃ Q1, zCv d 137 [.inr (.inr 55)] (zup M 55 1 0) Q1 ∧ ∀ M1, Q1 M1 →
    zBg (d + 1) 138 26 [zR 55, zI (M 55 1), zI 1, none, none] [] M1 Q) ∧
  (¬ (M 55 2 : Int) ≠ 0 →
    Q (zI (-2)) (zup M 55 1 0))) : zBg (d + 1) 138 0 [zR 55, none, none, none, none] [] M Q :=
  zvc_ok (I := zm138) (cuts := [(26, [true, true, true, false, false]), (52, [true, true, false, true, true]), (98, [true, false, false, false, true])]) (n := 82) rfl h
set_option maxRecDepth 20000 in
theorem zv138_26 {d : Nat} {M : zMem} {Q : Option zV → zMem → Prop} (x1 : Int) (x2 : Int) (h :
  ((x2 : Int) = 0 →
    Q (zI (-4)) M) ∧
  (¬ (x2 : Int) = 0 →
    ∃ Q1, zCi d 124 [.inr (.inr 55), .inr (.inr 70), .inl 0] M Q1 ∧ ∀ v1 M1, Q1 v1 M1 →
    ((v1 : Int) ≠ x1 →
      zBg (d + 1) 138 52 [zR 55, zI x1, none, zI 0, zI 0] [] M1 Q) ∧
    (¬ (v1 : Int) ≠ x1 →
      zBg (d + 1) 138 52 [zR 55, zI x1, none, zI 1, zI 0] [] M1 Q))) : zBg (d + 1) 138 26 [zR 55, zI x1, zI x2, none, none] [] M Q :=
  zvc_ok (I := zm138) (cuts := [(26, [true, true, true, false, false]), (52, [true, true, false, true, true]), (98, [true, false, false, false, true])]) (n := 82) rfl h
set_option maxRecDepth 20000 in
theorem zv138_52 {d : Nat} {M : zMem} {Q : Option zV → zMem → Prop} (x1 : Int) (x3 : Int) (x4 : Int) (h :
  ((x4 : Int) ≥ x1 →
    ((x3 : Int) = 0 →
      ∃ Q1, zCi d 136 [.inr (.inr 55), .inl 1] M Q1 ∧ ∀ v1 M1, Q1 v1 M1 →
      zBg (d + 1) 138 26 [zR 55, zI x1, zI v1, none, none] [] M1 Q) ∧
    (¬ (x3 : Int) = 0 →
      zBg (d + 1) 138 98 [zR 55, none, none, none, zI 0] [] M Q)) ∧
  (¬ (x4 : Int) ≥ x1 →
    ((x3 : Int) = 0 →
      ((x3 : Int) = 0 →
        ∃ Q2, zCi d 136 [.inr (.inr 55), .inl 1] M Q2 ∧ ∀ v2 M2, Q2 v2 M2 →
        zBg (d + 1) 138 26 [zR 55, zI x1, zI v2, none, none] [] M2 Q) ∧
      (¬ (x3 : Int) = 0 →
        zBg (d + 1) 138 98 [zR 55, none, none, none, zI 0] [] M Q)) ∧
    (¬ (x3 : Int) = 0 →
      (0 : Int) ≤ x4 ∧ (x4 : Int) < 240 ∧ (0 : Int) ≤ x4 ∧ (x4 : Int) < 120 ∧ ((M 68 x4.toNat : Int) ≠ (M 56 x4.toNat) →
        zR32 (x4 + 1) ∧ zBg (d + 1) 138 52 [zR 55, zI x1, none, zI 0, zI (x4 + 1)] [] M Q) ∧
      (¬ (M 68 x4.toNat : Int) ≠ (M 56 x4.toNat) →
        zR32 (x4 + 1) ∧ zBg (d + 1) 138 52 [zR 55, zI x1, none, zI 1, zI (x4 + 1)] [] M Q)))) : zBg (d + 1) 138 52 [zR 55, zI x1, none, zI x3, zI x4] [] M Q :=
  zvc_ok (I := zm138) (cuts := [(26, [true, true, true, false, false]), (52, [true, true, false, true, true]), (98, [true, false, false, false, true])]) (n := 82) rfl h
set_option maxRecDepth 20000 in
theorem zv138_98 {d : Nat} {M : zMem} {Q : Option zV → zMem → Prop} (x4 : Int) (h :
  ((x4 : Int) ≥ (M 55 4) →
    Q (zI 1) M) ∧
  (¬ (x4 : Int) ≥ (M 55 4) →
    (0 : Int) ≤ x4 ∧ (x4 : Int) < 6 ∧ (0 : Int) ≤ x4 ∧ (x4 : Int) < 6 ∧ zR32 (x4 + 1) ∧ zBg d 138 98 [zR 55, none, none, none, zI (x4 + 1)] [] (zup M 66 x4.toNat (M 70 x4.toNat)) Q)) : zBg d 138 98 [zR 55, none, none, none, zI x4] [] M Q :=
  zvc_ok (I := zm138) (cuts := [(26, [true, true, true, false, false]), (52, [true, true, false, true, true]), (98, [true, false, false, false, true])]) (n := 82) rfl h
theorem zk138 {d : Nat} {M : zMem} {Q : Option zV → zMem → Prop} (h : zBg d 138 0 [zR 55, none, none, none, none] [] M Q) : zCt d 138 [.inr (.inr 55)] M Q := zCt_of (I := zm138) rfl rfl h
/-! CommaCopiesModel.isSet(I)Z , as 139 -/
set_option maxRecDepth 20000 in
theorem zv139_0 {d : Nat} {M : zMem} {Q : Option zV → zMem → Prop} (x1 : Int) (h :
  zR32 ((zishl 1 (M 55 12)) - 1) ∧ ∃ Q1, zCi d 110 [.inr (.inl x1), .inr (.inl 1), .inr (.inl ((zishl 1 (M 55 12)) - 1))] M Q1 ∧ ∀ v1 M1, Q1 v1 M1 →
  ((v1 : Int) = 0 ∨ (v1 : Int) = 1) ∧ Q (zI v1) M1) : zBg (d + 1) 139 0 [zR 55, zI x1] [] M Q :=
  zvc_ok (I := zm139) (cuts := []) (n := 17) rfl h
theorem zk139 {d : Nat} {M : zMem} {Q : Option zV → zMem → Prop} {x1 : Int} (h : zBg d 139 0 [zR 55, zI x1] [] M Q) : zCt d 139 [.inr (.inr 55), .inl x1] M Q := zCt_of (I := zm139) rfl rfl h
/-! CommaCopiesModel.could(I)I , as 140 -/
set_option maxRecDepth 20000 in
theorem zv140_0 {d : Nat} {M : zMem} {Q : Option zV → zMem → Prop} (x1 : Int) (h :
  ∃ Q1, zCi d 139 [.inr (.inr 55), .inl x1] M Q1 ∧ ∀ v1 M1, Q1 v1 M1 →
  ((v1 : Int) = 0 →
    Q (zI (-1)) M1) ∧
  (¬ (v1 : Int) = 0 →
    ∃ Q2, zCi d 131 [.inr (.inr 55), .inl x1, .inr (.inr 66), .inl 0, .inl (M1 55 15)] M1 Q2 ∧ ∀ v2 M2, Q2 v2 M2 →
    ((v2 : Int) = 0 →
      Q (zI 0) M2) ∧
    (¬ (v2 : Int) = 0 →
      Q (zI 1) M2))) : zBg (d + 1) 140 0 [zR 55, zI x1] [] M Q :=
  zvc_ok (I := zm140) (cuts := []) (n := 24) rfl h
theorem zk140 {d : Nat} {M : zMem} {Q : Option zV → zMem → Prop} {x1 : Int} (h : zBg d 140 0 [zR 55, zI x1] [] M Q) : zCt d 140 [.inr (.inr 55), .inl x1] M Q := zCt_of (I := zm140) rfl rfl h
/-! CommaCopiesModel.maker(I)I , as 141 -/
set_option maxRecDepth 20000 in
theorem zv141_0 {d : Nat} {M : zMem} {Q : Option zV → zMem → Prop} (x1 : Int) (h :
  ((x1 : Int) ≥ 0 →
    ∃ Q1, zCv d 132 [.inr (.inr 55), .inl (M 55 14)] M Q1 ∧ ∀ M1, Q1 M1 →
    zBg (d + 1) 141 18 [zR 55, zI x1, zI 0, zI 0] [] M1 Q) ∧
  (¬ (x1 : Int) ≥ 0 →
    Q (zI (-1)) M)) : zBg (d + 1) 141 0 [zR 55, zI x1, none, none] [] M Q :=
  zvc_ok (I := zm141) (cuts := [(18, [true, true, true, true])]) (n := 46) rfl h
set_option maxRecDepth 20000 in
theorem zv141_18 {d : Nat} {M : zMem} {Q : Option zV → zMem → Prop} (x1 : Int) (x2 : Int) (x3 : Int) (h :
  ((x3 : Int) ≥ (M 55 21) →
    Q (zI (-4)) M) ∧
  (¬ (x3 : Int) ≥ (M 55 21) →
    (0 : Int) ≤ x3 ∧ (x3 : Int) < 92 ∧ ∃ Q1, zCi d 131 [.inr (.inr 55), .inl (M 69 x3.toNat), .inr (.inr 66), .inl 0, .inl (M 55 15)] M Q1 ∧ ∀ v1 M1, Q1 v1 M1 →
    ((v1 : Int) = 0 →
      zR32 (x3 + 1) ∧ zBg (d + 1) 141 18 [zR 55, zI x1, zI x2, zI (x3 + 1)] [] M1 Q) ∧
    (¬ (v1 : Int) = 0 →
      ((x2 : Int) ≠ x1 →
        zR32 (x2 + 1) ∧ zR32 (x3 + 1) ∧ zBg (d + 1) 141 18 [zR 55, zI x1, zI (x2 + 1), zI (x3 + 1)] [] M1 Q) ∧
      (¬ (x2 : Int) ≠ x1 →
        (0 : Int) ≤ x3 ∧ (x3 : Int) < 92 ∧ Q (zI (M1 69 x3.toNat)) M1)))) : zBg (d + 1) 141 18 [zR 55, zI x1, zI x2, zI x3] [] M Q :=
  zvc_ok (I := zm141) (cuts := [(18, [true, true, true, true])]) (n := 46) rfl h
theorem zk141 {d : Nat} {M : zMem} {Q : Option zV → zMem → Prop} {x1 : Int} (h : zBg d 141 0 [zR 55, zI x1, none, none] [] M Q) : zCt d 141 [.inr (.inr 55), .inl x1] M Q := zCt_of (I := zm141) rfl rfl h
/-! CommaCopiesModel.blamed(I)I , as 142 -/
set_option maxRecDepth 20000 in
theorem zv142_0 {d : Nat} {M : zMem} {Q : Option zV → zMem → Prop} (x1 : Int) (h :
  ∃ Q1, zCi d 110 [.inr (.inl x1), .inr (.inl 0), .inr (.inl 1)] M Q1 ∧ ∀ v1 M1, Q1 v1 M1 →
  ((v1 : Int) ≠ 0 →
    ∃ Q2, zCi d 133 [.inr (.inr 55), .inr (.inr 66), .inl 0, .inl (M1 55 14), .inl (M1 55 15)] M1 Q2 ∧ ∀ v2 M2, Q2 v2 M2 →
    ((x1 : Int) ≠ 0 →
      Q (zI (ziand (zishr v2 8) 255)) M2) ∧
    (¬ (x1 : Int) ≠ 0 →
      Q (zI (ziand v2 255)) M2)) ∧
  (¬ (v1 : Int) ≠ 0 →
    Q (zI (-1)) M1)) : zBg (d + 1) 142 0 [zR 55, zI x1, none] [] M Q :=
  zvc_ok (I := zm142) (cuts := []) (n := 35) rfl h
theorem zk142 {d : Nat} {M : zMem} {Q : Option zV → zMem → Prop} {x1 : Int} (h : zBg d 142 0 [zR 55, zI x1, none] [] M Q) : zCt d 142 [.inr (.inr 55), .inl x1] M Q := zCt_of (I := zm142) rfl rfl h
/-! CommaCopiesModel.lowest(I)I , as 143 -/
set_option maxRecDepth 20000 in
theorem zv143_0 {d : Nat} {M : zMem} {Q : Option zV → zMem → Prop} (x0 : Int) (h :
  zBg d 143 2 [zI x0, zI 0] [] M Q) : zBg d 143 0 [zI x0, none] [] M Q :=
  zvc_ok (I := zm143) (cuts := [(2, [true, true])]) (n := 20) rfl h
set_option maxRecDepth 20000 in
theorem zv143_2 {d : Nat} {M : zMem} {Q : Option zV → zMem → Prop} (x0 : Int) (x1 : Int) (h :
  ((x1 : Int) ≥ 31 →
    Q (zI x1) M) ∧
  (¬ (x1 : Int) ≥ 31 →
    ((ziand (zishr x0 x1) 1 : Int) ≠ 0 →
      Q (zI x1) M) ∧
    (¬ (ziand (zishr x0 x1) 1 : Int) ≠ 0 →
      zR32 (x1 + 1) ∧ zBg d 143 2 [zI x0, zI (x1 + 1)] [] M Q))) : zBg d 143 2 [zI x0, zI x1] [] M Q :=
  zvc_ok (I := zm143) (cuts := [(2, [true, true])]) (n := 20) rfl h
theorem zk143 {d : Nat} {M : zMem} {Q : Option zV → zMem → Prop} {x0 : Int} (h : zBg d 143 0 [zI x0, none] [] M Q) : zCt d 143 [.inl x0] M Q := zCt_of (I := zm143) rfl rfl h
/-! CommaCopiesModel.unjust(I)I , as 144 -/
set_option maxRecDepth 20000 in
theorem zv144_0 {d : Nat} {M : zMem} {Q : Option zV → zMem → Prop} (x1 : Int) (h :
  ∃ Q1, zCi d 139 [.inr (.inr 55), .inl x1] M Q1 ∧ ∀ v1 M1, Q1 v1 M1 →
  ((v1 : Int) ≠ 0 →
    ∃ Q2, zCi d 133 [.inr (.inr 55), .inr (.inr 66), .inl 0, .inl (M1 55 14), .inl (M1 55 15)] M1 Q2 ∧ ∀ v2 M2, Q2 v2 M2 →
    ((v2 : Int) ≠ 0 →
      ((ziand x1 (zixor (ziand v2 255) (-1)) : Int) ≠ 0 →
        ∃ Q3, zCi d 143 [.inl (ziand x1 (zixor (ziand v2 255) (-1)))] M2 Q3 ∧ ∀ v3 M3, Q3 v3 M3 →
        Q (zI v3) M3) ∧
      (¬ (ziand x1 (zixor (ziand v2 255) (-1)) : Int) ≠ 0 →
        Q (zI (-4)) M2)) ∧
    (¬ (v2 : Int) ≠ 0 →
      Q (zI (-2)) M2)) ∧
  (¬ (v1 : Int) ≠ 0 →
    Q (zI (-1)) M1)) : zBg (d + 1) 144 0 [zR 55, zI x1, none, none] [] M Q :=
  zvc_ok (I := zm144) (cuts := []) (n := 40) rfl h
theorem zk144 {d : Nat} {M : zMem} {Q : Option zV → zMem → Prop} {x1 : Int} (h : zBg d 144 0 [zR 55, zI x1, none, none] [] M Q) : zCt d 144 [.inr (.inr 55), .inl x1] M Q := zCt_of (I := zm144) rfl rfl h
/-! CommaCopiesModel.laysCans()V , as 145 -/
set_option maxRecDepth 20000 in
theorem zv145_0 {d : Nat} {M : zMem} {Q : Option zV → zMem → Prop} (h :
  ∃ Q1, zCv d 132 [.inr (.inr 55), .inl (M 55 14)] M Q1 ∧ ∀ M1, Q1 M1 →
  zBg (d + 1) 145 10 [zR 55, zI 0, none] [] M1 Q) : zBg (d + 1) 145 0 [zR 55, none, none] [] M Q :=
  zvc_ok (I := zm145) (cuts := [(10, [true, true, false]), (20, [true, true, true])]) (n := 43) rfl h
set_option maxRecDepth 20000 in
theorem zv145_10 {d : Nat} {M : zMem} {Q : Option zV → zMem → Prop} (x1 : Int) (h :
  ((x1 : Int) ≥ (M 55 21) →
    Q none M) ∧
  (¬ (x1 : Int) ≥ (M 55 21) →
    zBg d 145 20 [zR 55, zI x1, zI 0] [] M Q)) : zBg d 145 10 [zR 55, zI x1, none] [] M Q :=
  zvc_ok (I := zm145) (cuts := [(10, [true, true, false]), (20, [true, true, true])]) (n := 43) rfl h
set_option maxRecDepth 20000 in
theorem zv145_20 {d : Nat} {M : zMem} {Q : Option zV → zMem → Prop} (x1 : Int) (x2 : Int) (h :
  ((x2 : Int) ≥ (M 55 4) →
    zR32 (x1 + 1) ∧ zBg (d + 1) 145 10 [zR 55, zI (x1 + 1), none] [] M Q) ∧
  (¬ (x2 : Int) ≥ (M 55 4) →
    zR32 (6 * x1) ∧ zR32 ((6 * x1) + x2) ∧ (0 : Int) ≤ x1 ∧ (x1 : Int) < 92 ∧ ∃ Q1, zCi d 130 [.inr (.inr 55), .inl (M 69 x1.toNat), .inl x2, .inl (M 55 15)] M Q1 ∧ ∀ v1 M1, Q1 v1 M1 →
    (0 : Int) ≤ ((6 * x1) + x2) ∧ ((6 * x1) + x2 : Int) < 552 ∧ zR32 (x2 + 1) ∧ zBg (d + 1) 145 20 [zR 55, zI x1, zI (x2 + 1)] [] (zup M1 71 (((6 * x1) + x2).toNat) v1) Q)) : zBg (d + 1) 145 20 [zR 55, zI x1, zI x2] [] M Q :=
  zvc_ok (I := zm145) (cuts := [(10, [true, true, false]), (20, [true, true, true])]) (n := 43) rfl h
theorem zk145 {d : Nat} {M : zMem} {Q : Option zV → zMem → Prop} (h : zBg d 145 0 [zR 55, none, none] [] M Q) : zCt d 145 [.inr (.inr 55)] M Q := zCt_of (I := zm145) rfl rfl h
/-! CommaCopiesModel.isUnframed(I)Z , as 146 -/
set_option maxRecDepth 20000 in
theorem zv146_0 {d : Nat} {M : zMem} {Q : Option zV → zMem → Prop} (x1 : Int) (h :
  zBg d 146 2 [zR 55, zI x1, zI 0, none, none, none] [] M Q) : zBg d 146 0 [zR 55, zI x1, none, none, none, none] [] M Q :=
  zvc_ok (I := zm146) (cuts := [(2, [true, true, true, false, false, false]), (12, [true, true, true, true, false, false]), (43, [true, true, true, true, true, true])]) (n := 90) rfl h
set_option maxRecDepth 20000 in
theorem zv146_2 {d : Nat} {M : zMem} {Q : Option zV → zMem → Prop} (x1 : Int) (x2 : Int) (h :
  ((x2 : Int) ≥ (M 55 21) →
    ((1 : Int) = 0 ∨ (1 : Int) = 1) ∧ Q (zI 1) M) ∧
  (¬ (x2 : Int) ≥ (M 55 21) →
    zBg d 146 12 [zR 55, zI x1, zI x2, zI 0, none, none] [] M Q)) : zBg d 146 2 [zR 55, zI x1, zI x2, none, none, none] [] M Q :=
  zvc_ok (I := zm146) (cuts := [(2, [true, true, true, false, false, false]), (12, [true, true, true, true, false, false]), (43, [true, true, true, true, true, true])]) (n := 90) rfl h
set_option maxRecDepth 20000 in
theorem zv146_12 {d : Nat} {M : zMem} {Q : Option zV → zMem → Prop} (x1 : Int) (x2 : Int) (x3 : Int) (h :
  ((x3 : Int) ≥ (M 55 12) →
    zR32 (x2 + 1) ∧ zBg d 146 2 [zR 55, zI x1, zI (x2 + 1), none, none, none] [] M Q) ∧
  (¬ (x3 : Int) ≥ (M 55 12) →
    (0 : Int) ≤ x2 ∧ (x2 : Int) < 92 ∧ ((ziand (zishr (M 69 x2.toNat) x3) 1 : Int) ≠ 0 →
      zBg d 146 43 [zR 55, zI x1, zI x2, zI x3, zI 0, zI 0] [] M Q) ∧
    (¬ (ziand (zishr (M 69 x2.toNat) x3) 1 : Int) ≠ 0 →
      zBg d 146 43 [zR 55, zI x1, zI x2, zI x3, zI 1, zI 0] [] M Q))) : zBg d 146 12 [zR 55, zI x1, zI x2, zI x3, none, none] [] M Q :=
  zvc_ok (I := zm146) (cuts := [(2, [true, true, true, false, false, false]), (12, [true, true, true, true, false, false]), (43, [true, true, true, true, true, true])]) (n := 90) rfl h
set_option maxRecDepth 20000 in
theorem zv146_43 {d : Nat} {M : zMem} {Q : Option zV → zMem → Prop} (x1 : Int) (x2 : Int) (x3 : Int) (x4 : Int) (x5 : Int) (h :
  ((x5 : Int) ≥ (M 55 4) →
    ((x4 : Int) = 0 →
      zR32 (x3 + 1) ∧ zBg d 146 12 [zR 55, zI x1, zI x2, zI (x3 + 1), none, none] [] M Q) ∧
    (¬ (x4 : Int) = 0 →
      (0 : Int) ≤ x2 ∧ (x2 : Int) < 92 ∧ ((0 : Int) = 0 ∨ (0 : Int) = 1) ∧ Q (zI 0) (zup (zup M 55 24 (M 69 x2.toNat)) 55 25 x3))) ∧
  (¬ (x5 : Int) ≥ (M 55 4) →
    ((x4 : Int) = 0 →
      ((x4 : Int) = 0 →
        zR32 (x3 + 1) ∧ zBg d 146 12 [zR 55, zI x1, zI x2, zI (x3 + 1), none, none] [] M Q) ∧
      (¬ (x4 : Int) = 0 →
        (0 : Int) ≤ x2 ∧ (x2 : Int) < 92 ∧ ((0 : Int) = 0 ∨ (0 : Int) = 1) ∧ Q (zI 0) (zup (zup M 55 24 (M 69 x2.toNat)) 55 25 x3))) ∧
    (¬ (x4 : Int) = 0 →
      ((ziand (zishr x1 x5) 1 : Int) = 0 →
        zR32 (x5 + 1) ∧ zBg d 146 43 [zR 55, zI x1, zI x2, zI x3, zI 1, zI (x5 + 1)] [] M Q) ∧
      (¬ (ziand (zishr x1 x5) 1 : Int) = 0 →
        zR32 (6 * x2) ∧ zR32 ((6 * x2) + x5) ∧ (0 : Int) ≤ ((6 * x2) + x5) ∧ ((6 * x2) + x5 : Int) < 552 ∧ zR32 (6 * x3) ∧ zR32 ((6 * x3) + x5) ∧ (0 : Int) ≤ ((6 * x3) + x5) ∧ ((6 * x3) + x5 : Int) < 48 ∧ ((ziand (zishr (M 71 (((6 * x2) + x5).toNat)) (M 65 (((6 * x3) + x5).toNat))) 1 : Int) ≠ 1 →
          zR32 (x5 + 1) ∧ zBg d 146 43 [zR 55, zI x1, zI x2, zI x3, zI 0, zI (x5 + 1)] [] M Q) ∧
        (¬ (ziand (zishr (M 71 (((6 * x2) + x5).toNat)) (M 65 (((6 * x3) + x5).toNat))) 1 : Int) ≠ 1 →
          zR32 (x5 + 1) ∧ zBg d 146 43 [zR 55, zI x1, zI x2, zI x3, zI 1, zI (x5 + 1)] [] M Q))))) : zBg d 146 43 [zR 55, zI x1, zI x2, zI x3, zI x4, zI x5] [] M Q :=
  zvc_ok (I := zm146) (cuts := [(2, [true, true, true, false, false, false]), (12, [true, true, true, true, false, false]), (43, [true, true, true, true, true, true])]) (n := 90) rfl h
theorem zk146 {d : Nat} {M : zMem} {Q : Option zV → zMem → Prop} {x1 : Int} (h : zBg d 146 0 [zR 55, zI x1, none, none, none, none] [] M Q) : zCt d 146 [.inr (.inr 55), .inl x1] M Q := zCt_of (I := zm146) rfl rfl h
/-! CommaCopiesModel.areApart(I)Z , as 147 -/
set_option maxRecDepth 20000 in
theorem zv147_0 {d : Nat} {M : zMem} {Q : Option zV → zMem → Prop} (x1 : Int) (h :
  zBg d 147 2 [zR 55, zI x1, zI 0, none, none, none] [] M Q) : zBg d 147 0 [zR 55, zI x1, none, none, none, none] [] M Q :=
  zvc_ok (I := zm147) (cuts := [(2, [true, true, true, false, false, false]), (12, [true, true, true, true, false, false]), (46, [true, true, true, true, true, true])]) (n := 91) rfl h
set_option maxRecDepth 20000 in
theorem zv147_2 {d : Nat} {M : zMem} {Q : Option zV → zMem → Prop} (x1 : Int) (x2 : Int) (h :
  ((x2 : Int) ≥ (M 55 21) →
    ((1 : Int) = 0 ∨ (1 : Int) = 1) ∧ Q (zI 1) M) ∧
  (¬ (x2 : Int) ≥ (M 55 21) →
    zBg d 147 12 [zR 55, zI x1, zI x2, zI 0, none, none] [] M Q)) : zBg d 147 2 [zR 55, zI x1, zI x2, none, none, none] [] M Q :=
  zvc_ok (I := zm147) (cuts := [(2, [true, true, true, false, false, false]), (12, [true, true, true, true, false, false]), (46, [true, true, true, true, true, true])]) (n := 91) rfl h
set_option maxRecDepth 20000 in
theorem zv147_12 {d : Nat} {M : zMem} {Q : Option zV → zMem → Prop} (x1 : Int) (x2 : Int) (x3 : Int) (h :
  ((x3 : Int) ≥ (M 55 21) →
    zR32 (x2 + 1) ∧ zBg d 147 2 [zR 55, zI x1, zI (x2 + 1), none, none, none] [] M Q) ∧
  (¬ (x3 : Int) ≥ (M 55 21) →
    (0 : Int) ≤ x2 ∧ (x2 : Int) < 92 ∧ (0 : Int) ≤ x3 ∧ (x3 : Int) < 92 ∧ ((ziand (M 69 x2.toNat) (M 69 x3.toNat) : Int) ≠ 0 →
      zBg d 147 46 [zR 55, zI x1, zI x2, zI x3, zI 0, zI 0] [] M Q) ∧
    (¬ (ziand (M 69 x2.toNat) (M 69 x3.toNat) : Int) ≠ 0 →
      zBg d 147 46 [zR 55, zI x1, zI x2, zI x3, zI 1, zI 0] [] M Q))) : zBg d 147 12 [zR 55, zI x1, zI x2, zI x3, none, none] [] M Q :=
  zvc_ok (I := zm147) (cuts := [(2, [true, true, true, false, false, false]), (12, [true, true, true, true, false, false]), (46, [true, true, true, true, true, true])]) (n := 91) rfl h
set_option maxRecDepth 20000 in
theorem zv147_46 {d : Nat} {M : zMem} {Q : Option zV → zMem → Prop} (x1 : Int) (x2 : Int) (x3 : Int) (x4 : Int) (x5 : Int) (h :
  ((x5 : Int) ≥ (M 55 4) →
    ((x4 : Int) = 0 →
      zR32 (x3 + 1) ∧ zBg d 147 12 [zR 55, zI x1, zI x2, zI (x3 + 1), none, none] [] M Q) ∧
    (¬ (x4 : Int) = 0 →
      (0 : Int) ≤ x2 ∧ (x2 : Int) < 92 ∧ (0 : Int) ≤ x3 ∧ (x3 : Int) < 92 ∧ ((0 : Int) = 0 ∨ (0 : Int) = 1) ∧ Q (zI 0) (zup (zup M 55 24 (M 69 x2.toNat)) 55 25 (M 69 x3.toNat)))) ∧
  (¬ (x5 : Int) ≥ (M 55 4) →
    ((x4 : Int) = 0 →
      ((x4 : Int) = 0 →
        zR32 (x3 + 1) ∧ zBg d 147 12 [zR 55, zI x1, zI x2, zI (x3 + 1), none, none] [] M Q) ∧
      (¬ (x4 : Int) = 0 →
        (0 : Int) ≤ x2 ∧ (x2 : Int) < 92 ∧ (0 : Int) ≤ x3 ∧ (x3 : Int) < 92 ∧ ((0 : Int) = 0 ∨ (0 : Int) = 1) ∧ Q (zI 0) (zup (zup M 55 24 (M 69 x2.toNat)) 55 25 (M 69 x3.toNat)))) ∧
    (¬ (x4 : Int) = 0 →
      ((ziand (zishr x1 x5) 1 : Int) = 0 →
        zR32 (x5 + 1) ∧ zBg d 147 46 [zR 55, zI x1, zI x2, zI x3, zI 1, zI (x5 + 1)] [] M Q) ∧
      (¬ (ziand (zishr x1 x5) 1 : Int) = 0 →
        zR32 (6 * x2) ∧ zR32 ((6 * x2) + x5) ∧ (0 : Int) ≤ ((6 * x2) + x5) ∧ ((6 * x2) + x5 : Int) < 552 ∧ zR32 (6 * x3) ∧ zR32 ((6 * x3) + x5) ∧ (0 : Int) ≤ ((6 * x3) + x5) ∧ ((6 * x3) + x5 : Int) < 552 ∧ ((ziand (M 71 (((6 * x2) + x5).toNat)) (M 71 (((6 * x3) + x5).toNat)) : Int) = 0 →
          zR32 (x5 + 1) ∧ zBg d 147 46 [zR 55, zI x1, zI x2, zI x3, zI 0, zI (x5 + 1)] [] M Q) ∧
        (¬ (ziand (M 71 (((6 * x2) + x5).toNat)) (M 71 (((6 * x3) + x5).toNat)) : Int) = 0 →
          zR32 (x5 + 1) ∧ zBg d 147 46 [zR 55, zI x1, zI x2, zI x3, zI 1, zI (x5 + 1)] [] M Q))))) : zBg d 147 46 [zR 55, zI x1, zI x2, zI x3, zI x4, zI x5] [] M Q :=
  zvc_ok (I := zm147) (cuts := [(2, [true, true, true, false, false, false]), (12, [true, true, true, true, false, false]), (46, [true, true, true, true, true, true])]) (n := 91) rfl h
theorem zk147 {d : Nat} {M : zMem} {Q : Option zV → zMem → Prop} {x1 : Int} (h : zBg d 147 0 [zR 55, zI x1, none, none, none, none] [] M Q) : zCt d 147 [.inr (.inr 55), .inl x1] M Q := zCt_of (I := zm147) rfl rfl h
/-! CommaCopiesModel.areNamed(I)Z , as 148 -/
set_option maxRecDepth 20000 in
theorem zv148_0 {d : Nat} {M : zMem} {Q : Option zV → zMem → Prop} (x1 : Int) (h :
  ∃ Q1, zCv d 137 [.inr (.inr 55)] M Q1 ∧ ∀ M1, Q1 M1 →
  zBg (d + 1) 148 6 [zR 55, zI x1, zI 1, none, none, none, none] [] M1 Q) : zBg (d + 1) 148 0 [zR 55, zI x1, none, none, none, none, none] [] M Q :=
  zvc_ok (I := zm148) (cuts := [(6, [true, true, true, false, false, false, false]), (22, [true, true, false, true, true, false, false]), (37, [true, true, false, true, true, true, true])]) (n := 98) rfl h
set_option maxRecDepth 20000 in
theorem zv148_6 {d : Nat} {M : zMem} {Q : Option zV → zMem → Prop} (x1 : Int) (x2 : Int) (h :
  ((x2 : Int) = 0 →
    ((1 : Int) = 0 ∨ (1 : Int) = 1) ∧ Q (zI 1) M) ∧
  (¬ (x2 : Int) = 0 →
    zBg d 148 22 [zR 55, zI x1, none, zI 255, zI 0, none, none] [] (zup M 55 26 0) Q)) : zBg d 148 6 [zR 55, zI x1, zI x2, none, none, none, none] [] M Q :=
  zvc_ok (I := zm148) (cuts := [(6, [true, true, true, false, false, false, false]), (22, [true, true, false, true, true, false, false]), (37, [true, true, false, true, true, true, true])]) (n := 98) rfl h
set_option maxRecDepth 20000 in
theorem zv148_22 {d : Nat} {M : zMem} {Q : Option zV → zMem → Prop} (x1 : Int) (x3 : Int) (x4 : Int) (h :
  ((x4 : Int) ≥ (M 55 21) →
    ((M 55 26 : Int) ≤ 0 →
      ∃ Q1, zCi d 149 [.inr (.inr 55), .inl x1] M Q1 ∧ ∀ v1 M1, Q1 v1 M1 →
      zBg (d + 1) 148 6 [zR 55, zI x1, zI v1, none, none, none, none] [] M1 Q) ∧
    (¬ (M 55 26 : Int) ≤ 0 →
      ((x3 : Int) ≠ 0 →
        ∃ Q2, zCi d 149 [.inr (.inr 55), .inl x1] M Q2 ∧ ∀ v2 M2, Q2 v2 M2 →
        zBg (d + 1) 148 6 [zR 55, zI x1, zI v2, none, none, none, none] [] M2 Q) ∧
      (¬ (x3 : Int) ≠ 0 →
        ((0 : Int) = 0 ∨ (0 : Int) = 1) ∧ Q (zI 0) M))) ∧
  (¬ (x4 : Int) ≥ (M 55 21) →
    zBg (d + 1) 148 37 [zR 55, zI x1, none, zI x3, zI x4, zI 1, zI 0] [] M Q)) : zBg (d + 1) 148 22 [zR 55, zI x1, none, zI x3, zI x4, none, none] [] M Q :=
  zvc_ok (I := zm148) (cuts := [(6, [true, true, true, false, false, false, false]), (22, [true, true, false, true, true, false, false]), (37, [true, true, false, true, true, true, true])]) (n := 98) rfl h
set_option maxRecDepth 20000 in
theorem zv148_37 {d : Nat} {M : zMem} {Q : Option zV → zMem → Prop} (x1 : Int) (x3 : Int) (x4 : Int) (x5 : Int) (x6 : Int) (h :
  ((x6 : Int) ≥ (M 55 4) →
    ((x5 : Int) = 0 →
      ((x5 : Int) = 0 →
        zR32 ((M 55 26) + 0) ∧ zR32 (x4 + 1) ∧ zBg d 148 22 [zR 55, zI x1, none, zI (ziand x3 255), zI (x4 + 1), none, none] [] (zup M 55 26 ((M 55 26) + 0)) Q) ∧
      (¬ (x5 : Int) = 0 →
        zR32 ((M 55 26) + 1) ∧ zR32 (x4 + 1) ∧ zBg d 148 22 [zR 55, zI x1, none, zI (ziand x3 255), zI (x4 + 1), none, none] [] (zup M 55 26 ((M 55 26) + 1)) Q)) ∧
    (¬ (x5 : Int) = 0 →
      (0 : Int) ≤ x4 ∧ (x4 : Int) < 92 ∧ ((x5 : Int) = 0 →
        zR32 ((M 55 26) + 0) ∧ zR32 (x4 + 1) ∧ zBg d 148 22 [zR 55, zI x1, none, zI (ziand x3 (M 69 x4.toNat)), zI (x4 + 1), none, none] [] (zup M 55 26 ((M 55 26) + 0)) Q) ∧
      (¬ (x5 : Int) = 0 →
        zR32 ((M 55 26) + 1) ∧ zR32 (x4 + 1) ∧ zBg d 148 22 [zR 55, zI x1, none, zI (ziand x3 (M 69 x4.toNat)), zI (x4 + 1), none, none] [] (zup M 55 26 ((M 55 26) + 1)) Q))) ∧
  (¬ (x6 : Int) ≥ (M 55 4) →
    ((x5 : Int) = 0 →
      ((x5 : Int) = 0 →
        ((x5 : Int) = 0 →
          zR32 ((M 55 26) + 0) ∧ zR32 (x4 + 1) ∧ zBg d 148 22 [zR 55, zI x1, none, zI (ziand x3 255), zI (x4 + 1), none, none] [] (zup M 55 26 ((M 55 26) + 0)) Q) ∧
        (¬ (x5 : Int) = 0 →
          zR32 ((M 55 26) + 1) ∧ zR32 (x4 + 1) ∧ zBg d 148 22 [zR 55, zI x1, none, zI (ziand x3 255), zI (x4 + 1), none, none] [] (zup M 55 26 ((M 55 26) + 1)) Q)) ∧
      (¬ (x5 : Int) = 0 →
        (0 : Int) ≤ x4 ∧ (x4 : Int) < 92 ∧ ((x5 : Int) = 0 →
          zR32 ((M 55 26) + 0) ∧ zR32 (x4 + 1) ∧ zBg d 148 22 [zR 55, zI x1, none, zI (ziand x3 (M 69 x4.toNat)), zI (x4 + 1), none, none] [] (zup M 55 26 ((M 55 26) + 0)) Q) ∧
        (¬ (x5 : Int) = 0 →
          zR32 ((M 55 26) + 1) ∧ zR32 (x4 + 1) ∧ zBg d 148 22 [zR 55, zI x1, none, zI (ziand x3 (M 69 x4.toNat)), zI (x4 + 1), none, none] [] (zup M 55 26 ((M 55 26) + 1)) Q))) ∧
    (¬ (x5 : Int) = 0 →
      ((ziand (zishr x1 x6) 1 : Int) = 0 →
        zR32 (x6 + 1) ∧ zBg d 148 37 [zR 55, zI x1, none, zI x3, zI x4, zI 1, zI (x6 + 1)] [] M Q) ∧
      (¬ (ziand (zishr x1 x6) 1 : Int) = 0 →
        zR32 (6 * x4) ∧ zR32 ((6 * x4) + x6) ∧ (0 : Int) ≤ ((6 * x4) + x6) ∧ ((6 * x4) + x6 : Int) < 552 ∧ (0 : Int) ≤ x6 ∧ (x6 : Int) < 6 ∧ ((ziand (zishr (M 71 (((6 * x4) + x6).toNat)) (M 70 x6.toNat)) 1 : Int) ≠ 1 →
          zR32 (x6 + 1) ∧ zBg d 148 37 [zR 55, zI x1, none, zI x3, zI x4, zI 0, zI (x6 + 1)] [] M Q) ∧
        (¬ (ziand (zishr (M 71 (((6 * x4) + x6).toNat)) (M 70 x6.toNat)) 1 : Int) ≠ 1 →
          zR32 (x6 + 1) ∧ zBg d 148 37 [zR 55, zI x1, none, zI x3, zI x4, zI 1, zI (x6 + 1)] [] M Q))))) : zBg d 148 37 [zR 55, zI x1, none, zI x3, zI x4, zI x5, zI x6] [] M Q :=
  zvc_ok (I := zm148) (cuts := [(6, [true, true, true, false, false, false, false]), (22, [true, true, false, true, true, false, false]), (37, [true, true, false, true, true, true, true])]) (n := 98) rfl h
theorem zk148 {d : Nat} {M : zMem} {Q : Option zV → zMem → Prop} {x1 : Int} (h : zBg d 148 0 [zR 55, zI x1, none, none, none, none, none] [] M Q) : zCt d 148 [.inr (.inr 55), .inl x1] M Q := zCt_of (I := zm148) rfl rfl h
/-! CommaCopiesModel.goesOnBy(I)Z , as 149 -/
set_option maxRecDepth 20000 in
theorem zv149_0 {d : Nat} {M : zMem} {Q : Option zV → zMem → Prop} (x1 : Int) (h :
  zR32 ((M 55 4) - 1) ∧ zBg d 149 7 [zR 55, zI x1, zI ((M 55 4) - 1)] [] M Q) : zBg d 149 0 [zR 55, zI x1, none] [] M Q :=
  zvc_ok (I := zm149) (cuts := [(7, [true, true, true])]) (n := 45) rfl h
set_option maxRecDepth 20000 in
theorem zv149_7 {d : Nat} {M : zMem} {Q : Option zV → zMem → Prop} (x1 : Int) (x2 : Int) (h :
  ((x2 : Int) < 0 →
    ((x2 : Int) ≥ 0 →
      (0 : Int) ≤ x2 ∧ (x2 : Int) < 6 ∧ zR32 ((M 70 x2.toNat) + 1) ∧ (0 : Int) ≤ x2 ∧ (x2 : Int) < 6 ∧ ((1 : Int) = 0 ∨ (1 : Int) = 1) ∧ Q (zI 1) (zup M 70 x2.toNat ((M 70 x2.toNat) + 1))) ∧
    (¬ (x2 : Int) ≥ 0 →
      ((0 : Int) = 0 ∨ (0 : Int) = 1) ∧ Q (zI 0) M)) ∧
  (¬ (x2 : Int) < 0 →
    ((ziand (zishr x1 x2) 1 : Int) = 0 →
      (0 : Int) ≤ x2 ∧ (x2 : Int) < 6 ∧ zR32 (x2 + (-1)) ∧ zBg d 149 7 [zR 55, zI x1, zI (x2 + (-1))] [] (zup M 70 x2.toNat 0) Q) ∧
    (¬ (ziand (zishr x1 x2) 1 : Int) = 0 →
      (0 : Int) ≤ x2 ∧ (x2 : Int) < 6 ∧ ((M 70 x2.toNat : Int) ≠ 4 →
        ((x2 : Int) ≥ 0 →
          (0 : Int) ≤ x2 ∧ (x2 : Int) < 6 ∧ zR32 ((M 70 x2.toNat) + 1) ∧ (0 : Int) ≤ x2 ∧ (x2 : Int) < 6 ∧ ((1 : Int) = 0 ∨ (1 : Int) = 1) ∧ Q (zI 1) (zup M 70 x2.toNat ((M 70 x2.toNat) + 1))) ∧
        (¬ (x2 : Int) ≥ 0 →
          ((0 : Int) = 0 ∨ (0 : Int) = 1) ∧ Q (zI 0) M)) ∧
      (¬ (M 70 x2.toNat : Int) ≠ 4 →
        (0 : Int) ≤ x2 ∧ (x2 : Int) < 6 ∧ zR32 (x2 + (-1)) ∧ zBg d 149 7 [zR 55, zI x1, zI (x2 + (-1))] [] (zup M 70 x2.toNat 0) Q)))) : zBg d 149 7 [zR 55, zI x1, zI x2] [] M Q :=
  zvc_ok (I := zm149) (cuts := [(7, [true, true, true])]) (n := 45) rfl h
theorem zk149 {d : Nat} {M : zMem} {Q : Option zV → zMem → Prop} {x1 : Int} (h : zBg d 149 0 [zR 55, zI x1, none] [] M Q) : zCt d 149 [.inr (.inr 55), .inl x1] M Q := zCt_of (I := zm149) rfl rfl h
/-! CommaCopiesModel.isLaw(II)Z , as 150 -/
set_option maxRecDepth 20000 in
theorem zv150_0 {d : Nat} {M : zMem} {Q : Option zV → zMem → Prop} (x1 : Int) (x2 : Int) (h :
  ∃ Q1, zCv d 145 [.inr (.inr 55)] M Q1 ∧ ∀ M1, Q1 M1 →
  ((x1 : Int) ≠ 0 →
    ((x1 : Int) ≠ 1 →
      ∃ Q2, zCi d 148 [.inr (.inr 55), .inl x2] M1 Q2 ∧ ∀ v2 M2, Q2 v2 M2 →
      ((v2 : Int) = 0 ∨ (v2 : Int) = 1) ∧ Q (zI v2) M2) ∧
    (¬ (x1 : Int) ≠ 1 →
      ∃ Q3, zCi d 147 [.inr (.inr 55), .inl x2] M1 Q3 ∧ ∀ v3 M3, Q3 v3 M3 →
      ((v3 : Int) = 0 ∨ (v3 : Int) = 1) ∧ Q (zI v3) M3)) ∧
  (¬ (x1 : Int) ≠ 0 →
    ∃ Q4, zCi d 146 [.inr (.inr 55), .inl x2] M1 Q4 ∧ ∀ v4 M4, Q4 v4 M4 →
    ((v4 : Int) = 0 ∨ (v4 : Int) = 1) ∧ Q (zI v4) M4)) : zBg (d + 1) 150 0 [zR 55, zI x1, zI x2] [] M Q :=
  zvc_ok (I := zm150) (cuts := []) (n := 24) rfl h
theorem zk150 {d : Nat} {M : zMem} {Q : Option zV → zMem → Prop} {x1 : Int} {x2 : Int} (h : zBg d 150 0 [zR 55, zI x1, zI x2] [] M Q) : zCt d 150 [.inr (.inr 55), .inl x1, .inl x2] M Q := zCt_of (I := zm150) rfl rfl h
/-! CommaCopiesModel.holds(I)I , as 151 -/
set_option maxRecDepth 20000 in
theorem zv151_0 {d : Nat} {M : zMem} {Q : Option zV → zMem → Prop} (x1 : Int) (h :
  ∃ Q1, zCi d 110 [.inr (.inl x1), .inr (.inl 0), .inr (.inl 2)] M Q1 ∧ ∀ v1 M1, Q1 v1 M1 →
  ((v1 : Int) = 0 →
    Q (zI (-1)) M1) ∧
  (¬ (v1 : Int) = 0 →
    ∃ Q2, zCi d 150 [.inr (.inr 55), .inl x1, .inl 63] M1 Q2 ∧ ∀ v2 M2, Q2 v2 M2 →
    ((v2 : Int) = 0 →
      Q (zI 0) M2) ∧
    (¬ (v2 : Int) = 0 →
      Q (zI 1) M2))) : zBg (d + 1) 151 0 [zR 55, zI x1] [] M Q :=
  zvc_ok (I := zm151) (cuts := []) (n := 22) rfl h
theorem zk151 {d : Nat} {M : zMem} {Q : Option zV → zMem → Prop} {x1 : Int} (h : zBg d 151 0 [zR 55, zI x1] [] M Q) : zCt d 151 [.inr (.inr 55), .inl x1] M Q := zCt_of (I := zm151) rfl rfl h
/-! CommaCopiesModel.breach(II)I , as 152 -/
set_option maxRecDepth 20000 in
theorem zv152_0 {d : Nat} {M : zMem} {Q : Option zV → zMem → Prop} (x1 : Int) (x2 : Int) (h :
  ∃ Q1, zCi d 110 [.inr (.inl x1), .inr (.inl 0), .inr (.inl 2)] M Q1 ∧ ∀ v1 M1, Q1 v1 M1 →
  ((v1 : Int) = 0 →
    Q (zI (-1)) M1) ∧
  (¬ (v1 : Int) = 0 →
    ((x1 : Int) ≥ 2 →
      ∃ Q2, zCi d 115 [.inr (.inr 55), .inl x2] M1 Q2 ∧ ∀ v2 M2, Q2 v2 M2 →
      ((v2 : Int) ≠ 0 →
        ∃ Q3, zCi d 150 [.inr (.inr 55), .inl x1, .inl 63] M2 Q3 ∧ ∀ v3 M3, Q3 v3 M3 →
        ((v3 : Int) = 0 →
          ((x1 : Int) ≠ 2 →
            ((x2 : Int) ≠ 0 →
              Q (zI (M3 55 25)) M3) ∧
            (¬ (x2 : Int) ≠ 0 →
              Q (zI (M3 55 24)) M3)) ∧
          (¬ (x1 : Int) ≠ 2 →
            (0 : Int) ≤ x2 ∧ (x2 : Int) < 6 ∧ Q (zI (M3 70 x2.toNat)) M3)) ∧
        (¬ (v3 : Int) = 0 →
          Q (zI (-4)) M3)) ∧
      (¬ (v2 : Int) ≠ 0 →
        Q (zI (-1)) M2)) ∧
    (¬ (x1 : Int) ≥ 2 →
      ∃ Q4, zCi d 110 [.inr (.inl x2), .inr (.inl 0), .inr (.inl 1)] M1 Q4 ∧ ∀ v4 M4, Q4 v4 M4 →
      ((v4 : Int) ≠ 0 →
        ∃ Q5, zCi d 150 [.inr (.inr 55), .inl x1, .inl 63] M4 Q5 ∧ ∀ v5 M5, Q5 v5 M5 →
        ((v5 : Int) = 0 →
          ((x1 : Int) ≠ 2 →
            ((x2 : Int) ≠ 0 →
              Q (zI (M5 55 25)) M5) ∧
            (¬ (x2 : Int) ≠ 0 →
              Q (zI (M5 55 24)) M5)) ∧
          (¬ (x1 : Int) ≠ 2 →
            (0 : Int) ≤ x2 ∧ (x2 : Int) < 6 ∧ Q (zI (M5 70 x2.toNat)) M5)) ∧
        (¬ (v5 : Int) = 0 →
          Q (zI (-4)) M5)) ∧
      (¬ (v4 : Int) ≠ 0 →
        Q (zI (-1)) M4)))) : zBg (d + 1) 152 0 [zR 55, zI x1, zI x2] [] M Q :=
  zvc_ok (I := zm152) (cuts := []) (n := 50) rfl h
theorem zk152 {d : Nat} {M : zMem} {Q : Option zV → zMem → Prop} {x1 : Int} {x2 : Int} (h : zBg d 152 0 [zR 55, zI x1, zI x2] [] M Q) : zCt d 152 [.inr (.inr 55), .inl x1, .inl x2] M Q := zCt_of (I := zm152) rfl rfl h
end
section
/-! CommaCopiesModel.fewest(I)I , as 153 -/
set_option maxRecDepth 20000 in
theorem zv153_0 {d : Nat} {M : zMem} {Q : Option zV → zMem → Prop} (x1 : Int) (h :
  ∃ Q1, zCi d 110 [.inr (.inl x1), .inr (.inl 0), .inr (.inl 2)] M Q1 ∧ ∀ v1 M1, Q1 v1 M1 →
  ((v1 : Int) ≠ 0 →
    zBg (d + 1) 153 19 [zR 55, zI x1, zI (-4), zI 0, none] [] M1 Q) ∧
  (¬ (v1 : Int) ≠ 0 →
    Q (zI (-1)) M1)) : zBg (d + 1) 153 0 [zR 55, zI x1, none, none, none] [] M Q :=
  zvc_ok (I := zm153) (cuts := [(19, [true, true, true, true, false])]) (n := 49) rfl h
set_option maxRecDepth 20000 in
theorem zv153_19 {d : Nat} {M : zMem} {Q : Option zV → zMem → Prop} (x1 : Int) (x2 : Int) (x3 : Int) (h :
  ((x3 : Int) ≥ (zishl 1 (M 55 4)) →
    Q (zI x2) M) ∧
  (¬ (x3 : Int) ≥ (zishl 1 (M 55 4)) →
    ((x2 : Int) < 0 →
      ((1 : Int) = 0 →
        zR32 (x3 + 1) ∧ zBg (d + 1) 153 19 [zR 55, zI x1, zI x2, zI (x3 + 1), none] [] M Q) ∧
      (¬ (1 : Int) = 0 →
        ∃ Q1, zCi d 150 [.inr (.inr 55), .inl x1, .inl x3] M Q1 ∧ ∀ v1 M1, Q1 v1 M1 →
        ((v1 : Int) = 0 →
          zR32 (x3 + 1) ∧ zBg (d + 1) 153 19 [zR 55, zI x1, zI x2, zI (x3 + 1), none] [] M1 Q) ∧
        (¬ (v1 : Int) = 0 →
          zR32 (x3 + 1) ∧ zBg (d + 1) 153 19 [zR 55, zI x1, zI x3, zI (x3 + 1), none] [] M1 Q))) ∧
    (¬ (x2 : Int) < 0 →
      ∃ Q2, zCi d 129 [.inl x3] M Q2 ∧ ∀ v2 M2, Q2 v2 M2 →
      ∃ Q3, zCi d 129 [.inl x2] M2 Q3 ∧ ∀ v3 M3, Q3 v3 M3 →
      ((v2 : Int) ≥ v3 →
        ((0 : Int) = 0 →
          zR32 (x3 + 1) ∧ zBg (d + 1) 153 19 [zR 55, zI x1, zI x2, zI (x3 + 1), none] [] M3 Q) ∧
        (¬ (0 : Int) = 0 →
          ∃ Q4, zCi d 150 [.inr (.inr 55), .inl x1, .inl x3] M3 Q4 ∧ ∀ v4 M4, Q4 v4 M4 →
          ((v4 : Int) = 0 →
            zR32 (x3 + 1) ∧ zBg (d + 1) 153 19 [zR 55, zI x1, zI x2, zI (x3 + 1), none] [] M4 Q) ∧
          (¬ (v4 : Int) = 0 →
            zR32 (x3 + 1) ∧ zBg (d + 1) 153 19 [zR 55, zI x1, zI x3, zI (x3 + 1), none] [] M4 Q))) ∧
      (¬ (v2 : Int) ≥ v3 →
        ((1 : Int) = 0 →
          zR32 (x3 + 1) ∧ zBg (d + 1) 153 19 [zR 55, zI x1, zI x2, zI (x3 + 1), none] [] M3 Q) ∧
        (¬ (1 : Int) = 0 →
          ∃ Q5, zCi d 150 [.inr (.inr 55), .inl x1, .inl x3] M3 Q5 ∧ ∀ v5 M5, Q5 v5 M5 →
          ((v5 : Int) = 0 →
            zR32 (x3 + 1) ∧ zBg (d + 1) 153 19 [zR 55, zI x1, zI x2, zI (x3 + 1), none] [] M5 Q) ∧
          (¬ (v5 : Int) = 0 →
            zR32 (x3 + 1) ∧ zBg (d + 1) 153 19 [zR 55, zI x1, zI x3, zI (x3 + 1), none] [] M5 Q)))))) : zBg (d + 1) 153 19 [zR 55, zI x1, zI x2, zI x3, none] [] M Q :=
  zvc_ok (I := zm153) (cuts := [(19, [true, true, true, true, false])]) (n := 49) rfl h
theorem zk153 {d : Nat} {M : zMem} {Q : Option zV → zMem → Prop} {x1 : Int} (h : zBg d 153 0 [zR 55, zI x1, none, none, none] [] M Q) : zCt d 153 [.inr (.inr 55), .inl x1] M Q := zCt_of (I := zm153) rfl rfl h
/-! CommaCopiesModel.isRowThere()Z , as 154 -/
set_option maxRecDepth 20000 in
theorem zv154_0 {d : Nat} {M : zMem} {Q : Option zV → zMem → Prop} (h :
  zBg d 154 4 [zR 55, zI 0, zI 0, none, none] [] M Q) : zBg d 154 0 [zR 55, none, none, none, none] [] M Q :=
  zvc_ok (I := zm154) (cuts := [(4, [true, true, true, false, false]), (19, [true, true, true, true, true])]) (n := 56) rfl h
set_option maxRecDepth 20000 in
theorem zv154_4 {d : Nat} {M : zMem} {Q : Option zV → zMem → Prop} (x1 : Int) (x2 : Int) (h :
  zR32 ((M 55 12) - 1) ∧ ((x2 : Int) ≥ ((M 55 12) - 1) →
    ((x1 : Int) = 0 ∨ (x1 : Int) = 1) ∧ Q (zI x1) M) ∧
  (¬ (x2 : Int) ≥ ((M 55 12) - 1) →
    zBg d 154 19 [zR 55, zI x1, zI x2, zI 1, zI 0] [] M Q)) : zBg d 154 4 [zR 55, zI x1, zI x2, none, none] [] M Q :=
  zvc_ok (I := zm154) (cuts := [(4, [true, true, true, false, false]), (19, [true, true, true, true, true])]) (n := 56) rfl h
set_option maxRecDepth 20000 in
theorem zv154_19 {d : Nat} {M : zMem} {Q : Option zV → zMem → Prop} (x1 : Int) (x2 : Int) (x3 : Int) (x4 : Int) (h :
  ((x4 : Int) ≥ (M 55 4) →
    ((x1 : Int) ≠ 0 →
      zR32 (x2 + 1) ∧ zBg d 154 4 [zR 55, zI 1, zI (x2 + 1), none, none] [] M Q) ∧
    (¬ (x1 : Int) ≠ 0 →
      ((x3 : Int) = 0 →
        zR32 (x2 + 1) ∧ zBg d 154 4 [zR 55, zI 0, zI (x2 + 1), none, none] [] M Q) ∧
      (¬ (x3 : Int) = 0 →
        zR32 (x2 + 1) ∧ zBg d 154 4 [zR 55, zI 1, zI (x2 + 1), none, none] [] M Q))) ∧
  (¬ (x4 : Int) ≥ (M 55 4) →
    ((x3 : Int) = 0 →
      zR32 (x4 + 1) ∧ zBg d 154 19 [zR 55, zI x1, zI x2, zI 0, zI (x4 + 1)] [] M Q) ∧
    (¬ (x3 : Int) = 0 →
      zR32 (6 * x2) ∧ zR32 ((6 * x2) + x4) ∧ (0 : Int) ≤ ((6 * x2) + x4) ∧ ((6 * x2) + x4 : Int) < 48 ∧ (0 : Int) ≤ x4 ∧ (x4 : Int) < 6 ∧ ((M 65 (((6 * x2) + x4).toNat) : Int) ≠ (M 70 x4.toNat) →
        zR32 (x4 + 1) ∧ zBg d 154 19 [zR 55, zI x1, zI x2, zI 0, zI (x4 + 1)] [] M Q) ∧
      (¬ (M 65 (((6 * x2) + x4).toNat) : Int) ≠ (M 70 x4.toNat) →
        zR32 (x4 + 1) ∧ zBg d 154 19 [zR 55, zI x1, zI x2, zI 1, zI (x4 + 1)] [] M Q)))) : zBg d 154 19 [zR 55, zI x1, zI x2, zI x3, zI x4] [] M Q :=
  zvc_ok (I := zm154) (cuts := [(4, [true, true, true, false, false]), (19, [true, true, true, true, true])]) (n := 56) rfl h
theorem zk154 {d : Nat} {M : zMem} {Q : Option zV → zMem → Prop} (h : zBg d 154 0 [zR 55, none, none, none, none] [] M Q) : zCt d 154 [.inr (.inr 55)] M Q := zCt_of (I := zm154) rfl rfl h
/-! CommaCopiesModel.more(II)I , as 155 -/
set_option maxRecDepth 20000 in
theorem zv155_0 {d : Nat} {M : zMem} {Q : Option zV → zMem → Prop} (x1 : Int) (x2 : Int) (h :
  ∃ Q1, zCi d 110 [.inr (.inl x1), .inr (.inl 0), .inr (.inl 1)] M Q1 ∧ ∀ v1 M1, Q1 v1 M1 →
  ((v1 : Int) = 0 →
    Q (zI (-1)) M1) ∧
  (¬ (v1 : Int) = 0 →
    ∃ Q2, zCi d 115 [.inr (.inr 55), .inl x2] M1 Q2 ∧ ∀ v2 M2, Q2 v2 M2 →
    ((v2 : Int) ≠ 0 →
      ((M2 55 12 : Int) ≠ 8 →
        zR32 ((M2 55 12) + 1) ∧ ∃ Q3, zCv d 137 [.inr (.inr 55)] (zup M2 55 12 ((M2 55 12) + 1)) Q3 ∧ ∀ M3, Q3 M3 →
        zBg (d + 1) 155 52 [zR 55, zI x1, zI x2, zI (-4), zI 1, none] [] M3 Q) ∧
      (¬ (M2 55 12 : Int) ≠ 8 →
        Q (zI (-3)) M2)) ∧
    (¬ (v2 : Int) ≠ 0 →
      Q (zI (-1)) M2))) : zBg (d + 1) 155 0 [zR 55, zI x1, zI x2, none, none, none] [] M Q :=
  zvc_ok (I := zm155) (cuts := [(52, [true, true, true, true, true, false]), (64, [true, true, true, false, false, true])]) (n := 90) rfl h
set_option maxRecDepth 20000 in
theorem zv155_52 {d : Nat} {M : zMem} {Q : Option zV → zMem → Prop} (x1 : Int) (x2 : Int) (x3 : Int) (x4 : Int) (h :
  ((x4 : Int) = 0 →
    zR32 ((M 55 12) - 1) ∧ Q (zI x3) (zup M 55 12 ((M 55 12) - 1))) ∧
  (¬ (x4 : Int) = 0 →
    ((x3 : Int) ≥ 0 →
      zR32 ((M 55 12) - 1) ∧ Q (zI x3) (zup M 55 12 ((M 55 12) - 1))) ∧
    (¬ (x3 : Int) ≥ 0 →
      zBg d 155 64 [zR 55, zI x1, zI x2, none, none, zI 0] [] M Q))) : zBg d 155 52 [zR 55, zI x1, zI x2, zI x3, zI x4, none] [] M Q :=
  zvc_ok (I := zm155) (cuts := [(52, [true, true, true, true, true, false]), (64, [true, true, true, false, false, true])]) (n := 90) rfl h
set_option maxRecDepth 20000 in
theorem zv155_64 {d : Nat} {M : zMem} {Q : Option zV → zMem → Prop} (x1 : Int) (x2 : Int) (x5 : Int) (h :
  ((x5 : Int) ≥ (M 55 4) →
    ∃ Q1, zCi d 154 [.inr (.inr 55)] M Q1 ∧ ∀ v1 M1, Q1 v1 M1 →
    ((v1 : Int) ≠ 0 →
      ∃ Q2, zCi d 136 [.inr (.inr 55), .inl 0] M1 Q2 ∧ ∀ v2 M2, Q2 v2 M2 →
      zBg (d + 1) 155 52 [zR 55, zI x1, zI x2, zI (-4), zI v2, none] [] M2 Q) ∧
    (¬ (v1 : Int) ≠ 0 →
      ∃ Q3, zCi d 150 [.inr (.inr 55), .inl x1, .inl 63] M1 Q3 ∧ ∀ v3 M3, Q3 v3 M3 →
      ((v3 : Int) = 0 →
        ∃ Q4, zCi d 136 [.inr (.inr 55), .inl 0] M3 Q4 ∧ ∀ v4 M4, Q4 v4 M4 →
        zBg (d + 1) 155 52 [zR 55, zI x1, zI x2, zI (-4), zI v4, none] [] M4 Q) ∧
      (¬ (v3 : Int) = 0 →
        (0 : Int) ≤ x2 ∧ (x2 : Int) < 6 ∧ ∃ Q5, zCi d 136 [.inr (.inr 55), .inl 0] M3 Q5 ∧ ∀ v5 M5, Q5 v5 M5 →
        zBg (d + 1) 155 52 [zR 55, zI x1, zI x2, zI (M3 70 x2.toNat), zI v5, none] [] M5 Q))) ∧
  (¬ (x5 : Int) ≥ (M 55 4) →
    zR32 (6 * (M 55 12)) ∧ zR32 ((6 * (M 55 12)) - 6) ∧ zR32 (((6 * (M 55 12)) - 6) + x5) ∧ (0 : Int) ≤ x5 ∧ (x5 : Int) < 6 ∧ (0 : Int) ≤ (((6 * (M 55 12)) - 6) + x5) ∧ (((6 * (M 55 12)) - 6) + x5 : Int) < 48 ∧ zR32 (x5 + 1) ∧ zBg (d + 1) 155 64 [zR 55, zI x1, zI x2, none, none, zI (x5 + 1)] [] (zup M 65 ((((6 * (M 55 12)) - 6) + x5).toNat) (M 70 x5.toNat)) Q)) : zBg (d + 1) 155 64 [zR 55, zI x1, zI x2, none, none, zI x5] [] M Q :=
  zvc_ok (I := zm155) (cuts := [(52, [true, true, true, true, true, false]), (64, [true, true, true, false, false, true])]) (n := 90) rfl h
theorem zk155 {d : Nat} {M : zMem} {Q : Option zV → zMem → Prop} {x1 : Int} {x2 : Int} (h : zBg d 155 0 [zR 55, zI x1, zI x2, none, none, none] [] M Q) : zCt d 155 [.inr (.inr 55), .inl x1, .inl x2] M Q := zCt_of (I := zm155) rfl rfl h
/-! CommaCopiesModel.scoreOf(I[I)I , as 156 -/
set_option maxRecDepth 20000 in
theorem zv156_0 {d : Nat} {M : zMem} {Q : Option zV → zMem → Prop} (x1 : Int) (a2 : Nat) (h :
  zBg d 156 5 [zR 55, zI x1, zR a2, zI 0, zI 0] [] M Q) : zBg d 156 0 [zR 55, zI x1, zR a2, none, none] [] M Q :=
  zvc_ok (I := zm156) (cuts := [(5, [true, true, true, true, true])]) (n := 35) rfl h
set_option maxRecDepth 20000 in
theorem zv156_5 {d : Nat} {M : zMem} {Q : Option zV → zMem → Prop} (x1 : Int) (a2 : Nat) (x3 : Int) (x4 : Int) (h :
  ((x4 : Int) ≥ (M 55 4) →
    Q (zI x3) M) ∧
  (¬ (x4 : Int) ≥ (M 55 4) →
    zR32 (6 * x1) ∧ zR32 ((6 * x1) + x4) ∧ (0 : Int) ≤ ((6 * x1) + x4) ∧ ((6 * x1) + x4 : Int) < 48 ∧ zar a2 0 fun n => (0 : Int) ≤ x4 ∧ (x4 : Int) < n ∧ ((M 65 (((6 * x1) + x4).toNat) : Int) ≠ (M a2 x4.toNat) →
      zR32 (x3 + 0) ∧ zR32 (x4 + 1) ∧ zBg d 156 5 [zR 55, zI x1, zR a2, zI (x3 + 0), zI (x4 + 1)] [] M Q) ∧
    (¬ (M 65 (((6 * x1) + x4).toNat) : Int) ≠ (M a2 x4.toNat) →
      zR32 (x3 + 1) ∧ zR32 (x4 + 1) ∧ zBg d 156 5 [zR 55, zI x1, zR a2, zI (x3 + 1), zI (x4 + 1)] [] M Q))) : zBg d 156 5 [zR 55, zI x1, zR a2, zI x3, zI x4] [] M Q :=
  zvc_ok (I := zm156) (cuts := [(5, [true, true, true, true, true])]) (n := 35) rfl h
theorem zk156 {d : Nat} {M : zMem} {Q : Option zV → zMem → Prop} {x1 : Int} {a2 : Nat} (h : zBg d 156 0 [zR 55, zI x1, zR a2, none, none] [] M Q) : zCt d 156 [.inr (.inr 55), .inl x1, .inr (.inr a2)] M Q := zCt_of (I := zm156) rfl rfl h
/-! CommaCopiesModel.score(I)I , as 157 -/
set_option maxRecDepth 20000 in
theorem zv157_0 {d : Nat} {M : zMem} {Q : Option zV → zMem → Prop} (x1 : Int) (h :
  ∃ Q1, zCi d 121 [.inr (.inr 55), .inl x1] M Q1 ∧ ∀ v1 M1, Q1 v1 M1 →
  ((v1 : Int) = 0 →
    Q (zI (-1)) M1) ∧
  (¬ (v1 : Int) = 0 →
    ∃ Q2, zCi d 156 [.inr (.inr 55), .inl x1, .inr (.inr 66)] M1 Q2 ∧ ∀ v2 M2, Q2 v2 M2 →
    Q (zI v2) M2)) : zBg (d + 1) 157 0 [zR 55, zI x1] [] M Q :=
  zvc_ok (I := zm157) (cuts := []) (n := 17) rfl h
theorem zk157 {d : Nat} {M : zMem} {Q : Option zV → zMem → Prop} {x1 : Int} (h : zBg d 157 0 [zR 55, zI x1] [] M Q) : zCt d 157 [.inr (.inr 55), .inl x1] M Q := zCt_of (I := zm157) rfl rfl h
/-! CommaCopiesModel.scores()I , as 158 -/
set_option maxRecDepth 20000 in
theorem zv158_0 {d : Nat} {M : zMem} {Q : Option zV → zMem → Prop} (h :
  zBg d 158 2 [zR 55, zI 0, none, none, none] [] M Q) : zBg d 158 0 [zR 55, none, none, none, none] [] M Q :=
  zvc_ok (I := zm158) (cuts := [(2, [true, true, false, false, false]), (33, [true, true, true, false, false]), (61, [true, true, true, true, true])]) (n := 84) rfl h
set_option maxRecDepth 20000 in
theorem zv158_2 {d : Nat} {M : zMem} {Q : Option zV → zMem → Prop} (x1 : Int) (h :
  ((x1 : Int) ≥ 8 →
    zBg d 158 33 [zR 55, zI 1, zI 0, none, none] [] M Q) ∧
  (¬ (x1 : Int) ≥ 8 →
    ((x1 : Int) ≠ 0 →
      (0 : Int) ≤ x1 ∧ (x1 : Int) < 8 ∧ zR32 (x1 + 1) ∧ zBg d 158 2 [zR 55, zI (x1 + 1), none, none, none] [] (zup M 72 x1.toNat 0) Q) ∧
    (¬ (x1 : Int) ≠ 0 →
      (0 : Int) ≤ x1 ∧ (x1 : Int) < 8 ∧ zR32 (x1 + 1) ∧ zBg d 158 2 [zR 55, zI (x1 + 1), none, none, none] [] (zup M 72 x1.toNat 1) Q))) : zBg d 158 2 [zR 55, zI x1, none, none, none] [] M Q :=
  zvc_ok (I := zm158) (cuts := [(2, [true, true, false, false, false]), (33, [true, true, true, false, false]), (61, [true, true, true, true, true])]) (n := 84) rfl h
set_option maxRecDepth 20000 in
theorem zv158_33 {d : Nat} {M : zMem} {Q : Option zV → zMem → Prop} (x1 : Int) (x2 : Int) (h :
  ((x2 : Int) ≥ (M 55 4) →
    Q (zI x1) M) ∧
  (¬ (x2 : Int) ≥ (M 55 4) →
    (0 : Int) ≤ x2 ∧ (x2 : Int) < 6 ∧ ((M 66 x2.toNat : Int) ≥ 4 →
      zBg d 158 61 [zR 55, zI x1, zI x2, zI 0, zI 6] [] M Q) ∧
    (¬ (M 66 x2.toNat : Int) ≥ 4 →
      zBg d 158 61 [zR 55, zI x1, zI x2, zI 1, zI 6] [] M Q))) : zBg d 158 33 [zR 55, zI x1, zI x2, none, none] [] M Q :=
  zvc_ok (I := zm158) (cuts := [(2, [true, true, false, false, false]), (33, [true, true, true, false, false]), (61, [true, true, true, true, true])]) (n := 84) rfl h
set_option maxRecDepth 20000 in
theorem zv158_61 {d : Nat} {M : zMem} {Q : Option zV → zMem → Prop} (x1 : Int) (x2 : Int) (x3 : Int) (x4 : Int) (h :
  ((x4 : Int) < 0 →
    (0 : Int) ≤ x2 ∧ (x2 : Int) < 6 ∧ zR32 (x1 * (M 60 x2.toNat)) ∧ zR32 (x2 + 1) ∧ zBg d 158 33 [zR 55, zI (x1 * (M 60 x2.toNat)), zI (x2 + 1), none, none] [] M Q) ∧
  (¬ (x4 : Int) < 0 →
    (0 : Int) ≤ x4 ∧ (x4 : Int) < 8 ∧ (0 : Int) ≤ x2 ∧ (x2 : Int) < 6 ∧ zR32 ((M 60 x2.toNat) - x3) ∧ zR32 ((M 72 x4.toNat) * ((M 60 x2.toNat) - x3)) ∧ ((x4 : Int) ≤ 0 →
      zR32 (((M 72 x4.toNat) * ((M 60 x2.toNat) - x3)) + 0) ∧ (0 : Int) ≤ x4 ∧ (x4 : Int) < 8 ∧ zR32 (x4 + (-1)) ∧ zBg d 158 61 [zR 55, zI x1, zI x2, zI x3, zI (x4 + (-1))] [] (zup M 72 x4.toNat (((M 72 x4.toNat) * ((M 60 x2.toNat) - x3)) + 0)) Q) ∧
    (¬ (x4 : Int) ≤ 0 →
      zR32 (x4 - 1) ∧ (0 : Int) ≤ (x4 - 1) ∧ (x4 - 1 : Int) < 8 ∧ zR32 (x3 * (M 72 ((x4 - 1).toNat))) ∧ zR32 (((M 72 x4.toNat) * ((M 60 x2.toNat) - x3)) + (x3 * (M 72 ((x4 - 1).toNat)))) ∧ (0 : Int) ≤ x4 ∧ (x4 : Int) < 8 ∧ zR32 (x4 + (-1)) ∧ zBg d 158 61 [zR 55, zI x1, zI x2, zI x3, zI (x4 + (-1))] [] (zup M 72 x4.toNat (((M 72 x4.toNat) * ((M 60 x2.toNat) - x3)) + (x3 * (M 72 ((x4 - 1).toNat))))) Q))) : zBg d 158 61 [zR 55, zI x1, zI x2, zI x3, zI x4] [] M Q :=
  zvc_ok (I := zm158) (cuts := [(2, [true, true, false, false, false]), (33, [true, true, true, false, false]), (61, [true, true, true, true, true])]) (n := 84) rfl h
theorem zk158 {d : Nat} {M : zMem} {Q : Option zV → zMem → Prop} (h : zBg d 158 0 [zR 55, none, none, none, none] [] M Q) : zCt d 158 [.inr (.inr 55)] M Q := zCt_of (I := zm158) rfl rfl h
/-! CommaCopiesModel.above(I)I , as 159 -/
set_option maxRecDepth 20000 in
theorem zv159_0 {d : Nat} {M : zMem} {Q : Option zV → zMem → Prop} (x1 : Int) (h :
  zBg d 159 4 [zR 55, none, zI 0, zI x1] [] M Q) : zBg d 159 0 [zR 55, zI x1, none, none] [] M Q :=
  zvc_ok (I := zm159) (cuts := [(4, [true, false, true, true])]) (n := 23) rfl h
set_option maxRecDepth 20000 in
theorem zv159_4 {d : Nat} {M : zMem} {Q : Option zV → zMem → Prop} (x2 : Int) (x3 : Int) (h :
  ((x3 : Int) ≥ 8 →
    Q (zI x2) M) ∧
  (¬ (x3 : Int) ≥ 8 →
    (0 : Int) ≤ x3 ∧ (x3 : Int) < 8 ∧ zR32 (x2 + (M 72 x3.toNat)) ∧ zR32 (x3 + 1) ∧ zBg d 159 4 [zR 55, none, zI (x2 + (M 72 x3.toNat)), zI (x3 + 1)] [] M Q)) : zBg d 159 4 [zR 55, none, zI x2, zI x3] [] M Q :=
  zvc_ok (I := zm159) (cuts := [(4, [true, false, true, true])]) (n := 23) rfl h
theorem zk159 {d : Nat} {M : zMem} {Q : Option zV → zMem → Prop} {x1 : Int} (h : zBg d 159 0 [zR 55, zI x1, none, none] [] M Q) : zCt d 159 [.inr (.inr 55), .inl x1] M Q := zCt_of (I := zm159) rfl rfl h
/-! CommaCopiesModel.wrong(II)I , as 160 -/
set_option maxRecDepth 20000 in
theorem zv160_0 {d : Nat} {M : zMem} {Q : Option zV → zMem → Prop} (x1 : Int) (x2 : Int) (h :
  ∃ Q1, zCi d 110 [.inr (.inl x1), .inr (.inl 0), .inr (.inl 6)] M Q1 ∧ ∀ v1 M1, Q1 v1 M1 →
  ((v1 : Int) = 0 →
    Q (zI (-1)) M1) ∧
  (¬ (v1 : Int) = 0 →
    ∃ Q2, zCi d 110 [.inr (.inl x2), .inr (.inl 0), .inr (.inl 1)] M1 Q2 ∧ ∀ v2 M2, Q2 v2 M2 →
    ((v2 : Int) ≠ 0 →
      ((M2 55 2 : Int) ≠ 0 →
        ∃ Q3, zCi d 158 [.inr (.inr 55)] M2 Q3 ∧ ∀ v3 M3, Q3 v3 M3 →
        ∃ Q4, zCi d 159 [.inr (.inr 55), .inl x1] M3 Q4 ∧ ∀ v4 M4, Q4 v4 M4 →
        zBg (d + 1) 160 49 [zR 55, zI x1, zI x2, zI v3, zI v4, zI v3, none] [] M4 Q) ∧
      (¬ (M2 55 2 : Int) ≠ 0 →
        Q (zI (-2)) M2)) ∧
    (¬ (v2 : Int) ≠ 0 →
      Q (zI (-1)) M2))) : zBg (d + 1) 160 0 [zR 55, zI x1, zI x2, none, none, none, none] [] M Q :=
  zvc_ok (I := zm160) (cuts := [(49, [true, true, true, true, true, true, false])]) (n := 56) rfl h
set_option maxRecDepth 20000 in
theorem zv160_49 {d : Nat} {M : zMem} {Q : Option zV → zMem → Prop} (x1 : Int) (x2 : Int) (x3 : Int) (x4 : Int) (x5 : Int) (h :
  ((x5 : Int) = 0 →
    ((x2 : Int) ≠ 0 →
      (x4 : Int) ≠ 0 ∧ Q (zI (zidiv x3 x4)) M) ∧
    (¬ (x2 : Int) ≠ 0 →
      ∃ Q1, zCi d 159 [.inr (.inr 55), .inl x1] M Q1 ∧ ∀ v1 M1, Q1 v1 M1 →
      (x4 : Int) ≠ 0 ∧ Q (zI (zidiv v1 x4)) M1)) ∧
  (¬ (x5 : Int) = 0 →
    (x5 : Int) ≠ 0 ∧ zBg (d + 1) 160 49 [zR 55, zI x1, zI x2, zI x3, zI x5, zI (zirem x4 x5), none] [] M Q)) : zBg (d + 1) 160 49 [zR 55, zI x1, zI x2, zI x3, zI x4, zI x5, none] [] M Q :=
  zvc_ok (I := zm160) (cuts := [(49, [true, true, true, true, true, true, false])]) (n := 56) rfl h
theorem zk160 {d : Nat} {M : zMem} {Q : Option zV → zMem → Prop} {x1 : Int} {x2 : Int} (h : zBg d 160 0 [zR 55, zI x1, zI x2, none, none, none, none] [] M Q) : zCt d 160 [.inr (.inr 55), .inl x1, .inl x2] M Q := zCt_of (I := zm160) rfl rfl h
/-! CommaCopiesModel.bar(I)I , as 161 -/
set_option maxRecDepth 20000 in
theorem zv161_0 {d : Nat} {M : zMem} {Q : Option zV → zMem → Prop} (x1 : Int) (h :
  ∃ Q1, zCi d 110 [.inr (.inl x1), .inr (.inl 1), .inr (.inl 9999)] M Q1 ∧ ∀ v1 M1, Q1 v1 M1 →
  ((v1 : Int) ≠ 0 →
    ((M1 55 2 : Int) ≠ 0 →
      ∃ Q2, zCi d 158 [.inr (.inr 55)] M1 Q2 ∧ ∀ v2 M2, Q2 v2 M2 →
      zBg (d + 1) 161 31 [zR 55, zI x1, zI v2, zI 0] [] M2 Q) ∧
    (¬ (M1 55 2 : Int) ≠ 0 →
      Q (zI (-2)) M1)) ∧
  (¬ (v1 : Int) ≠ 0 →
    Q (zI (-1)) M1)) : zBg (d + 1) 161 0 [zR 55, zI x1, none, none] [] M Q :=
  zvc_ok (I := zm161) (cuts := [(31, [true, true, true, true])]) (n := 43) rfl h
set_option maxRecDepth 20000 in
theorem zv161_31 {d : Nat} {M : zMem} {Q : Option zV → zMem → Prop} (x1 : Int) (x2 : Int) (x3 : Int) (h :
  ((x3 : Int) ≥ 7 →
    Q (zI (-4)) M) ∧
  (¬ (x3 : Int) ≥ 7 →
    ∃ Q1, zCi d 159 [.inr (.inr 55), .inl x3] M Q1 ∧ ∀ v1 M1, Q1 v1 M1 →
    ((zlcmp (zlmul v1 x1) x2 : Int) > 0 →
      zR32 (x3 + 1) ∧ zBg (d + 1) 161 31 [zR 55, zI x1, zI x2, zI (x3 + 1)] [] M1 Q) ∧
    (¬ (zlcmp (zlmul v1 x1) x2 : Int) > 0 →
      Q (zI x3) M1))) : zBg (d + 1) 161 31 [zR 55, zI x1, zI x2, zI x3] [] M Q :=
  zvc_ok (I := zm161) (cuts := [(31, [true, true, true, true])]) (n := 43) rfl h
theorem zk161 {d : Nat} {M : zMem} {Q : Option zV → zMem → Prop} {x1 : Int} (h : zBg d 161 0 [zR 55, zI x1, none, none] [] M Q) : zCt d 161 [.inr (.inr 55), .inl x1] M Q := zCt_of (I := zm161) rfl rfl h
/-! CommaCopiesModel.puts(I)V , as 162 -/
set_option maxRecDepth 20000 in
theorem zv162_0 {d : Nat} {M : zMem} {Q : Option zV → zMem → Prop} (x1 : Int) (h :
  (0 : Int) ≤ x1 ∧ (x1 : Int) < 6 ∧ zBg d 162 16 [zR 55, zI x1, zI (M 60 x1.toNat), zI 1000000, zI 0, zI 0, none, none, none, none, none] [] M Q) : zBg d 162 0 [zR 55, zI x1, none, none, none, none, none, none, none, none, none] [] M Q :=
  zvc_ok (I := zm162) (cuts := [(16, [true, true, true, true, true, true, false, false, false, false, false]), (36, [true, true, true, true, true, true, true, true, true, true, false]), (126, [true, true, true, true, true, true, false, true, true, true, false]), (229, [true, false, false, false, true, true, false, false, false, false, false])]) (n := 151) rfl h
set_option maxRecDepth 20000 in
theorem zv162_16 {d : Nat} {M : zMem} {Q : Option zV → zMem → Prop} (x1 : Int) (x2 : Int) (x3 : Int) (x4 : Int) (x5 : Int) (h :
  ((x5 : Int) ≥ 256 →
    zBg d 162 229 [zR 55, none, none, none, zI x4, zI 0, none, none, none, none, none] [] M Q) ∧
  (¬ (x5 : Int) ≥ 256 →
    zBg d 162 36 [zR 55, zI x1, zI x2, zI x3, zI x4, zI x5, zI 0, zI 0, zI 1, zI 0, none] [] M Q)) : zBg d 162 16 [zR 55, zI x1, zI x2, zI x3, zI x4, zI x5, none, none, none, none, none] [] M Q :=
  zvc_ok (I := zm162) (cuts := [(16, [true, true, true, true, true, true, false, false, false, false, false]), (36, [true, true, true, true, true, true, true, true, true, true, false]), (126, [true, true, true, true, true, true, false, true, true, true, false]), (229, [true, false, false, false, true, true, false, false, false, false, false])]) (n := 151) rfl h
set_option maxRecDepth 20000 in
theorem zv162_229 {d : Nat} {M : zMem} {Q : Option zV → zMem → Prop} (x4 : Int) (x5 : Int) (h :
  ((x5 : Int) ≥ 4 →
    Q none M) ∧
  (¬ (x5 : Int) ≥ 4 →
    zR32 (2 * x5) ∧ zR32 (6 - (2 * x5)) ∧ (0 : Int) ≤ x5 ∧ (x5 : Int) < 4 ∧ zR32 (x5 + 1) ∧ zBg d 162 229 [zR 55, none, none, none, zI x4, zI (x5 + 1), none, none, none, none, none] [] (zup M 73 x5.toNat (ziand (zishr x4 (6 - (2 * x5))) 3)) Q)) : zBg d 162 229 [zR 55, none, none, none, zI x4, zI x5, none, none, none, none, none] [] M Q :=
  zvc_ok (I := zm162) (cuts := [(16, [true, true, true, true, true, true, false, false, false, false, false]), (36, [true, true, true, true, true, true, true, true, true, true, false]), (126, [true, true, true, true, true, true, false, true, true, true, false]), (229, [true, false, false, false, true, true, false, false, false, false, false])]) (n := 151) rfl h
set_option maxRecDepth 20000 in
theorem zv162_36 {d : Nat} {M : zMem} {Q : Option zV → zMem → Prop} (x1 : Int) (x2 : Int) (x3 : Int) (x4 : Int) (x5 : Int) (x6 : Int) (x7 : Int) (x8 : Int) (x9 : Int) (h :
  ((x9 : Int) ≥ 4 →
    zBg d 162 126 [zR 55, zI x1, zI x2, zI x3, zI x4, zI x5, none, zI x7, zI x8, zI 0, none] [] M Q) ∧
  (¬ (x9 : Int) ≥ 4 →
    zR32 (2 * x9) ∧ zR32 (6 - (2 * x9)) ∧ ((x8 : Int) = 0 →
      ((x9 : Int) ≥ x2 →
        zR32 (x9 + 1) ∧ zBg d 162 36 [zR 55, zI x1, zI x2, zI x3, zI x4, zI x5, zI (zior x6 0), zI x7, zI 0, zI (x9 + 1), none] [] M Q) ∧
      (¬ (x9 : Int) ≥ x2 →
        zR32 (x9 + 1) ∧ zBg d 162 36 [zR 55, zI x1, zI x2, zI x3, zI x4, zI x5, zI (zior x6 (zishl 1 (ziand (zishr x5 (6 - (2 * x9))) 3))), zI x7, zI 0, zI (x9 + 1), none] [] M Q)) ∧
    (¬ (x8 : Int) = 0 →
      ((x9 : Int) ≥ x2 →
        ((ziand (zishr x5 (6 - (2 * x9))) 3 : Int) ≠ 0 →
          ((x9 : Int) ≥ x2 →
            zR32 (x9 + 1) ∧ zBg d 162 36 [zR 55, zI x1, zI x2, zI x3, zI x4, zI x5, zI (zior x6 0), zI x7, zI 0, zI (x9 + 1), none] [] M Q) ∧
          (¬ (x9 : Int) ≥ x2 →
            zR32 (x9 + 1) ∧ zBg d 162 36 [zR 55, zI x1, zI x2, zI x3, zI x4, zI x5, zI (zior x6 (zishl 1 (ziand (zishr x5 (6 - (2 * x9))) 3))), zI x7, zI 0, zI (x9 + 1), none] [] M Q)) ∧
        (¬ (ziand (zishr x5 (6 - (2 * x9))) 3 : Int) ≠ 0 →
          ((x9 : Int) ≥ x2 →
            zR32 (x9 + 1) ∧ zBg d 162 36 [zR 55, zI x1, zI x2, zI x3, zI x4, zI x5, zI (zior x6 0), zI x7, zI 1, zI (x9 + 1), none] [] M Q) ∧
          (¬ (x9 : Int) ≥ x2 →
            zR32 (x9 + 1) ∧ zBg d 162 36 [zR 55, zI x1, zI x2, zI x3, zI x4, zI x5, zI (zior x6 (zishl 1 (ziand (zishr x5 (6 - (2 * x9))) 3))), zI x7, zI 1, zI (x9 + 1), none] [] M Q))) ∧
      (¬ (x9 : Int) ≥ x2 →
        ((ziand (zishr x5 (6 - (2 * x9))) 3 : Int) ≥ x2 →
          ((x9 : Int) ≥ x2 →
            zR32 (x9 + 1) ∧ zBg d 162 36 [zR 55, zI x1, zI x2, zI x3, zI x4, zI x5, zI (zior x6 0), zI x7, zI 0, zI (x9 + 1), none] [] M Q) ∧
          (¬ (x9 : Int) ≥ x2 →
            zR32 (x9 + 1) ∧ zBg d 162 36 [zR 55, zI x1, zI x2, zI x3, zI x4, zI x5, zI (zior x6 (zishl 1 (ziand (zishr x5 (6 - (2 * x9))) 3))), zI x7, zI 0, zI (x9 + 1), none] [] M Q)) ∧
        (¬ (ziand (zishr x5 (6 - (2 * x9))) 3 : Int) ≥ x2 →
          ((ziand (zishr x6 (ziand (zishr x5 (6 - (2 * x9))) 3)) 1 : Int) ≠ 0 →
            ((x9 : Int) ≥ x2 →
              zR32 (x9 + 1) ∧ zBg d 162 36 [zR 55, zI x1, zI x2, zI x3, zI x4, zI x5, zI (zior x6 0), zI x7, zI 0, zI (x9 + 1), none] [] M Q) ∧
            (¬ (x9 : Int) ≥ x2 →
              zR32 (x9 + 1) ∧ zBg d 162 36 [zR 55, zI x1, zI x2, zI x3, zI x4, zI x5, zI (zior x6 (zishl 1 (ziand (zishr x5 (6 - (2 * x9))) 3))), zI x7, zI 0, zI (x9 + 1), none] [] M Q)) ∧
          (¬ (ziand (zishr x6 (ziand (zishr x5 (6 - (2 * x9))) 3)) 1 : Int) ≠ 0 →
            ((x9 : Int) ≥ x2 →
              zR32 (x9 + 1) ∧ zBg d 162 36 [zR 55, zI x1, zI x2, zI x3, zI x4, zI x5, zI (zior x6 0), zI x7, zI 1, zI (x9 + 1), none] [] M Q) ∧
            (¬ (x9 : Int) ≥ x2 →
              zR32 (x9 + 1) ∧ zBg d 162 36 [zR 55, zI x1, zI x2, zI x3, zI x4, zI x5, zI (zior x6 (zishl 1 (ziand (zishr x5 (6 - (2 * x9))) 3))), zI x7, zI 1, zI (x9 + 1), none] [] M Q))))))) : zBg d 162 36 [zR 55, zI x1, zI x2, zI x3, zI x4, zI x5, zI x6, zI x7, zI x8, zI x9, none] [] M Q :=
  zvc_ok (I := zm162) (cuts := [(16, [true, true, true, true, true, true, false, false, false, false, false]), (36, [true, true, true, true, true, true, true, true, true, true, false]), (126, [true, true, true, true, true, true, false, true, true, true, false]), (229, [true, false, false, false, true, true, false, false, false, false, false])]) (n := 151) rfl h
set_option maxRecDepth 20000 in
theorem zv162_126 {d : Nat} {M : zMem} {Q : Option zV → zMem → Prop} (x1 : Int) (x2 : Int) (x3 : Int) (x4 : Int) (x5 : Int) (x7 : Int) (x8 : Int) (x9 : Int) (h :
  ((x9 : Int) ≥ (M 55 12) →
    ((x8 : Int) = 0 →
      ((x8 : Int) = 0 →
        zR32 (x5 + 1) ∧ zBg d 162 16 [zR 55, zI x1, zI x2, zI x3, zI x4, zI (x5 + 1), none, none, none, none, none] [] M Q) ∧
      (¬ (x8 : Int) = 0 →
        ((x7 : Int) ≥ x3 →
          zR32 (x5 + 1) ∧ zBg d 162 16 [zR 55, zI x1, zI x2, zI x3, zI x4, zI (x5 + 1), none, none, none, none, none] [] M Q) ∧
        (¬ (x7 : Int) ≥ x3 →
          zR32 (x5 + 1) ∧ zBg d 162 16 [zR 55, zI x1, zI x2, zI x7, zI x4, zI (x5 + 1), none, none, none, none, none] [] M Q))) ∧
    (¬ (x8 : Int) = 0 →
      ((x7 : Int) ≥ x3 →
        ((x8 : Int) = 0 →
          zR32 (x5 + 1) ∧ zBg d 162 16 [zR 55, zI x1, zI x2, zI x3, zI x4, zI (x5 + 1), none, none, none, none, none] [] M Q) ∧
        (¬ (x8 : Int) = 0 →
          ((x7 : Int) ≥ x3 →
            zR32 (x5 + 1) ∧ zBg d 162 16 [zR 55, zI x1, zI x2, zI x3, zI x4, zI (x5 + 1), none, none, none, none, none] [] M Q) ∧
          (¬ (x7 : Int) ≥ x3 →
            zR32 (x5 + 1) ∧ zBg d 162 16 [zR 55, zI x1, zI x2, zI x7, zI x4, zI (x5 + 1), none, none, none, none, none] [] M Q))) ∧
      (¬ (x7 : Int) ≥ x3 →
        ((x8 : Int) = 0 →
          zR32 (x5 + 1) ∧ zBg d 162 16 [zR 55, zI x1, zI x2, zI x3, zI x5, zI (x5 + 1), none, none, none, none, none] [] M Q) ∧
        (¬ (x8 : Int) = 0 →
          ((x7 : Int) ≥ x3 →
            zR32 (x5 + 1) ∧ zBg d 162 16 [zR 55, zI x1, zI x2, zI x3, zI x5, zI (x5 + 1), none, none, none, none, none] [] M Q) ∧
          (¬ (x7 : Int) ≥ x3 →
            zR32 (x5 + 1) ∧ zBg d 162 16 [zR 55, zI x1, zI x2, zI x7, zI x5, zI (x5 + 1), none, none, none, none, none] [] M Q))))) ∧
  (¬ (x9 : Int) ≥ (M 55 12) →
    ((x8 : Int) = 0 →
      ((x8 : Int) = 0 →
        ((x8 : Int) = 0 →
          zR32 (x5 + 1) ∧ zBg d 162 16 [zR 55, zI x1, zI x2, zI x3, zI x4, zI (x5 + 1), none, none, none, none, none] [] M Q) ∧
        (¬ (x8 : Int) = 0 →
          ((x7 : Int) ≥ x3 →
            zR32 (x5 + 1) ∧ zBg d 162 16 [zR 55, zI x1, zI x2, zI x3, zI x4, zI (x5 + 1), none, none, none, none, none] [] M Q) ∧
          (¬ (x7 : Int) ≥ x3 →
            zR32 (x5 + 1) ∧ zBg d 162 16 [zR 55, zI x1, zI x2, zI x7, zI x4, zI (x5 + 1), none, none, none, none, none] [] M Q))) ∧
      (¬ (x8 : Int) = 0 →
        ((x7 : Int) ≥ x3 →
          ((x8 : Int) = 0 →
            zR32 (x5 + 1) ∧ zBg d 162 16 [zR 55, zI x1, zI x2, zI x3, zI x4, zI (x5 + 1), none, none, none, none, none] [] M Q) ∧
          (¬ (x8 : Int) = 0 →
            ((x7 : Int) ≥ x3 →
              zR32 (x5 + 1) ∧ zBg d 162 16 [zR 55, zI x1, zI x2, zI x3, zI x4, zI (x5 + 1), none, none, none, none, none] [] M Q) ∧
            (¬ (x7 : Int) ≥ x3 →
              zR32 (x5 + 1) ∧ zBg d 162 16 [zR 55, zI x1, zI x2, zI x7, zI x4, zI (x5 + 1), none, none, none, none, none] [] M Q))) ∧
        (¬ (x7 : Int) ≥ x3 →
          ((x8 : Int) = 0 →
            zR32 (x5 + 1) ∧ zBg d 162 16 [zR 55, zI x1, zI x2, zI x3, zI x5, zI (x5 + 1), none, none, none, none, none] [] M Q) ∧
          (¬ (x8 : Int) = 0 →
            ((x7 : Int) ≥ x3 →
              zR32 (x5 + 1) ∧ zBg d 162 16 [zR 55, zI x1, zI x2, zI x3, zI x5, zI (x5 + 1), none, none, none, none, none] [] M Q) ∧
            (¬ (x7 : Int) ≥ x3 →
              zR32 (x5 + 1) ∧ zBg d 162 16 [zR 55, zI x1, zI x2, zI x7, zI x5, zI (x5 + 1), none, none, none, none, none] [] M Q))))) ∧
    (¬ (x8 : Int) = 0 →
      zR32 (4 * x1) ∧ zR32 (6 * x9) ∧ zR32 ((6 * x9) + x1) ∧ (0 : Int) ≤ ((6 * x9) + x1) ∧ ((6 * x9) + x1 : Int) < 48 ∧ zR32 (2 * (M 65 (((6 * x9) + x1).toNat))) ∧ zR32 (6 - (2 * (M 65 (((6 * x9) + x1).toNat)))) ∧ zR32 ((4 * x1) + (ziand (zishr x5 (6 - (2 * (M 65 (((6 * x9) + x1).toNat))))) 3)) ∧ (0 : Int) ≤ ((4 * x1) + (ziand (zishr x5 (6 - (2 * (M 65 (((6 * x9) + x1).toNat))))) 3)) ∧ ((4 * x1) + (ziand (zishr x5 (6 - (2 * (M 65 (((6 * x9) + x1).toNat))))) 3) : Int) < 24 ∧ zR32 (x7 + (M 63 (((4 * x1) + (ziand (zishr x5 (6 - (2 * (M 65 (((6 * x9) + x1).toNat))))) 3)).toNat))) ∧ zR32 (x9 + 1) ∧ zBg d 162 126 [zR 55, zI x1, zI x2, zI x3, zI x4, zI x5, none, zI (x7 + (M 63 (((4 * x1) + (ziand (zishr x5 (6 - (2 * (M 65 (((6 * x9) + x1).toNat))))) 3)).toNat))), zI x8, zI (x9 + 1), none] [] M Q))) : zBg d 162 126 [zR 55, zI x1, zI x2, zI x3, zI x4, zI x5, none, zI x7, zI x8, zI x9, none] [] M Q :=
  zvc_ok (I := zm162) (cuts := [(16, [true, true, true, true, true, true, false, false, false, false, false]), (36, [true, true, true, true, true, true, true, true, true, true, false]), (126, [true, true, true, true, true, true, false, true, true, true, false]), (229, [true, false, false, false, true, true, false, false, false, false, false])]) (n := 151) rfl h
theorem zk162 {d : Nat} {M : zMem} {Q : Option zV → zMem → Prop} {x1 : Int} (h : zBg d 162 0 [zR 55, zI x1, none, none, none, none, none, none, none, none, none] [] M Q) : zCt d 162 [.inr (.inr 55), .inl x1] M Q := zCt_of (I := zm162) rfl rfl h
/-! CommaCopiesModel.put(II)I , as 163 -/
set_option maxRecDepth 20000 in
theorem zv163_0 {d : Nat} {M : zMem} {Q : Option zV → zMem → Prop} (x1 : Int) (x2 : Int) (h :
  ∃ Q1, zCi d 116 [.inr (.inr 55), .inl x1, .inl x2] M Q1 ∧ ∀ v1 M1, Q1 v1 M1 →
  ((v1 : Int) ≠ 0 →
    ∃ Q2, zCv d 162 [.inr (.inr 55), .inl x1] M1 Q2 ∧ ∀ M2, Q2 M2 →
    (0 : Int) ≤ x2 ∧ (x2 : Int) < 4 ∧ Q (zI (M2 73 x2.toNat)) M2) ∧
  (¬ (v1 : Int) ≠ 0 →
    Q (zI (-1)) M1)) : zBg (d + 1) 163 0 [zR 55, zI x1, zI x2] [] M Q :=
  zvc_ok (I := zm163) (cuts := []) (n := 20) rfl h
theorem zk163 {d : Nat} {M : zMem} {Q : Option zV → zMem → Prop} {x1 : Int} {x2 : Int} (h : zBg d 163 0 [zR 55, zI x1, zI x2] [] M Q) : zCt d 163 [.inr (.inr 55), .inl x1, .inl x2] M Q := zCt_of (I := zm163) rfl rfl h
/-! CommaCopiesModel.putAll()I , as 164 -/
set_option maxRecDepth 20000 in
theorem zv164_0 {d : Nat} {M : zMem} {Q : Option zV → zMem → Prop} (h :
  ((M 55 2 : Int) ≠ 0 →
    zBg d 164 12 [zR 55, zI 0, none] [] M Q) ∧
  (¬ (M 55 2 : Int) ≠ 0 →
    Q (zI (-2)) M)) : zBg d 164 0 [zR 55, none, none] [] M Q :=
  zvc_ok (I := zm164) (cuts := [(12, [true, true, false]), (27, [true, true, true]), (78, [true, true, true])]) (n := 66) rfl h
set_option maxRecDepth 20000 in
theorem zv164_12 {d : Nat} {M : zMem} {Q : Option zV → zMem → Prop} (x1 : Int) (h :
  ((x1 : Int) ≥ (M 55 4) →
    zBg (d + 1) 164 78 [zR 55, zI 0, zI 0] [] M Q) ∧
  (¬ (x1 : Int) ≥ (M 55 4) →
    ∃ Q1, zCv d 162 [.inr (.inr 55), .inl x1] M Q1 ∧ ∀ M1, Q1 M1 →
    zBg (d + 1) 164 27 [zR 55, zI x1, zI 0] [] M1 Q)) : zBg (d + 1) 164 12 [zR 55, zI x1, none] [] M Q :=
  zvc_ok (I := zm164) (cuts := [(12, [true, true, false]), (27, [true, true, true]), (78, [true, true, true])]) (n := 66) rfl h
set_option maxRecDepth 20000 in
theorem zv164_78 {d : Nat} {M : zMem} {Q : Option zV → zMem → Prop} (x1 : Int) (x2 : Int) (h :
  ((x2 : Int) ≥ (M 55 12) →
    Q (zI x1) M) ∧
  (¬ (x2 : Int) ≥ (M 55 12) →
    ∃ Q1, zCi d 126 [.inr (.inr 55), .inl x2] M Q1 ∧ ∀ v1 M1, Q1 v1 M1 →
    zR32 (x1 + v1) ∧ zR32 (x2 + 1) ∧ zBg (d + 1) 164 78 [zR 55, zI (x1 + v1), zI (x2 + 1)] [] M1 Q)) : zBg (d + 1) 164 78 [zR 55, zI x1, zI x2] [] M Q :=
  zvc_ok (I := zm164) (cuts := [(12, [true, true, false]), (27, [true, true, true]), (78, [true, true, true])]) (n := 66) rfl h
set_option maxRecDepth 20000 in
theorem zv164_27 {d : Nat} {M : zMem} {Q : Option zV → zMem → Prop} (x1 : Int) (x2 : Int) (h :
  ((x2 : Int) ≥ (M 55 12) →
    zR32 (x1 + 1) ∧ zBg d 164 12 [zR 55, zI (x1 + 1), none] [] M Q) ∧
  (¬ (x2 : Int) ≥ (M 55 12) →
    zR32 (6 * x2) ∧ zR32 ((6 * x2) + x1) ∧ zR32 (6 * x2) ∧ zR32 ((6 * x2) + x1) ∧ (0 : Int) ≤ ((6 * x2) + x1) ∧ ((6 * x2) + x1 : Int) < 48 ∧ (0 : Int) ≤ (M 65 (((6 * x2) + x1).toNat)) ∧ (M 65 (((6 * x2) + x1).toNat) : Int) < 4 ∧ (0 : Int) ≤ ((6 * x2) + x1) ∧ ((6 * x2) + x1 : Int) < 48 ∧ zR32 (x2 + 1) ∧ zBg d 164 27 [zR 55, zI x1, zI (x2 + 1)] [] (zup M 65 (((6 * x2) + x1).toNat) (M 73 ((M 65 (((6 * x2) + x1).toNat)).toNat))) Q)) : zBg d 164 27 [zR 55, zI x1, zI x2] [] M Q :=
  zvc_ok (I := zm164) (cuts := [(12, [true, true, false]), (27, [true, true, true]), (78, [true, true, true])]) (n := 66) rfl h
theorem zk164 {d : Nat} {M : zMem} {Q : Option zV → zMem → Prop} (h : zBg d 164 0 [zR 55, none, none] [] M Q) : zCt d 164 [.inr (.inr 55)] M Q := zCt_of (I := zm164) rfl rfl h
/-! CommaCopiesModel.hidden(II)I , as 165 -/
set_option maxRecDepth 20000 in
theorem zv165_0 {d : Nat} {M : zMem} {Q : Option zV → zMem → Prop} (x1 : Int) (x2 : Int) (h :
  ∃ Q1, zCi d 139 [.inr (.inr 55), .inl x1] M Q1 ∧ ∀ v1 M1, Q1 v1 M1 →
  ((v1 : Int) = 0 →
    Q (zI (-1)) M1) ∧
  (¬ (v1 : Int) = 0 →
    zR32 ((M1 55 4) - 1) ∧ ∃ Q2, zCi d 110 [.inr (.inl x2), .inr (.inl (-1)), .inr (.inl ((M1 55 4) - 1))] M1 Q2 ∧ ∀ v2 M2, Q2 v2 M2 →
    ((v2 : Int) ≠ 0 →
      ∃ Q3, zCv d 137 [.inr (.inr 55)] M2 Q3 ∧ ∀ M3, Q3 M3 →
      zBg (d + 1) 165 38 [zR 55, zI x1, zI x2, zI 100, zI 1, none, none, none] [] M3 Q) ∧
    (¬ (v2 : Int) ≠ 0 →
      Q (zI (-1)) M2))) : zBg (d + 1) 165 0 [zR 55, zI x1, zI x2, none, none, none, none, none] [] M Q :=
  zvc_ok (I := zm165) (cuts := [(38, [true, true, true, true, true, false, false, false]), (71, [true, true, true, true, false, true, true, false]), (138, [true, true, true, true, false, true, true, false])]) (n := 115) rfl h
set_option maxRecDepth 20000 in
theorem zv165_38 {d : Nat} {M : zMem} {Q : Option zV → zMem → Prop} (x1 : Int) (x2 : Int) (x3 : Int) (x4 : Int) (h :
  ((x4 : Int) = 0 →
    ((x2 : Int) ≥ 0 →
      (0 : Int) ≤ x2 ∧ (x2 : Int) < 6 ∧ Q (zI (M 74 x2.toNat)) M) ∧
    (¬ (x2 : Int) ≥ 0 →
      Q (zI x3) M)) ∧
  (¬ (x4 : Int) = 0 →
    ∃ Q1, zCi d 131 [.inr (.inr 55), .inl x1, .inr (.inr 70), .inl 0, .inl (M 55 15)] M Q1 ∧ ∀ v1 M1, Q1 v1 M1 →
    ((v1 : Int) = 0 →
      zBg (d + 1) 165 71 [zR 55, zI x1, zI x2, zI x3, none, zI 100, zI 0, none] [] M1 Q) ∧
    (¬ (v1 : Int) = 0 →
      zBg (d + 1) 165 71 [zR 55, zI x1, zI x2, zI x3, none, zI 0, zI 0, none] [] M1 Q))) : zBg (d + 1) 165 38 [zR 55, zI x1, zI x2, zI x3, zI x4, none, none, none] [] M Q :=
  zvc_ok (I := zm165) (cuts := [(38, [true, true, true, true, true, false, false, false]), (71, [true, true, true, true, false, true, true, false]), (138, [true, true, true, true, false, true, true, false])]) (n := 115) rfl h
set_option maxRecDepth 20000 in
theorem zv165_71 {d : Nat} {M : zMem} {Q : Option zV → zMem → Prop} (x1 : Int) (x2 : Int) (x3 : Int) (x5 : Int) (x6 : Int) (h :
  ((x6 : Int) ≥ (M 55 12) →
    zBg (d + 1) 165 138 [zR 55, zI x1, zI x2, zI x3, none, zI x5, zI 0, none] [] M Q) ∧
  (¬ (x6 : Int) ≥ (M 55 12) →
    ((x5 : Int) ≥ 100 →
      zBg (d + 1) 165 138 [zR 55, zI x1, zI x2, zI x3, none, zI x5, zI 0, none] [] M Q) ∧
    (¬ (x5 : Int) ≥ 100 →
      ((ziand (zishr x1 x6) 1 : Int) ≠ 1 →
        ((0 : Int) ≤ x5 →
          zR32 (x6 + 1) ∧ zBg (d + 1) 165 71 [zR 55, zI x1, zI x2, zI x3, none, zI x5, zI (x6 + 1), none] [] M Q) ∧
        (¬ (0 : Int) ≤ x5 →
          zR32 (x6 + 1) ∧ zBg (d + 1) 165 71 [zR 55, zI x1, zI x2, zI x3, none, zI 0, zI (x6 + 1), none] [] M Q)) ∧
      (¬ (ziand (zishr x1 x6) 1 : Int) ≠ 1 →
        ∃ Q1, zCi d 156 [.inr (.inr 55), .inl x6, .inr (.inr 70)] M Q1 ∧ ∀ v1 M1, Q1 v1 M1 →
        ((v1 : Int) ≤ x5 →
          zR32 (x6 + 1) ∧ zBg (d + 1) 165 71 [zR 55, zI x1, zI x2, zI x3, none, zI x5, zI (x6 + 1), none] [] M1 Q) ∧
        (¬ (v1 : Int) ≤ x5 →
          zR32 (x6 + 1) ∧ zBg (d + 1) 165 71 [zR 55, zI x1, zI x2, zI x3, none, zI v1, zI (x6 + 1), none] [] M1 Q))))) : zBg (d + 1) 165 71 [zR 55, zI x1, zI x2, zI x3, none, zI x5, zI x6, none] [] M Q :=
  zvc_ok (I := zm165) (cuts := [(38, [true, true, true, true, true, false, false, false]), (71, [true, true, true, true, false, true, true, false]), (138, [true, true, true, true, false, true, true, false])]) (n := 115) rfl h
set_option maxRecDepth 20000 in
theorem zv165_138 {d : Nat} {M : zMem} {Q : Option zV → zMem → Prop} (x1 : Int) (x2 : Int) (x3 : Int) (x5 : Int) (x6 : Int) (h :
  ((x6 : Int) ≥ (M 55 4) →
    ((x5 : Int) ≥ x3 →
      ∃ Q1, zCi d 136 [.inr (.inr 55), .inl 1] M Q1 ∧ ∀ v1 M1, Q1 v1 M1 →
      zBg (d + 1) 165 38 [zR 55, zI x1, zI x2, zI x3, zI v1, none, none, none] [] M1 Q) ∧
    (¬ (x5 : Int) ≥ x3 →
      ∃ Q2, zCi d 136 [.inr (.inr 55), .inl 1] M Q2 ∧ ∀ v2 M2, Q2 v2 M2 →
      zBg (d + 1) 165 38 [zR 55, zI x1, zI x2, zI x5, zI v2, none, none, none] [] M2 Q)) ∧
  (¬ (x6 : Int) ≥ (M 55 4) →
    ((x5 : Int) ≥ x3 →
      ((x5 : Int) ≥ x3 →
        ∃ Q3, zCi d 136 [.inr (.inr 55), .inl 1] M Q3 ∧ ∀ v3 M3, Q3 v3 M3 →
        zBg (d + 1) 165 38 [zR 55, zI x1, zI x2, zI x3, zI v3, none, none, none] [] M3 Q) ∧
      (¬ (x5 : Int) ≥ x3 →
        ∃ Q4, zCi d 136 [.inr (.inr 55), .inl 1] M Q4 ∧ ∀ v4 M4, Q4 v4 M4 →
        zBg (d + 1) 165 38 [zR 55, zI x1, zI x2, zI x5, zI v4, none, none, none] [] M4 Q)) ∧
    (¬ (x5 : Int) ≥ x3 →
      (0 : Int) ≤ x6 ∧ (x6 : Int) < 6 ∧ (0 : Int) ≤ x6 ∧ (x6 : Int) < 6 ∧ zR32 (x6 + 1) ∧ zBg (d + 1) 165 138 [zR 55, zI x1, zI x2, zI x3, none, zI x5, zI (x6 + 1), none] [] (zup M 74 x6.toNat (M 70 x6.toNat)) Q))) : zBg (d + 1) 165 138 [zR 55, zI x1, zI x2, zI x3, none, zI x5, zI x6, none] [] M Q :=
  zvc_ok (I := zm165) (cuts := [(38, [true, true, true, true, true, false, false, false]), (71, [true, true, true, true, false, true, true, false]), (138, [true, true, true, true, false, true, true, false])]) (n := 115) rfl h
theorem zk165 {d : Nat} {M : zMem} {Q : Option zV → zMem → Prop} {x1 : Int} {x2 : Int} (h : zBg d 165 0 [zR 55, zI x1, zI x2, none, none, none, none, none] [] M Q) : zCt d 165 [.inr (.inr 55), .inl x1, .inl x2] M Q := zCt_of (I := zm165) rfl rfl h
/-! CommaCopiesModel.keep()I , as 166 -/
set_option maxRecDepth 20000 in
theorem zv166_0 {d : Nat} {M : zMem} {Q : Option zV → zMem → Prop} (h :
  ((M 55 2 : Int) ≠ 0 →
    ((M 55 17 : Int) ≠ 6 →
      zBg d 166 24 [zR 55, zI 0] [] M Q) ∧
    (¬ (M 55 17 : Int) ≠ 6 →
      Q (zI (-3)) M)) ∧
  (¬ (M 55 2 : Int) ≠ 0 →
    Q (zI (-2)) M)) : zBg d 166 0 [zR 55, none] [] M Q :=
  zvc_ok (I := zm166) (cuts := [(24, [true, true])]) (n := 69) rfl h
set_option maxRecDepth 20000 in
theorem zv166_24 {d : Nat} {M : zMem} {Q : Option zV → zMem → Prop} (x1 : Int) (h :
  ((x1 : Int) ≥ 6 →
    zR32 (8 * (M 55 17)) ∧ zR32 ((8 * (M 55 17)) + 6) ∧ (0 : Int) ≤ ((8 * (M 55 17)) + 6) ∧ ((8 * (M 55 17)) + 6 : Int) < 48 ∧ zR32 (8 * (M 55 17)) ∧ zR32 ((8 * (M 55 17)) + 7) ∧ (0 : Int) ≤ ((8 * (M 55 17)) + 7) ∧ ((8 * (M 55 17)) + 7 : Int) < 48 ∧ zR32 ((M 55 17) + 1) ∧ zR32 (((M 55 17) + 1) - 1) ∧ Q (zI (((M 55 17) + 1) - 1)) (zup (zup (zup M 67 (((8 * (M 55 17)) + 6).toNat) (M 55 14)) 67 (((8 * (M 55 17)) + 7).toNat) (M 55 15)) 55 17 ((M 55 17) + 1))) ∧
  (¬ (x1 : Int) ≥ 6 →
    zR32 (8 * (M 55 17)) ∧ zR32 ((8 * (M 55 17)) + x1) ∧ (0 : Int) ≤ x1 ∧ (x1 : Int) < 6 ∧ (0 : Int) ≤ ((8 * (M 55 17)) + x1) ∧ ((8 * (M 55 17)) + x1 : Int) < 48 ∧ zR32 (x1 + 1) ∧ zBg d 166 24 [zR 55, zI (x1 + 1)] [] (zup M 67 (((8 * (M 55 17)) + x1).toNat) (M 66 x1.toNat)) Q)) : zBg d 166 24 [zR 55, zI x1] [] M Q :=
  zvc_ok (I := zm166) (cuts := [(24, [true, true])]) (n := 69) rfl h
theorem zk166 {d : Nat} {M : zMem} {Q : Option zV → zMem → Prop} (h : zBg d 166 0 [zR 55, none] [] M Q) : zCt d 166 [.inr (.inr 55)] M Q := zCt_of (I := zm166) rfl rfl h
/-! CommaCopiesModel.past(II)I , as 167 -/
set_option maxRecDepth 20000 in
theorem zv167_0 {d : Nat} {M : zMem} {Q : Option zV → zMem → Prop} (x1 : Int) (x2 : Int) (h :
  ∃ Q1, zCi d 121 [.inr (.inr 55), .inl x1] M Q1 ∧ ∀ v1 M1, Q1 v1 M1 →
  ((v1 : Int) = 0 →
    Q (zI (-1)) M1) ∧
  (¬ (v1 : Int) = 0 →
    ∃ Q2, zCi d 110 [.inr (.inl x2), .inr (.inl 0), .inr (.inl 1)] M1 Q2 ∧ ∀ v2 M2, Q2 v2 M2 →
    ((v2 : Int) ≠ 0 →
      zBg (d + 1) 167 25 [zR 55, zI x1, zI x2, zI 0, zI 0, none] [] M2 Q) ∧
    (¬ (v2 : Int) ≠ 0 →
      Q (zI (-1)) M2))) : zBg (d + 1) 167 0 [zR 55, zI x1, zI x2, none, none, none] [] M Q :=
  zvc_ok (I := zm167) (cuts := [(25, [true, true, true, true, true, false])]) (n := 65) rfl h
set_option maxRecDepth 20000 in
theorem zv167_25 {d : Nat} {M : zMem} {Q : Option zV → zMem → Prop} (x1 : Int) (x2 : Int) (x3 : Int) (x4 : Int) (h :
  ((x4 : Int) ≥ (M 55 17) →
    Q (zI x3) M) ∧
  (¬ (x4 : Int) ≥ (M 55 17) →
    zR32 (8 * x4) ∧ zR32 (8 * x4) ∧ zR32 ((8 * x4) + 6) ∧ (0 : Int) ≤ ((8 * x4) + 6) ∧ ((8 * x4) + 6 : Int) < 48 ∧ zR32 (8 * x4) ∧ zR32 ((8 * x4) + 7) ∧ (0 : Int) ≤ ((8 * x4) + 7) ∧ ((8 * x4) + 7 : Int) < 48 ∧ ∃ Q1, zCi d 133 [.inr (.inr 55), .inr (.inr 67), .inl (8 * x4), .inl (M 67 (((8 * x4) + 6).toNat)), .inl (M 67 (((8 * x4) + 7).toNat))] M Q1 ∧ ∀ v1 M1, Q1 v1 M1 →
    zR32 (8 * x2) ∧ zR32 (x1 + (8 * x2)) ∧ zR32 (x3 + (ziand (zishr v1 (x1 + (8 * x2))) 1)) ∧ zR32 (x4 + 1) ∧ zBg (d + 1) 167 25 [zR 55, zI x1, zI x2, zI (x3 + (ziand (zishr v1 (x1 + (8 * x2))) 1)), zI (x4 + 1), none] [] M1 Q)) : zBg (d + 1) 167 25 [zR 55, zI x1, zI x2, zI x3, zI x4, none] [] M Q :=
  zvc_ok (I := zm167) (cuts := [(25, [true, true, true, true, true, false])]) (n := 65) rfl h
theorem zk167 {d : Nat} {M : zMem} {Q : Option zV → zMem → Prop} {x1 : Int} {x2 : Int} (h : zBg d 167 0 [zR 55, zI x1, zI x2, none, none, none] [] M Q) : zCt d 167 [.inr (.inr 55), .inl x1, .inl x2] M Q := zCt_of (I := zm167) rfl rfl h
/-! CommaCopiesModel.saves([I[II)I , as 168 -/
set_option maxRecDepth 20000 in
theorem zv168_0 {d : Nat} {M : zMem} {Q : Option zV → zMem → Prop} (a0 : Nat) (a1 : Nat) (x2 : Int) (h :
  zBg d 168 2 [zR a0, zR a1, zI x2, zI 0] [] M Q) : zBg d 168 0 [zR a0, zR a1, zI x2, none] [] M Q :=
  zvc_ok (I := zm168) (cuts := [(2, [true, true, true, true])]) (n := 26) rfl h
set_option maxRecDepth 20000 in
theorem zv168_2 {d : Nat} {M : zMem} {Q : Option zV → zMem → Prop} (a0 : Nat) (a1 : Nat) (x2 : Int) (x3 : Int) (h :
  zln a0 fun n0 => ((x3 : Int) ≥ n0 →
    zln a0 fun n1 => zR32 (x2 + n1) ∧ Q (zI (x2 + n1)) M) ∧
  (¬ (x3 : Int) ≥ n0 →
    zR32 (x2 + x3) ∧ zar a0 0 fun n => (0 : Int) ≤ x3 ∧ (x3 : Int) < n ∧ zar a1 0 fun n => (0 : Int) ≤ (x2 + x3) ∧ (x2 + x3 : Int) < n ∧ zR32 (x3 + 1) ∧ zBg d 168 2 [zR a0, zR a1, zI x2, zI (x3 + 1)] [] (zup M a1 ((x2 + x3).toNat) (M a0 x3.toNat)) Q)) : zBg d 168 2 [zR a0, zR a1, zI x2, zI x3] [] M Q :=
  zvc_ok (I := zm168) (cuts := [(2, [true, true, true, true])]) (n := 26) rfl h
theorem zk168 {d : Nat} {M : zMem} {Q : Option zV → zMem → Prop} {a0 : Nat} {a1 : Nat} {x2 : Int} (h : zBg d 168 0 [zR a0, zR a1, zI x2, none] [] M Q) : zCt d 168 [.inr (.inr a0), .inr (.inr a1), .inl x2] M Q := zCt_of (I := zm168) rfl rfl h
/-! CommaCopiesModel.gives([II[I)I , as 169 -/
set_option maxRecDepth 20000 in
theorem zv169_0 {d : Nat} {M : zMem} {Q : Option zV → zMem → Prop} (a0 : Nat) (x1 : Int) (a2 : Nat) (h :
  zBg d 169 2 [zR a0, zI x1, zR a2, zI 0] [] M Q) : zBg d 169 0 [zR a0, zI x1, zR a2, none] [] M Q :=
  zvc_ok (I := zm169) (cuts := [(2, [true, true, true, true])]) (n := 26) rfl h
set_option maxRecDepth 20000 in
theorem zv169_2 {d : Nat} {M : zMem} {Q : Option zV → zMem → Prop} (a0 : Nat) (x1 : Int) (a2 : Nat) (x3 : Int) (h :
  zln a2 fun n0 => ((x3 : Int) ≥ n0 →
    zln a2 fun n1 => zR32 (x1 + n1) ∧ Q (zI (x1 + n1)) M) ∧
  (¬ (x3 : Int) ≥ n0 →
    zR32 (x1 + x3) ∧ zar a0 0 fun n => (0 : Int) ≤ (x1 + x3) ∧ (x1 + x3 : Int) < n ∧ zar a2 0 fun n => (0 : Int) ≤ x3 ∧ (x3 : Int) < n ∧ zR32 (x3 + 1) ∧ zBg d 169 2 [zR a0, zI x1, zR a2, zI (x3 + 1)] [] (zup M a2 x3.toNat (M a0 ((x1 + x3).toNat))) Q)) : zBg d 169 2 [zR a0, zI x1, zR a2, zI x3] [] M Q :=
  zvc_ok (I := zm169) (cuts := [(2, [true, true, true, true])]) (n := 26) rfl h
theorem zk169 {d : Nat} {M : zMem} {Q : Option zV → zMem → Prop} {a0 : Nat} {x1 : Int} {a2 : Nat} (h : zBg d 169 0 [zR a0, zI x1, zR a2, none] [] M Q) : zCt d 169 [.inr (.inr a0), .inl x1, .inr (.inr a2)] M Q := zCt_of (I := zm169) rfl rfl h
/-! CommaCopiesModel.image()I , as 170 -/
set_option maxRecDepth 20000 in
theorem zv170_0 {d : Nat} {M : zMem} {Q : Option zV → zMem → Prop} (h :
  ∃ Q1, zCi d 168 [.inr (.inr 57), .inr (.inr 75), .inl 0] M Q1 ∧ ∀ v1 M1, Q1 v1 M1 →
  ∃ Q2, zCi d 168 [.inr (.inr 58), .inr (.inr 75), .inl v1] M1 Q2 ∧ ∀ v2 M2, Q2 v2 M2 →
  ∃ Q3, zCi d 168 [.inr (.inr 59), .inr (.inr 75), .inl v2] M2 Q3 ∧ ∀ v3 M3, Q3 v3 M3 →
  ∃ Q4, zCi d 168 [.inr (.inr 60), .inr (.inr 75), .inl v3] M3 Q4 ∧ ∀ v4 M4, Q4 v4 M4 →
  ∃ Q5, zCi d 168 [.inr (.inr 61), .inr (.inr 75), .inl v4] M4 Q5 ∧ ∀ v5 M5, Q5 v5 M5 →
  ∃ Q6, zCi d 168 [.inr (.inr 62), .inr (.inr 75), .inl v5] M5 Q6 ∧ ∀ v6 M6, Q6 v6 M6 →
  ∃ Q7, zCi d 168 [.inr (.inr 63), .inr (.inr 75), .inl v6] M6 Q7 ∧ ∀ v7 M7, Q7 v7 M7 →
  ∃ Q8, zCi d 168 [.inr (.inr 64), .inr (.inr 75), .inl v7] M7 Q8 ∧ ∀ v8 M8, Q8 v8 M8 →
  ∃ Q9, zCi d 168 [.inr (.inr 65), .inr (.inr 75), .inl v8] M8 Q9 ∧ ∀ v9 M9, Q9 v9 M9 →
  ∃ Q10, zCi d 168 [.inr (.inr 66), .inr (.inr 75), .inl v9] M9 Q10 ∧ ∀ v10 M10, Q10 v10 M10 →
  ∃ Q11, zCi d 168 [.inr (.inr 67), .inr (.inr 75), .inl v10] M10 Q11 ∧ ∀ v11 M11, Q11 v11 M11 →
  (0 : Int) ≤ v11 ∧ (v11 : Int) < 480 ∧ zR32 (v11 + 1) ∧ (0 : Int) ≤ (v11 + 1) ∧ (v11 + 1 : Int) < 480 ∧ zR32 (v11 + 2) ∧ (0 : Int) ≤ (v11 + 2) ∧ (v11 + 2 : Int) < 480 ∧ zR32 (v11 + 3) ∧ (0 : Int) ≤ (v11 + 3) ∧ (v11 + 3 : Int) < 480 ∧ zR32 (v11 + 4) ∧ (0 : Int) ≤ (v11 + 4) ∧ (v11 + 4 : Int) < 480 ∧ zR32 (v11 + 5) ∧ (0 : Int) ≤ (v11 + 5) ∧ (v11 + 5 : Int) < 480 ∧ ((1 : Int) = 0 ∨ (1 : Int) = 1) ∧ Q (zI 1) (zup (zup (zup (zup (zup (zup (zup M11 75 v11.toNat (M11 55 2)) 75 ((v11 + 1).toNat) (M11 55 4)) 75 ((v11 + 2).toNat) (M11 55 12)) 75 ((v11 + 3).toNat) (M11 55 14)) 75 ((v11 + 4).toNat) (M11 55 15)) 75 ((v11 + 5).toNat) (M11 55 17)) 55 31 1)) : zBg (d + 1) 170 0 [zR 55, none] [] M Q :=
  zvc_ok (I := zm170) (cuts := []) (n := 133) rfl h
theorem zk170 {d : Nat} {M : zMem} {Q : Option zV → zMem → Prop} (h : zBg d 170 0 [zR 55, none] [] M Q) : zCt d 170 [.inr (.inr 55)] M Q := zCt_of (I := zm170) rfl rfl h
/-! CommaCopiesModel.restore()I , as 171 -/
set_option maxRecDepth 20000 in
theorem zv171_0 {d : Nat} {M : zMem} {Q : Option zV → zMem → Prop} (h :
  ((M 55 31 : Int) ≠ 0 →
    ∃ Q1, zCi d 169 [.inr (.inr 75), .inl 0, .inr (.inr 57)] M Q1 ∧ ∀ v1 M1, Q1 v1 M1 →
    ∃ Q2, zCi d 169 [.inr (.inr 75), .inl v1, .inr (.inr 58)] M1 Q2 ∧ ∀ v2 M2, Q2 v2 M2 →
    ∃ Q3, zCi d 169 [.inr (.inr 75), .inl v2, .inr (.inr 59)] M2 Q3 ∧ ∀ v3 M3, Q3 v3 M3 →
    ∃ Q4, zCi d 169 [.inr (.inr 75), .inl v3, .inr (.inr 60)] M3 Q4 ∧ ∀ v4 M4, Q4 v4 M4 →
    ∃ Q5, zCi d 169 [.inr (.inr 75), .inl v4, .inr (.inr 61)] M4 Q5 ∧ ∀ v5 M5, Q5 v5 M5 →
    ∃ Q6, zCi d 169 [.inr (.inr 75), .inl v5, .inr (.inr 62)] M5 Q6 ∧ ∀ v6 M6, Q6 v6 M6 →
    ∃ Q7, zCi d 169 [.inr (.inr 75), .inl v6, .inr (.inr 63)] M6 Q7 ∧ ∀ v7 M7, Q7 v7 M7 →
    ∃ Q8, zCi d 169 [.inr (.inr 75), .inl v7, .inr (.inr 64)] M7 Q8 ∧ ∀ v8 M8, Q8 v8 M8 →
    ∃ Q9, zCi d 169 [.inr (.inr 75), .inl v8, .inr (.inr 65)] M8 Q9 ∧ ∀ v9 M9, Q9 v9 M9 →
    ∃ Q10, zCi d 169 [.inr (.inr 75), .inl v9, .inr (.inr 66)] M9 Q10 ∧ ∀ v10 M10, Q10 v10 M10 →
    ∃ Q11, zCi d 169 [.inr (.inr 75), .inl v10, .inr (.inr 67)] M10 Q11 ∧ ∀ v11 M11, Q11 v11 M11 →
    (0 : Int) ≤ v11 ∧ (v11 : Int) < 480 ∧ zR32 (v11 + 1) ∧ (0 : Int) ≤ (v11 + 1) ∧ (v11 + 1 : Int) < 480 ∧ zR32 (v11 + 2) ∧ (0 : Int) ≤ (v11 + 2) ∧ (v11 + 2 : Int) < 480 ∧ zR32 (v11 + 3) ∧ (0 : Int) ≤ (v11 + 3) ∧ (v11 + 3 : Int) < 480 ∧ zR32 (v11 + 4) ∧ (0 : Int) ≤ (v11 + 4) ∧ (v11 + 4 : Int) < 480 ∧ zR32 (v11 + 5) ∧ (0 : Int) ≤ (v11 + 5) ∧ (v11 + 5 : Int) < 480 ∧ Q (zI 1) (zup (zup (zup (zup (zup (zup M11 55 2 (M11 75 v11.toNat)) 55 4 (M11 75 ((v11 + 1).toNat))) 55 12 (M11 75 ((v11 + 2).toNat))) 55 14 (M11 75 ((v11 + 3).toNat))) 55 15 (M11 75 ((v11 + 4).toNat))) 55 17 (M11 75 ((v11 + 5).toNat)))) ∧
  (¬ (M 55 31 : Int) ≠ 0 →
    Q (zI (-4)) M)) : zBg (d + 1) 171 0 [zR 55, none] [] M Q :=
  zvc_ok (I := zm171) (cuts := []) (n := 135) rfl h
theorem zk171 {d : Nat} {M : zMem} {Q : Option zV → zMem → Prop} (h : zBg d 171 0 [zR 55, none] [] M Q) : zCt d 171 [.inr (.inr 55)] M Q := zCt_of (I := zm171) rfl rfl h
/-! CommaCopiesModel.isSheet(I)Z , as 172 -/
set_option maxRecDepth 20000 in
theorem zv172_0 {d : Nat} {M : zMem} {Q : Option zV → zMem → Prop} (x0 : Int) (h :
  ∃ Q1, zCi d 110 [.inr (.inl x0), .inr (.inl 0), .inr (.inl 3)] M Q1 ∧ ∀ v1 M1, Q1 v1 M1 →
  ((v1 : Int) = 0 ∨ (v1 : Int) = 1) ∧ Q (zI v1) M1) : zBg (d + 1) 172 0 [zI x0] [] M Q :=
  zvc_ok (I := zm172) (cuts := []) (n := 11) rfl h
theorem zk172 {d : Nat} {M : zMem} {Q : Option zV → zMem → Prop} {x0 : Int} (h : zBg d 172 0 [zI x0] [] M Q) : zCt d 172 [.inl x0] M Q := zCt_of (I := zm172) rfl rfl h
/-! CommaCopiesModel.isLane(I)Z , as 173 -/
set_option maxRecDepth 20000 in
theorem zv173_0 {d : Nat} {M : zMem} {Q : Option zV → zMem → Prop} (x0 : Int) (h :
  ∃ Q1, zCi d 110 [.inr (.inl x0), .inr (.inl 0), .inr (.inl 2)] M Q1 ∧ ∀ v1 M1, Q1 v1 M1 →
  ((v1 : Int) = 0 ∨ (v1 : Int) = 1) ∧ Q (zI v1) M1) : zBg (d + 1) 173 0 [zI x0] [] M Q :=
  zvc_ok (I := zm173) (cuts := []) (n := 11) rfl h
theorem zk173 {d : Nat} {M : zMem} {Q : Option zV → zMem → Prop} {x0 : Int} (h : zBg d 173 0 [zI x0] [] M Q) : zCt d 173 [.inl x0] M Q := zCt_of (I := zm173) rfl rfl h
/-! CommaCopiesModel.finds(IIII)I , as 174 -/
set_option maxRecDepth 20000 in
theorem zv174_0 {d : Nat} {M : zMem} {Q : Option zV → zMem → Prop} (x1 : Int) (x2 : Int) (x3 : Int) (x4 : Int) (h :
  (0 : Int) ≤ x1 ∧ (x1 : Int) < 4 ∧ ((M 76 x1.toNat : Int) ≥ 0 →
    (0 : Int) ≤ x1 ∧ (x1 : Int) < 4 ∧ ((M 76 x1.toNat : Int) = x2 →
      ((x3 : Int) < 0 →
        Q (zI (-13)) M) ∧
      (¬ (x3 : Int) < 0 →
        (0 : Int) ≤ x1 ∧ (x1 : Int) < 4 ∧ ((zlcmp (zladd x3 x4) (M 77 x1.toNat) : Int) ≤ 0 →
          Q (zI 0) M) ∧
        (¬ (zlcmp (zladd x3 x4) (M 77 x1.toNat) : Int) ≤ 0 →
          Q (zI (-13)) M))) ∧
    (¬ (M 76 x1.toNat : Int) = x2 →
      Q (zI (-12)) M)) ∧
  (¬ (M 76 x1.toNat : Int) ≥ 0 →
    Q (zI (-11)) M)) : zBg d 174 0 [zR 55, zI x1, zI x2, zI x3, zI x4] [] M Q :=
  zvc_ok (I := zm174) (cuts := []) (n := 38) rfl h
theorem zk174 {d : Nat} {M : zMem} {Q : Option zV → zMem → Prop} {x1 : Int} {x2 : Int} {x3 : Int} {x4 : Int} (h : zBg d 174 0 [zR 55, zI x1, zI x2, zI x3, zI x4] [] M Q) : zCt d 174 [.inr (.inr 55), .inl x1, .inl x2, .inl x3, .inl x4] M Q := zCt_of (I := zm174) rfl rfl h
/-! CommaCopiesModel.sheet(III)I , as 175 -/
set_option maxRecDepth 20000 in
theorem zv175_0 {d : Nat} {M : zMem} {Q : Option zV → zMem → Prop} (x1 : Int) (x2 : Int) (x3 : Int) (h :
  ∃ Q1, zCi d 172 [.inl x1] M Q1 ∧ ∀ v1 M1, Q1 v1 M1 →
  ((v1 : Int) = 0 →
    Q (zI (-1)) M1) ∧
  (¬ (v1 : Int) = 0 →
    ∃ Q2, zCi d 173 [.inl x2] M1 Q2 ∧ ∀ v2 M2, Q2 v2 M2 →
    ((v2 : Int) = 0 →
      Q (zI (-1)) M2) ∧
    (¬ (v2 : Int) = 0 →
      ((x3 : Int) ≤ 12 →
        ((x3 : Int) ≥ 0 →
          (0 : Int) ≤ x1 ∧ (x1 : Int) < 4 ∧ (0 : Int) ≤ x1 ∧ (x1 : Int) < 4 ∧ zBg (d + 1) 175 46 [zR 55, zI x1, none, zI x3, zI 0] [] (zup (zup M2 76 x1.toNat x2) 77 x1.toNat x3) Q) ∧
        (¬ (x3 : Int) ≥ 0 →
          Q (zI (-14)) M2)) ∧
      (¬ (x3 : Int) ≤ 12 →
        Q (zI (-1)) M2)))) : zBg (d + 1) 175 0 [zR 55, zI x1, zI x2, zI x3, none] [] M Q :=
  zvc_ok (I := zm175) (cuts := [(46, [true, true, false, true, true])]) (n := 48) rfl h
set_option maxRecDepth 20000 in
theorem zv175_46 {d : Nat} {M : zMem} {Q : Option zV → zMem → Prop} (x1 : Int) (x3 : Int) (x4 : Int) (h :
  ((x4 : Int) ≥ 12 →
    Q (zI x3) M) ∧
  (¬ (x4 : Int) ≥ 12 →
    zR32 (12 * x1) ∧ zR32 ((12 * x1) + x4) ∧ (0 : Int) ≤ ((12 * x1) + x4) ∧ ((12 * x1) + x4 : Int) < 48 ∧ zR32 (x4 + 1) ∧ zBg d 175 46 [zR 55, zI x1, none, zI x3, zI (x4 + 1)] [] (zup M 78 (((12 * x1) + x4).toNat) 0) Q)) : zBg d 175 46 [zR 55, zI x1, none, zI x3, zI x4] [] M Q :=
  zvc_ok (I := zm175) (cuts := [(46, [true, true, false, true, true])]) (n := 48) rfl h
theorem zk175 {d : Nat} {M : zMem} {Q : Option zV → zMem → Prop} {x1 : Int} {x2 : Int} {x3 : Int} (h : zBg d 175 0 [zR 55, zI x1, zI x2, zI x3, none] [] M Q) : zCt d 175 [.inr (.inr 55), .inl x1, .inl x2, .inl x3] M Q := zCt_of (I := zm175) rfl rfl h
/-! CommaCopiesModel.drop(I)I , as 176 -/
set_option maxRecDepth 20000 in
theorem zv176_0 {d : Nat} {M : zMem} {Q : Option zV → zMem → Prop} (x1 : Int) (h :
  ∃ Q1, zCi d 172 [.inl x1] M Q1 ∧ ∀ v1 M1, Q1 v1 M1 →
  ((v1 : Int) ≠ 0 →
    (0 : Int) ≤ x1 ∧ (x1 : Int) < 4 ∧ ((M1 76 x1.toNat : Int) ≥ 0 →
      (0 : Int) ≤ x1 ∧ (x1 : Int) < 4 ∧ (0 : Int) ≤ x1 ∧ (x1 : Int) < 4 ∧ Q (zI (M1 77 x1.toNat)) (zup M1 76 x1.toNat (-1))) ∧
    (¬ (M1 76 x1.toNat : Int) ≥ 0 →
      Q (zI (-11)) M1)) ∧
  (¬ (v1 : Int) ≠ 0 →
    Q (zI (-1)) M1)) : zBg (d + 1) 176 0 [zR 55, zI x1] [] M Q :=
  zvc_ok (I := zm176) (cuts := []) (n := 27) rfl h
theorem zk176 {d : Nat} {M : zMem} {Q : Option zV → zMem → Prop} {x1 : Int} (h : zBg d 176 0 [zR 55, zI x1] [] M Q) : zCt d 176 [.inr (.inr 55), .inl x1] M Q := zCt_of (I := zm176) rfl rfl h
/-! CommaCopiesModel.item(IIII)I , as 177 -/
set_option maxRecDepth 20000 in
theorem zv177_0 {d : Nat} {M : zMem} {Q : Option zV → zMem → Prop} (x1 : Int) (x2 : Int) (x3 : Int) (x4 : Int) (h :
  ∃ Q1, zCi d 172 [.inl x1] M Q1 ∧ ∀ v1 M1, Q1 v1 M1 →
  ((v1 : Int) = 0 →
    Q (zI (-1)) M1) ∧
  (¬ (v1 : Int) = 0 →
    ∃ Q2, zCi d 173 [.inl x2] M1 Q2 ∧ ∀ v2 M2, Q2 v2 M2 →
    ((v2 : Int) ≠ 0 →
      ∃ Q3, zCi d 174 [.inr (.inr 55), .inl x1, .inl x2, .inl x3, .inl 1] M2 Q3 ∧ ∀ v3 M3, Q3 v3 M3 →
      ((v3 : Int) ≥ 0 →
        zR32 (12 * x1) ∧ zR32 ((12 * x1) + x3) ∧ ((x2 : Int) ≠ 0 →
          ((x2 : Int) ≠ 1 →
            (0 : Int) ≤ ((12 * x1) + x3) ∧ ((12 * x1) + x3 : Int) < 48 ∧ Q (zI 1) (zup M3 78 (((12 * x1) + x3).toNat) x4)) ∧
          (¬ (x2 : Int) ≠ 1 →
            (0 : Int) ≤ ((12 * x1) + x3) ∧ ((12 * x1) + x3 : Int) < 48 ∧ Q (zI 1) (zup M3 78 (((12 * x1) + x3).toNat) (zi2s x4)))) ∧
        (¬ (x2 : Int) ≠ 0 →
          (0 : Int) ≤ ((12 * x1) + x3) ∧ ((12 * x1) + x3 : Int) < 48 ∧ Q (zI 1) (zup M3 78 (((12 * x1) + x3).toNat) (zi2b x4)))) ∧
      (¬ (v3 : Int) ≥ 0 →
        Q (zI v3) M3)) ∧
    (¬ (v2 : Int) ≠ 0 →
      Q (zI (-1)) M2))) : zBg (d + 1) 177 0 [zR 55, zI x1, zI x2, zI x3, zI x4, none] [] M Q :=
  zvc_ok (I := zm177) (cuts := []) (n := 46) rfl h
theorem zk177 {d : Nat} {M : zMem} {Q : Option zV → zMem → Prop} {x1 : Int} {x2 : Int} {x3 : Int} {x4 : Int} (h : zBg d 177 0 [zR 55, zI x1, zI x2, zI x3, zI x4, none] [] M Q) : zCt d 177 [.inr (.inr 55), .inl x1, .inl x2, .inl x3, .inl x4] M Q := zCt_of (I := zm177) rfl rfl h
/-! CommaCopiesModel.copy(IIIII)I , as 178 -/
set_option maxRecDepth 20000 in
theorem zv178_0 {d : Nat} {M : zMem} {Q : Option zV → zMem → Prop} (x1 : Int) (x2 : Int) (x3 : Int) (x4 : Int) (x5 : Int) (h :
  ∃ Q1, zCi d 172 [.inl x1] M Q1 ∧ ∀ v1 M1, Q1 v1 M1 →
  ((v1 : Int) = 0 →
    Q (zI (-1)) M1) ∧
  (¬ (v1 : Int) = 0 →
    ∃ Q2, zCi d 172 [.inl x3] M1 Q2 ∧ ∀ v2 M2, Q2 v2 M2 →
    ((v2 : Int) ≠ 0 →
      (0 : Int) ≤ x1 ∧ (x1 : Int) < 4 ∧ ((M2 76 x1.toNat : Int) < 0 →
        Q (zI (-11)) M2) ∧
      (¬ (M2 76 x1.toNat : Int) < 0 →
        (0 : Int) ≤ x3 ∧ (x3 : Int) < 4 ∧ ((M2 76 x3.toNat : Int) ≥ 0 →
          (0 : Int) ≤ x1 ∧ (x1 : Int) < 4 ∧ (0 : Int) ≤ x3 ∧ (x3 : Int) < 4 ∧ ((M2 76 x1.toNat : Int) = (M2 76 x3.toNat) →
            ((x5 : Int) < 0 →
              Q (zI (-13)) M2) ∧
            (¬ (x5 : Int) < 0 →
              (0 : Int) ≤ x1 ∧ (x1 : Int) < 4 ∧ ∃ Q3, zCi d 174 [.inr (.inr 55), .inl x1, .inl (M2 76 x1.toNat), .inl x2, .inl x5] M2 Q3 ∧ ∀ v3 M3, Q3 v3 M3 →
              ((v3 : Int) < 0 →
                Q (zI (-13)) M3) ∧
              (¬ (v3 : Int) < 0 →
                (0 : Int) ≤ x3 ∧ (x3 : Int) < 4 ∧ ∃ Q4, zCi d 174 [.inr (.inr 55), .inl x3, .inl (M3 76 x3.toNat), .inl x4, .inl x5] M3 Q4 ∧ ∀ v4 M4, Q4 v4 M4 →
                ((v4 : Int) ≥ 0 →
                  zBg (d + 1) 178 101 [zR 55, zI x1, zI x2, zI x3, zI x4, zI x5, zI 0] [] M4 Q) ∧
                (¬ (v4 : Int) ≥ 0 →
                  Q (zI (-13)) M4)))) ∧
          (¬ (M2 76 x1.toNat : Int) = (M2 76 x3.toNat) →
            Q (zI (-12)) M2)) ∧
        (¬ (M2 76 x3.toNat : Int) ≥ 0 →
          Q (zI (-11)) M2))) ∧
    (¬ (v2 : Int) ≠ 0 →
      Q (zI (-1)) M2))) : zBg (d + 1) 178 0 [zR 55, zI x1, zI x2, zI x3, zI x4, zI x5, none] [] M Q :=
  zvc_ok (I := zm178) (cuts := [(101, [true, true, true, true, true, true, true]), (138, [true, false, false, true, true, true, true])]) (n := 104) rfl h
set_option maxRecDepth 20000 in
theorem zv178_101 {d : Nat} {M : zMem} {Q : Option zV → zMem → Prop} (x1 : Int) (x2 : Int) (x3 : Int) (x4 : Int) (x5 : Int) (x6 : Int) (h :
  ((x6 : Int) ≥ x5 →
    zBg d 178 138 [zR 55, none, none, zI x3, zI x4, zI x5, zI 0] [] M Q) ∧
  (¬ (x6 : Int) ≥ x5 →
    zR32 (12 * x1) ∧ zR32 ((12 * x1) + x2) ∧ zR32 (((12 * x1) + x2) + x6) ∧ (0 : Int) ≤ (((12 * x1) + x2) + x6) ∧ (((12 * x1) + x2) + x6 : Int) < 48 ∧ (0 : Int) ≤ x6 ∧ (x6 : Int) < 12 ∧ zR32 (x6 + 1) ∧ zBg d 178 101 [zR 55, zI x1, zI x2, zI x3, zI x4, zI x5, zI (x6 + 1)] [] (zup M 79 x6.toNat (M 78 ((((12 * x1) + x2) + x6).toNat))) Q)) : zBg d 178 101 [zR 55, zI x1, zI x2, zI x3, zI x4, zI x5, zI x6] [] M Q :=
  zvc_ok (I := zm178) (cuts := [(101, [true, true, true, true, true, true, true]), (138, [true, false, false, true, true, true, true])]) (n := 104) rfl h
set_option maxRecDepth 20000 in
theorem zv178_138 {d : Nat} {M : zMem} {Q : Option zV → zMem → Prop} (x3 : Int) (x4 : Int) (x5 : Int) (x6 : Int) (h :
  ((x6 : Int) ≥ x5 →
    Q (zI x5) M) ∧
  (¬ (x6 : Int) ≥ x5 →
    zR32 (12 * x3) ∧ zR32 ((12 * x3) + x4) ∧ zR32 (((12 * x3) + x4) + x6) ∧ (0 : Int) ≤ x6 ∧ (x6 : Int) < 12 ∧ (0 : Int) ≤ (((12 * x3) + x4) + x6) ∧ (((12 * x3) + x4) + x6 : Int) < 48 ∧ zR32 (x6 + 1) ∧ zBg d 178 138 [zR 55, none, none, zI x3, zI x4, zI x5, zI (x6 + 1)] [] (zup M 78 ((((12 * x3) + x4) + x6).toNat) (M 79 x6.toNat)) Q)) : zBg d 178 138 [zR 55, none, none, zI x3, zI x4, zI x5, zI x6] [] M Q :=
  zvc_ok (I := zm178) (cuts := [(101, [true, true, true, true, true, true, true]), (138, [true, false, false, true, true, true, true])]) (n := 104) rfl h
theorem zk178 {d : Nat} {M : zMem} {Q : Option zV → zMem → Prop} {x1 : Int} {x2 : Int} {x3 : Int} {x4 : Int} {x5 : Int} (h : zBg d 178 0 [zR 55, zI x1, zI x2, zI x3, zI x4, zI x5, none] [] M Q) : zCt d 178 [.inr (.inr 55), .inl x1, .inl x2, .inl x3, .inl x4, .inl x5] M Q := zCt_of (I := zm178) rfl rfl h
/-! java/lang/Integer.numberOfTrailingZeros(I)I , as 179 -/
set_option maxRecDepth 20000 in
theorem zv179_0 {d : Nat} {M : zMem} {Q : Option zV → zMem → Prop} (x0 : Int) (h :
  zR32 (x0 - 1) ∧ ((ziand (zixor x0 (-1)) (x0 - 1) : Int) > 0 →
    ((ziand (zixor x0 (-1)) (x0 - 1) : Int) ≤ 65536 →
      ((ziand (zixor x0 (-1)) (x0 - 1) : Int) ≤ 256 →
        ((ziand (zixor x0 (-1)) (x0 - 1) : Int) ≤ 16 →
          ((ziand (zixor x0 (-1)) (x0 - 1) : Int) ≤ 4 →
            zR32 (1 + (ziushr (ziand (zixor x0 (-1)) (x0 - 1)) 1)) ∧ Q (zI (1 + (ziushr (ziand (zixor x0 (-1)) (x0 - 1)) 1))) M) ∧
          (¬ (ziand (zixor x0 (-1)) (x0 - 1) : Int) ≤ 4 →
            zR32 (1 + 2) ∧ zR32 ((1 + 2) + (ziushr (ziushr (ziand (zixor x0 (-1)) (x0 - 1)) 2) 1)) ∧ Q (zI ((1 + 2) + (ziushr (ziushr (ziand (zixor x0 (-1)) (x0 - 1)) 2) 1))) M)) ∧
        (¬ (ziand (zixor x0 (-1)) (x0 - 1) : Int) ≤ 16 →
          zR32 (1 + 4) ∧ ((ziushr (ziand (zixor x0 (-1)) (x0 - 1)) 4 : Int) ≤ 4 →
            zR32 ((1 + 4) + (ziushr (ziushr (ziand (zixor x0 (-1)) (x0 - 1)) 4) 1)) ∧ Q (zI ((1 + 4) + (ziushr (ziushr (ziand (zixor x0 (-1)) (x0 - 1)) 4) 1))) M) ∧
          (¬ (ziushr (ziand (zixor x0 (-1)) (x0 - 1)) 4 : Int) ≤ 4 →
            zR32 ((1 + 4) + 2) ∧ zR32 (((1 + 4) + 2) + (ziushr (ziushr (ziushr (ziand (zixor x0 (-1)) (x0 - 1)) 4) 2) 1)) ∧ Q (zI (((1 + 4) + 2) + (ziushr (ziushr (ziushr (ziand (zixor x0 (-1)) (x0 - 1)) 4) 2) 1))) M))) ∧
      (¬ (ziand (zixor x0 (-1)) (x0 - 1) : Int) ≤ 256 →
        zR32 (1 + 8) ∧ ((ziushr (ziand (zixor x0 (-1)) (x0 - 1)) 8 : Int) ≤ 16 →
          ((ziushr (ziand (zixor x0 (-1)) (x0 - 1)) 8 : Int) ≤ 4 →
            zR32 ((1 + 8) + (ziushr (ziushr (ziand (zixor x0 (-1)) (x0 - 1)) 8) 1)) ∧ Q (zI ((1 + 8) + (ziushr (ziushr (ziand (zixor x0 (-1)) (x0 - 1)) 8) 1))) M) ∧
          (¬ (ziushr (ziand (zixor x0 (-1)) (x0 - 1)) 8 : Int) ≤ 4 →
            zR32 ((1 + 8) + 2) ∧ zR32 (((1 + 8) + 2) + (ziushr (ziushr (ziushr (ziand (zixor x0 (-1)) (x0 - 1)) 8) 2) 1)) ∧ Q (zI (((1 + 8) + 2) + (ziushr (ziushr (ziushr (ziand (zixor x0 (-1)) (x0 - 1)) 8) 2) 1))) M)) ∧
        (¬ (ziushr (ziand (zixor x0 (-1)) (x0 - 1)) 8 : Int) ≤ 16 →
          zR32 ((1 + 8) + 4) ∧ ((ziushr (ziushr (ziand (zixor x0 (-1)) (x0 - 1)) 8) 4 : Int) ≤ 4 →
            zR32 (((1 + 8) + 4) + (ziushr (ziushr (ziushr (ziand (zixor x0 (-1)) (x0 - 1)) 8) 4) 1)) ∧ Q (zI (((1 + 8) + 4) + (ziushr (ziushr (ziushr (ziand (zixor x0 (-1)) (x0 - 1)) 8) 4) 1))) M) ∧
          (¬ (ziushr (ziushr (ziand (zixor x0 (-1)) (x0 - 1)) 8) 4 : Int) ≤ 4 →
            zR32 (((1 + 8) + 4) + 2) ∧ zR32 ((((1 + 8) + 4) + 2) + (ziushr (ziushr (ziushr (ziushr (ziand (zixor x0 (-1)) (x0 - 1)) 8) 4) 2) 1)) ∧ Q (zI ((((1 + 8) + 4) + 2) + (ziushr (ziushr (ziushr (ziushr (ziand (zixor x0 (-1)) (x0 - 1)) 8) 4) 2) 1))) M)))) ∧
    (¬ (ziand (zixor x0 (-1)) (x0 - 1) : Int) ≤ 65536 →
      zR32 (1 + 16) ∧ ((ziushr (ziand (zixor x0 (-1)) (x0 - 1)) 16 : Int) ≤ 256 →
        ((ziushr (ziand (zixor x0 (-1)) (x0 - 1)) 16 : Int) ≤ 16 →
          ((ziushr (ziand (zixor x0 (-1)) (x0 - 1)) 16 : Int) ≤ 4 →
            zR32 ((1 + 16) + (ziushr (ziushr (ziand (zixor x0 (-1)) (x0 - 1)) 16) 1)) ∧ Q (zI ((1 + 16) + (ziushr (ziushr (ziand (zixor x0 (-1)) (x0 - 1)) 16) 1))) M) ∧
          (¬ (ziushr (ziand (zixor x0 (-1)) (x0 - 1)) 16 : Int) ≤ 4 →
            zR32 ((1 + 16) + 2) ∧ zR32 (((1 + 16) + 2) + (ziushr (ziushr (ziushr (ziand (zixor x0 (-1)) (x0 - 1)) 16) 2) 1)) ∧ Q (zI (((1 + 16) + 2) + (ziushr (ziushr (ziushr (ziand (zixor x0 (-1)) (x0 - 1)) 16) 2) 1))) M)) ∧
        (¬ (ziushr (ziand (zixor x0 (-1)) (x0 - 1)) 16 : Int) ≤ 16 →
          zR32 ((1 + 16) + 4) ∧ ((ziushr (ziushr (ziand (zixor x0 (-1)) (x0 - 1)) 16) 4 : Int) ≤ 4 →
            zR32 (((1 + 16) + 4) + (ziushr (ziushr (ziushr (ziand (zixor x0 (-1)) (x0 - 1)) 16) 4) 1)) ∧ Q (zI (((1 + 16) + 4) + (ziushr (ziushr (ziushr (ziand (zixor x0 (-1)) (x0 - 1)) 16) 4) 1))) M) ∧
          (¬ (ziushr (ziushr (ziand (zixor x0 (-1)) (x0 - 1)) 16) 4 : Int) ≤ 4 →
            zR32 (((1 + 16) + 4) + 2) ∧ zR32 ((((1 + 16) + 4) + 2) + (ziushr (ziushr (ziushr (ziushr (ziand (zixor x0 (-1)) (x0 - 1)) 16) 4) 2) 1)) ∧ Q (zI ((((1 + 16) + 4) + 2) + (ziushr (ziushr (ziushr (ziushr (ziand (zixor x0 (-1)) (x0 - 1)) 16) 4) 2) 1))) M))) ∧
      (¬ (ziushr (ziand (zixor x0 (-1)) (x0 - 1)) 16 : Int) ≤ 256 →
        zR32 ((1 + 16) + 8) ∧ ((ziushr (ziushr (ziand (zixor x0 (-1)) (x0 - 1)) 16) 8 : Int) ≤ 16 →
          ((ziushr (ziushr (ziand (zixor x0 (-1)) (x0 - 1)) 16) 8 : Int) ≤ 4 →
            zR32 (((1 + 16) + 8) + (ziushr (ziushr (ziushr (ziand (zixor x0 (-1)) (x0 - 1)) 16) 8) 1)) ∧ Q (zI (((1 + 16) + 8) + (ziushr (ziushr (ziushr (ziand (zixor x0 (-1)) (x0 - 1)) 16) 8) 1))) M) ∧
          (¬ (ziushr (ziushr (ziand (zixor x0 (-1)) (x0 - 1)) 16) 8 : Int) ≤ 4 →
            zR32 (((1 + 16) + 8) + 2) ∧ zR32 ((((1 + 16) + 8) + 2) + (ziushr (ziushr (ziushr (ziushr (ziand (zixor x0 (-1)) (x0 - 1)) 16) 8) 2) 1)) ∧ Q (zI ((((1 + 16) + 8) + 2) + (ziushr (ziushr (ziushr (ziushr (ziand (zixor x0 (-1)) (x0 - 1)) 16) 8) 2) 1))) M)) ∧
        (¬ (ziushr (ziushr (ziand (zixor x0 (-1)) (x0 - 1)) 16) 8 : Int) ≤ 16 →
          zR32 (((1 + 16) + 8) + 4) ∧ ((ziushr (ziushr (ziushr (ziand (zixor x0 (-1)) (x0 - 1)) 16) 8) 4 : Int) ≤ 4 →
            zR32 ((((1 + 16) + 8) + 4) + (ziushr (ziushr (ziushr (ziushr (ziand (zixor x0 (-1)) (x0 - 1)) 16) 8) 4) 1)) ∧ Q (zI ((((1 + 16) + 8) + 4) + (ziushr (ziushr (ziushr (ziushr (ziand (zixor x0 (-1)) (x0 - 1)) 16) 8) 4) 1))) M) ∧
          (¬ (ziushr (ziushr (ziushr (ziand (zixor x0 (-1)) (x0 - 1)) 16) 8) 4 : Int) ≤ 4 →
            zR32 ((((1 + 16) + 8) + 4) + 2) ∧ zR32 (((((1 + 16) + 8) + 4) + 2) + (ziushr (ziushr (ziushr (ziushr (ziushr (ziand (zixor x0 (-1)) (x0 - 1)) 16) 8) 4) 2) 1)) ∧ Q (zI (((((1 + 16) + 8) + 4) + 2) + (ziushr (ziushr (ziushr (ziushr (ziushr (ziand (zixor x0 (-1)) (x0 - 1)) 16) 8) 4) 2) 1))) M))))) ∧
  (¬ (ziand (zixor x0 (-1)) (x0 - 1) : Int) > 0 →
    Q (zI (ziand (ziand (zixor x0 (-1)) (x0 - 1)) 32)) M)) : zBg d 179 0 [zI x0, none] [] M Q :=
  zvc_ok (I := zm179) (cuts := []) (n := 59) rfl h
theorem zk179 {d : Nat} {M : zMem} {Q : Option zV → zMem → Prop} {x0 : Int} (h : zBg d 179 0 [zI x0, none] [] M Q) : zCt d 179 [.inl x0] M Q := zCt_of (I := zm179) rfl rfl h
end
section
/-! java/lang/Integer.bitCount(I)I , as 180 -/
set_option maxRecDepth 20000 in
theorem zv180_0 {d : Nat} {M : zMem} {Q : Option zV → zMem → Prop} (x0 : Int) (h :
  zR32 (x0 - (ziand (ziushr x0 1) 1431655765)) ∧ zR32 ((ziand (x0 - (ziand (ziushr x0 1) 1431655765)) 858993459) + (ziand (ziushr (x0 - (ziand (ziushr x0 1) 1431655765)) 2) 858993459)) ∧ zR32 (((ziand (x0 - (ziand (ziushr x0 1) 1431655765)) 858993459) + (ziand (ziushr (x0 - (ziand (ziushr x0 1) 1431655765)) 2) 858993459)) + (ziushr ((ziand (x0 - (ziand (ziushr x0 1) 1431655765)) 858993459) + (ziand (ziushr (x0 - (ziand (ziushr x0 1) 1431655765)) 2) 858993459)) 4)) ∧ zR32 ((ziand (((ziand (x0 - (ziand (ziushr x0 1) 1431655765)) 858993459) + (ziand (ziushr (x0 - (ziand (ziushr x0 1) 1431655765)) 2) 858993459)) + (ziushr ((ziand (x0 - (ziand (ziushr x0 1) 1431655765)) 858993459) + (ziand (ziushr (x0 - (ziand (ziushr x0 1) 1431655765)) 2) 858993459)) 4)) 252645135) + (ziushr (ziand (((ziand (x0 - (ziand (ziushr x0 1) 1431655765)) 858993459) + (ziand (ziushr (x0 - (ziand (ziushr x0 1) 1431655765)) 2) 858993459)) + (ziushr ((ziand (x0 - (ziand (ziushr x0 1) 1431655765)) 858993459) + (ziand (ziushr (x0 - (ziand (ziushr x0 1) 1431655765)) 2) 858993459)) 4)) 252645135) 8)) ∧ zR32 (((ziand (((ziand (x0 - (ziand (ziushr x0 1) 1431655765)) 858993459) + (ziand (ziushr (x0 - (ziand (ziushr x0 1) 1431655765)) 2) 858993459)) + (ziushr ((ziand (x0 - (ziand (ziushr x0 1) 1431655765)) 858993459) + (ziand (ziushr (x0 - (ziand (ziushr x0 1) 1431655765)) 2) 858993459)) 4)) 252645135) + (ziushr (ziand (((ziand (x0 - (ziand (ziushr x0 1) 1431655765)) 858993459) + (ziand (ziushr (x0 - (ziand (ziushr x0 1) 1431655765)) 2) 858993459)) + (ziushr ((ziand (x0 - (ziand (ziushr x0 1) 1431655765)) 858993459) + (ziand (ziushr (x0 - (ziand (ziushr x0 1) 1431655765)) 2) 858993459)) 4)) 252645135) 8)) + (ziushr ((ziand (((ziand (x0 - (ziand (ziushr x0 1) 1431655765)) 858993459) + (ziand (ziushr (x0 - (ziand (ziushr x0 1) 1431655765)) 2) 858993459)) + (ziushr ((ziand (x0 - (ziand (ziushr x0 1) 1431655765)) 858993459) + (ziand (ziushr (x0 - (ziand (ziushr x0 1) 1431655765)) 2) 858993459)) 4)) 252645135) + (ziushr (ziand (((ziand (x0 - (ziand (ziushr x0 1) 1431655765)) 858993459) + (ziand (ziushr (x0 - (ziand (ziushr x0 1) 1431655765)) 2) 858993459)) + (ziushr ((ziand (x0 - (ziand (ziushr x0 1) 1431655765)) 858993459) + (ziand (ziushr (x0 - (ziand (ziushr x0 1) 1431655765)) 2) 858993459)) 4)) 252645135) 8)) 16)) ∧ Q (zI (ziand (((ziand (((ziand (x0 - (ziand (ziushr x0 1) 1431655765)) 858993459) + (ziand (ziushr (x0 - (ziand (ziushr x0 1) 1431655765)) 2) 858993459)) + (ziushr ((ziand (x0 - (ziand (ziushr x0 1) 1431655765)) 858993459) + (ziand (ziushr (x0 - (ziand (ziushr x0 1) 1431655765)) 2) 858993459)) 4)) 252645135) + (ziushr (ziand (((ziand (x0 - (ziand (ziushr x0 1) 1431655765)) 858993459) + (ziand (ziushr (x0 - (ziand (ziushr x0 1) 1431655765)) 2) 858993459)) + (ziushr ((ziand (x0 - (ziand (ziushr x0 1) 1431655765)) 858993459) + (ziand (ziushr (x0 - (ziand (ziushr x0 1) 1431655765)) 2) 858993459)) 4)) 252645135) 8)) + (ziushr ((ziand (((ziand (x0 - (ziand (ziushr x0 1) 1431655765)) 858993459) + (ziand (ziushr (x0 - (ziand (ziushr x0 1) 1431655765)) 2) 858993459)) + (ziushr ((ziand (x0 - (ziand (ziushr x0 1) 1431655765)) 858993459) + (ziand (ziushr (x0 - (ziand (ziushr x0 1) 1431655765)) 2) 858993459)) 4)) 252645135) + (ziushr (ziand (((ziand (x0 - (ziand (ziushr x0 1) 1431655765)) 858993459) + (ziand (ziushr (x0 - (ziand (ziushr x0 1) 1431655765)) 2) 858993459)) + (ziushr ((ziand (x0 - (ziand (ziushr x0 1) 1431655765)) 858993459) + (ziand (ziushr (x0 - (ziand (ziushr x0 1) 1431655765)) 2) 858993459)) 4)) 252645135) 8)) 16)) 63)) M) : zBg d 180 0 [zI x0] [] M Q :=
  zvc_ok (I := zm180) (cuts := []) (n := 47) rfl h
theorem zk180 {d : Nat} {M : zMem} {Q : Option zV → zMem → Prop} {x0 : Int} (h : zBg d 180 0 [zI x0] [] M Q) : zCt d 180 [.inl x0] M Q := zCt_of (I := zm180) rfl rfl h
/-! java/util/Arrays.fill([JJ)V , as 181 -/
set_option maxRecDepth 20000 in
theorem zv181_0 {d : Nat} {M : zMem} {Q : Option zV → zMem → Prop} (a0 : Nat) (x1 : Int) (h :
  zln a0 fun n0 => zBg d 181 6 [zR a0, zL x1, none, zI 0, zI n0] [] M Q) : zBg d 181 0 [zR a0, zL x1, none, none, none] [] M Q :=
  zvc_ok (I := zm181) (cuts := [(6, [true, true, false, true, true])]) (n := 20) rfl h
set_option maxRecDepth 20000 in
theorem zv181_6 {d : Nat} {M : zMem} {Q : Option zV → zMem → Prop} (a0 : Nat) (x1 : Int) (x3 : Int) (x4 : Int) (h :
  ((x3 : Int) ≥ x4 →
    Q none M) ∧
  (¬ (x3 : Int) ≥ x4 →
    zar a0 2 fun n => (0 : Int) ≤ x3 ∧ (x3 : Int) < n ∧ zR32 (x3 + 1) ∧ zBg d 181 6 [zR a0, zL x1, none, zI (x3 + 1), zI x4] [] (zup M a0 x3.toNat x1) Q)) : zBg d 181 6 [zR a0, zL x1, none, zI x3, zI x4] [] M Q :=
  zvc_ok (I := zm181) (cuts := [(6, [true, true, false, true, true])]) (n := 20) rfl h
theorem zk181 {d : Nat} {M : zMem} {Q : Option zV → zMem → Prop} {a0 : Nat} {x1 : Int} (h : zBg d 181 0 [zR a0, zL x1, none, none, none] [] M Q) : zCt d 181 [.inr (.inr a0), .inr (.inl x1)] M Q := zCt_of (I := zm181) rfl rfl h
/-! java/util/Arrays.fill([II)V , as 182 -/
set_option maxRecDepth 20000 in
theorem zv182_0 {d : Nat} {M : zMem} {Q : Option zV → zMem → Prop} (a0 : Nat) (x1 : Int) (h :
  zln a0 fun n0 => zBg d 182 5 [zR a0, zI x1, zI 0, zI n0] [] M Q) : zBg d 182 0 [zR a0, zI x1, none, none] [] M Q :=
  zvc_ok (I := zm182) (cuts := [(5, [true, true, true, true])]) (n := 20) rfl h
set_option maxRecDepth 20000 in
theorem zv182_5 {d : Nat} {M : zMem} {Q : Option zV → zMem → Prop} (a0 : Nat) (x1 : Int) (x2 : Int) (x3 : Int) (h :
  ((x2 : Int) ≥ x3 →
    Q none M) ∧
  (¬ (x2 : Int) ≥ x3 →
    zar a0 0 fun n => (0 : Int) ≤ x2 ∧ (x2 : Int) < n ∧ zR32 (x2 + 1) ∧ zBg d 182 5 [zR a0, zI x1, zI (x2 + 1), zI x3] [] (zup M a0 x2.toNat x1) Q)) : zBg d 182 5 [zR a0, zI x1, zI x2, zI x3] [] M Q :=
  zvc_ok (I := zm182) (cuts := [(5, [true, true, true, true])]) (n := 20) rfl h
theorem zk182 {d : Nat} {M : zMem} {Q : Option zV → zMem → Prop} {a0 : Nat} {x1 : Int} (h : zBg d 182 0 [zR a0, zI x1, none, none] [] M Q) : zCt d 182 [.inr (.inr a0), .inl x1] M Q := zCt_of (I := zm182) rfl rfl h
end
section
/-! memory and words: the machine's numbers as natural numbers (nx_and and s_l began as rows of kit/laws) -/
theorem zb_uk {M : zMem} {k i k' : Nat} {v : Int} (h : k' ≠ k) : zup M k i v k' = M k' := by
  funext j; simp [zup, h]
theorem zb_ui {M : zMem} {k i i' : Nat} {v : Int} (h : i' ≠ i) : zup M k i v k i' = M k i' := by simp [zup, h]
theorem zb_us {M : zMem} {k i : Nat} {v : Int} : zup M k i v k i = v := by simp [zup]
theorem zb_un {M : zMem} {k i k' i' : Nat} {v : Int} (h : k' ≠ k ∨ i' ≠ i) : zup M k i v k' i' = M k' i' := by
  simp only [zup]
  split
  · split
    · rename_i h1 h2; rcases h with h | h <;> contradiction
    · rfl
  · rfl
theorem zb_ck {M : zMem} {a p b q n k : Nat} (h : k ≠ b) : zcpy M a p b q n k = M k := by
  funext j; simp [zcpy, h]
theorem zb_ar {a t n : Nat} {f : Nat → Prop} (h : zSHL[a]? = some (.inl (t, n))) : zar a t f = f n := by
  simp [zar, h]
theorem zb_ln {a t n : Nat} {f : Nat → Prop} (h : zSHL[a]? = some (.inl (t, n))) : zln a f = f n := by
  simp [zln, h]
theorem zBg.rg {d mi pc : Nat} {ls : List (Option zV)} {st : List zV} {M : zMem} {Q : Option zV → zMem → Prop} (h : zrgM M → zBg d mi pc ls st M Q) : zBg d mi pc ls st M Q :=
  fun hM => h hM hM
theorem zb_if {c A B : Prop} (a : c → A) (b : ¬ c → B) : (c → A) ∧ (¬ c → B) := ⟨a, b⟩
theorem zb_t {c A B : Prop} (h : c) (a : A) : (c → A) ∧ (¬ c → B) := ⟨fun _ => a, fun h' => absurd h h'⟩
theorem zb_f {c A B : Prop} (h : ¬ c) (b : B) : (c → A) ∧ (¬ c → B) := ⟨fun h' => absurd h' h, fun _ => b⟩
theorem nx_and (a b : Nat) : nI a &&& nI b = nI (a &&& b) := by
  apply Int32.toBitVec_inj.1
  show BitVec.ofNat 32 a &&& BitVec.ofNat 32 b = BitVec.ofNat 32 (a &&& b)
  apply BitVec.eq_of_getLsbD_eq
  intro i hi
  simp [hi]
theorem nx_xor (a b : Nat) : nI a ^^^ nI b = nI (a ^^^ b) := by
  apply Int32.toBitVec_inj.1
  show BitVec.ofNat 32 a ^^^ BitVec.ofNat 32 b = BitVec.ofNat 32 (a ^^^ b)
  apply BitVec.eq_of_getLsbD_eq
  intro i hi
  simp [hi]
theorem nx_or (a b : Nat) : nI a ||| nI b = nI (a ||| b) := by
  apply Int32.toBitVec_inj.1
  show BitVec.ofNat 32 a ||| BitVec.ofNat 32 b = BitVec.ofNat 32 (a ||| b)
  apply BitVec.eq_of_getLsbD_eq
  intro i hi
  simp [hi]
theorem s_l : ∀ n, n < 32 → ((nI n &&& 31).toBitVec.smod 32).toNat = n := by decide +kernel
theorem s_u : ∀ n, n < 32 → (((nI n).toUInt32 &&& Int32.toUInt32 31).toBitVec % 32).toNat = n := by decide +kernel
theorem zb_N (n : Nat) : Int32.ofInt (n : Int) = nI n := rfl
theorem zb_and {a b : Nat} (ha : a < 2 ^ 31) : ziand a b = ((a &&& b : Nat) : Int) := by
  unfold ziand
  rw [zb_N, zb_N, nx_and, nI_toInt (Nat.lt_of_le_of_lt Nat.and_le_left ha)]
theorem zb_or {a b : Nat} (ha : a < 2 ^ 31) (hb : b < 2 ^ 31) : zior a b = ((a ||| b : Nat) : Int) := by
  unfold zior
  rw [zb_N, zb_N, nx_or, nI_toInt (Nat.or_lt_two_pow ha hb)]
theorem zb_andn {w c : Nat} (hw : w < 2 ^ 31) : ziand w (zixor c (-1)) = ((w &&& (c ^^^ 4294967295) : Nat) : Int) := by
  unfold ziand zixor
  rw [Int32.ofInt_toInt, show Int32.ofInt (-1) = nI 4294967295 by decide, zb_N, zb_N, nx_xor, nx_and, nI_toInt (Nat.lt_of_le_of_lt Nat.and_le_left hw)]
theorem zb_tm (i : Nat) : Nat.testBit 4294967295 i = decide (i < 32) := Nat.testBit_two_pow_sub_one 32 i
theorem zb_sub {w c : Nat} (hw : w < 2 ^ 31) : w &&& (c ^^^ 4294967295) = 0 ↔ ∀ i, w.testBit i = true → c.testBit i = true := by
  constructor
  · intro h i hi
    have h1 : (w &&& (c ^^^ 4294967295)).testBit i = false := by rw [h]; exact Nat.zero_testBit i
    rw [Nat.testBit_and, Nat.testBit_xor, zb_tm, hi] at h1
    have h2 : i < 32 := by
      rcases Nat.lt_or_ge i 32 with h2 | h2
      · exact h2
      · rw [Nat.testBit_lt_two_pow (Nat.lt_of_lt_of_le hw (Nat.pow_le_pow_right (by decide) (by omega)))] at hi
        cases hi
    rw [decide_eq_true h2] at h1
    cases hc : c.testBit i
    · rw [hc] at h1; cases h1
    · rfl
  · intro h
    apply Nat.eq_of_testBit_eq
    intro i
    rw [Nat.zero_testBit, Nat.testBit_and, Nat.testBit_xor, zb_tm]
    cases hw2 : w.testBit i
    · rfl
    · rw [h i hw2]
      have h2 : i < 32 := by
        rcases Nat.lt_or_ge i 32 with h2 | h2
        · exact h2
        · rw [Nat.testBit_lt_two_pow (Nat.lt_of_lt_of_le hw (Nat.pow_le_pow_right (by decide) (by omega)))] at hw2
          cases hw2
      simp [h2]
theorem zb_andn0 {w c : Nat} (hw : w < 2 ^ 31) : ziand w (zixor c (-1)) = 0 ↔ ∀ i, w.testBit i = true → c.testBit i = true := by
  rw [zb_andn hw, ← zb_sub hw]
  omega
theorem zb_shl {a k : Nat} (hk : k < 32) (h : a * 2 ^ k < 2 ^ 31) : zishl a k = ((a * 2 ^ k : Nat) : Int) := by
  unfold zishl
  rw [zb_N, zb_N, pk_shlN _ k (s_l k hk) (by omega), nI_toInt h]
theorem zb_shl1 {k : Nat} (hk : k < 31) : zishl 1 k = ((2 ^ k : Nat) : Int) := by
  have h := zb_shl (a := 1) (k := k) (by omega) (by rw [Nat.one_mul]; exact Nat.pow_lt_pow_right (by decide) hk)
  rw [Nat.one_mul] at h
  exact h
theorem zb_shr {a k : Nat} (ha : a < 2 ^ 31) (hk : k < 32) : zishr a k = ((a / 2 ^ k : Nat) : Int) := by
  unfold zishr
  rw [zb_N, zb_N, pk_shrN ha _ k (s_l k hk), nI_toInt (Nat.lt_of_le_of_lt (Nat.div_le_self _ _) ha)]
theorem zb_ushr {a k : Nat} (ha : a < 2 ^ 31) (hk : k < 32) : ziushr a k = ((a / 2 ^ k : Nat) : Int) := by
  unfold ziushr
  rw [zb_N, zb_N, pk_ushrN (by omega) _ k (s_u k hk), nI_toInt (Nat.lt_of_le_of_lt (Nat.div_le_self _ _) ha)]
theorem zb_bit {a k : Nat} (ha : a < 2 ^ 31) (hk : k < 32) : ziand (zishr a k) 1 = if a.testBit k = true then 1 else 0 := by
  have h1 : a / 2 ^ k < 2 ^ 31 := Nat.lt_of_le_of_lt (Nat.div_le_self _ _) ha
  have h2 := zb_and (a := a / 2 ^ k) (b := 1) h1
  rw [zb_shr ha hk]
  refine h2.trans ?_
  rw [Nat.and_one_is_mod, Nat.testBit_eq_decide_div_mod_eq]
  by_cases h : a / 2 ^ k % 2 = 1
  · simp [h]
  · have : a / 2 ^ k % 2 = 0 := by omega
    simp [this]
theorem zb_bit1 {a k : Nat} (ha : a < 2 ^ 31) (hk : k < 32) : ziand (zishr a k) 1 = 1 ↔ a.testBit k = true := by
  rw [zb_bit ha hk]
  cases a.testBit k <;> simp
theorem zb_bit0 {a k : Nat} (ha : a < 2 ^ 31) (hk : k < 32) : ziand (zishr a k) 1 = 0 ↔ a.testBit k = false := by
  rw [zb_bit ha hk]
  cases a.testBit k <;> simp
theorem zb_m1and {b : Nat} (hb : b < 2 ^ 31) : ziand (-1) b = b := by
  unfold ziand
  rw [show Int32.ofInt (-1) = nI 4294967295 by decide, zb_N, nx_and]
  have h : 4294967295 &&& b = b := by
    apply Nat.eq_of_testBit_eq
    intro i
    rw [Nat.testBit_and, zb_tm]
    rcases Nat.lt_or_ge i 32 with h2 | h2
    · simp [h2]
    · rw [Nat.testBit_lt_two_pow (x := b) (Nat.lt_of_lt_of_le hb (Nat.pow_le_pow_right (by decide) (by omega)))]; simp
  rw [h, nI_toInt hb]
theorem zb_div {a b : Nat} (ha : a < 2 ^ 31) (h0 : 0 < b) (hb : b < 2 ^ 31) : zidiv a b = ((a / b : Nat) : Int) := by
  unfold zidiv
  rw [zb_N, zb_N, pk_div ha h0 hb, nI_toInt (Nat.lt_of_le_of_lt (Nat.div_le_self _ _) ha)]
theorem zb_rem {a b : Nat} (ha : a < 2 ^ 31) (h0 : 0 < b) (hb : b < 2 ^ 31) : zirem a b = ((a % b : Nat) : Int) := by
  unfold zirem
  rw [zb_N, zb_N, pk_rem ha h0 hb, nI_toInt (Nat.lt_of_lt_of_le (Nat.mod_lt _ h0) (by omega))]
/-! words of six groups of five bits -/
def zW : Nat → (Nat → Nat) → Nat
  | 0, _ => 0
  | n + 1, f => f 0 + 32 * zW n (fun i => f (i + 1))
theorem zW_lt : ∀ {n : Nat} {f : Nat → Nat}, (∀ i, i < n → f i < 32) → zW n f < 2 ^ (5 * n) := by
  intro n
  induction n with
  | zero => intro f h; simp [zW]
  | succ n ih =>
    intro f h
    have h1 := ih (f := fun i => f (i + 1)) (fun i hi => h (i + 1) (by omega))
    have h2 := h 0 (by omega)
    simp only [zW]
    rw [show 5 * (n + 1) = 5 * n + 5 by omega, Nat.pow_add]
    omega
theorem zW_bit : ∀ {n : Nat} {f : Nat → Nat}, (∀ i, i < n → f i < 32) → ∀ j, (zW n f).testBit j = (decide (j < 5 * n) && (f (j / 5)).testBit (j % 5)) := by
  intro n
  induction n with
  | zero => intro f h j; simp [zW]
  | succ n ih =>
    intro f h j
    simp only [zW]
    have h2 := h 0 (by omega)
    rw [Nat.add_comm, show (32 : Nat) = 2 ^ 5 by decide, Nat.testBit_two_pow_mul_add _ (by omega) j]
    by_cases hj : j < 5
    · rw [if_pos hj, show j / 5 = 0 by omega, show j % 5 = j by omega, decide_eq_true (by omega : j < 5 * (n + 1))]; simp
    · rw [if_neg hj, ih (f := fun i => f (i + 1)) (fun i hi => h (i + 1) (by omega)) (j - 5)]
      rw [show (j - 5) / 5 + 1 = j / 5 by omega, show (j - 5) % 5 = j % 5 by omega]
      congr 1
      exact decide_eq_decide.mpr (by omega)
theorem zW_at {n : Nat} {f : Nat → Nat} (h : ∀ i, i < n → f i < 32) {p v : Nat} (hp : p < n) (hv : v < 5) : (zW n f).testBit (5 * p + v) = (f p).testBit v := by
  rw [zW_bit h, decide_eq_true (by omega : 5 * p + v < 5 * n), show (5 * p + v) / 5 = p by omega, show (5 * p + v) % 5 = v by omega]
  rfl
theorem zW_congr : ∀ {n : Nat} {f g : Nat → Nat}, (∀ i, i < n → f i = g i) → zW n f = zW n g := by
  intro n
  induction n with
  | zero => intro f g h; rfl
  | succ n ih =>
    intro f g h
    simp only [zW]
    rw [h 0 (by omega), ih (fun i hi => h (i + 1) (by omega))]
theorem zW_add : ∀ {n : Nat} {f g : Nat → Nat}, zW n f + zW n g = zW n (fun i => f i + g i) := by
  intro n
  induction n with
  | zero => intro f g; rfl
  | succ n ih =>
    intro f g
    simp only [zW]
    rw [← ih]
    omega
theorem zW_mul (c : Nat) : ∀ {n : Nat} {f : Nat → Nat}, c * zW n f = zW n (fun i => c * f i) := by
  intro n
  induction n with
  | zero => intro f; rfl
  | succ n ih =>
    intro f
    simp only [zW]
    rw [← ih, Nat.mul_add, Nat.mul_left_comm]
theorem zW_sub {n : Nat} {f g : Nat → Nat} (h : ∀ i, i < n → g i ≤ f i) : zW n g ≤ zW n f ∧ zW n f - zW n g = zW n (fun i => f i - g i) := by
  have h1 : zW n g + zW n (fun i => f i - g i) = zW n f := by
    rw [zW_add]
    exact zW_congr (fun i hi => by have := h i hi; omega)
  omega
theorem zW_and {n : Nat} {f g : Nat → Nat} (hf : ∀ i, i < n → f i < 32) (hg : ∀ i, i < n → g i < 32) : zW n f &&& zW n g = zW n (fun i => f i &&& g i) := by
  apply Nat.eq_of_testBit_eq
  intro j
  rw [Nat.testBit_and, zW_bit hf, zW_bit hg, zW_bit (fun i hi => Nat.lt_of_le_of_lt Nat.and_le_left (hf i hi)), Nat.testBit_and]
  cases decide (j < 5 * n) <;> simp
theorem zW_or {n : Nat} {f g : Nat → Nat} (hf : ∀ i, i < n → f i < 32) (hg : ∀ i, i < n → g i < 32) : zW n f ||| zW n g = zW n (fun i => f i ||| g i) := by
  apply Nat.eq_of_testBit_eq
  intro j
  rw [Nat.testBit_or, zW_bit hf, zW_bit hg, zW_bit (fun i hi => Nat.or_lt_two_pow (n := 5) (hf i hi) (hg i hi)), Nat.testBit_or]
  cases decide (j < 5 * n) <;> simp
theorem zW_0 : ∀ {n : Nat}, zW n (fun _ => 0) = 0 := by
  intro n
  induction n with
  | zero => rfl
  | succ n ih => simp only [zW]; rw [ih]
/-- one group alone -/
theorem zW_one : ∀ {n p x : Nat}, p < n → zW n (fun i => if i = p then x else 0) = x * 2 ^ (5 * p) := by
  intro n
  induction n with
  | zero => intro p x h; omega
  | succ n ih =>
    intro p x h
    simp only [zW]
    cases p with
    | zero =>
      rw [zW_congr (g := fun _ => 0) (fun i _ => by simp), zW_0]
      simp
    | succ p =>
      rw [zW_congr (g := fun i => if i = p then x else 0) (fun i _ => by simp), ih (by omega)]
      rw [show 5 * (p + 1) = 5 * p + 5 by omega, Nat.pow_add]
      simp
      rw [Nat.mul_left_comm, Nat.mul_comm 32]
theorem zW_set {n p x : Nat} {f : Nat → Nat} (hp : p < n) (hf : ∀ i, i < n → f i < 32) (hx : x < 32) : zW n f ||| (x * 2 ^ (5 * p)) = zW n (fun i => if i = p then f i ||| x else f i) := by
  rw [← zW_one hp, zW_or hf (fun i hi => by split <;> omega)]
  refine zW_congr (fun i _ => ?_)
  split
  · rfl
  · simp
/-- the values v 0 .. as bits, one a group; 5 asks for nothing -/
def zdg (pl : Nat) (v : Nat → Nat) (p : Nat) : Nat := if p < pl ∧ v p ≠ 5 then 2 ^ v p else 0
def zbits (pl : Nat) (v : Nat → Nat) : Nat := zW 6 (zdg pl v)
theorem zdg_lt {pl : Nat} {v : Nat → Nat} (h : ∀ p, p < pl → v p ≤ 5) : ∀ i, i < 6 → zdg pl v i < 32 := by
  intro i _
  unfold zdg
  split
  · rename_i hh
    have h1 := h i hh.1
    exact Nat.pow_lt_pow_right (a := 2) (n := 5) (by decide) (by omega)
  · decide
theorem zbits_lt {pl : Nat} {v : Nat → Nat} (h : ∀ p, p < pl → v p ≤ 5) : zbits pl v < 2 ^ 30 := zW_lt (n := 6) (zdg_lt h)
theorem zbits_s {pl : Nat} {v : Nat → Nat} (h : ∀ p, p < pl + 1 → v p ≤ 5) (h6 : pl < 6) : zbits (pl + 1) v = if v pl = 5 then zbits pl v else zbits pl v ||| 2 ^ (5 * pl + v pl) := by
  unfold zbits
  by_cases h5 : v pl = 5
  · rw [if_pos h5]
    refine zW_congr (fun i _ => ?_)
    unfold zdg
    by_cases hi : i = pl
    · subst hi; simp [h5]
    · simp only [show (i < pl + 1) ↔ (i < pl) from ⟨fun h => by omega, fun h => by omega⟩]
  · rw [if_neg h5, show 2 ^ (5 * pl + v pl) = 2 ^ v pl * 2 ^ (5 * pl) by rw [Nat.pow_add, Nat.mul_comm]]
    have hv := h pl (by omega)
    rw [zW_set h6 (zdg_lt (fun p hp => h p (by omega))) (Nat.pow_lt_pow_right (a := 2) (n := 5) (by decide) (by omega))]
    refine zW_congr (fun i _ => ?_)
    unfold zdg
    by_cases hi : i = pl
    · subst hi; simp [h5]
    · rw [if_neg hi]; simp only [show (i < pl + 1) ↔ (i < pl) from ⟨fun h => by omega, fun h => by omega⟩]
theorem zBg.mono {d mi pc : Nat} {ls : List (Option zV)} {st : List zV} {M : zMem} {Q Q' : Option zV → zMem → Prop} (h : zBg d mi pc ls st M Q) (hq : ∀ r M', Q r M' → Q' r M') : zBg d mi pc ls st M Q' := by
  intro h1 h2 h3 I h4 h5 l D cA ad p e s m args below meth c H locs cls k1 k2 k3 k4 k5 k6
  have hw := h h1 h2 h3 I h4 h5 l D cA ad p e s m args below meth c H locs cls k1 k2 k3 k4 k5 k6
  intro T hT X
  obtain ⟨t, a1, o, b1, b2, ⟨⟨r, M', e1, e2, e3⟩, e4⟩, b4⟩ := hw T hT X
  exact ⟨t, a1, o, b1, b2, ⟨⟨r, M', e1, hq r M' e2, e3⟩, e4⟩, b4⟩
end
section
/-! small methods of the JDK and of the reference -/
def zpop (s : Nat) : Nat := (List.range 8).countP (fun i => s.testBit i)
def zlw (x : Nat) : Nat → Nat → Nat
  | 0, k => k
  | n + 1, k => if x.testBit k then k else zlw x n (k + 1)
def zlow (x : Nat) : Nat := zlw x 31 0
set_option maxRecDepth 20000 in
theorem qc180 {d : Nat} {M : zMem} {x : Nat} (hx : x < 256) : zCi d 180 [.inl (x : Int)] M (fun v M' => v = (zpop x : Int) ∧ M' = M) := by
  refine zk180 (zBg.mono (Q := fun r M' => r = zI (zpop x : Int) ∧ M' = M) ?_ (fun r M' h => ⟨_, h.1, rfl, h.2⟩))
  refine zv180_0 _ ?_
  simp only [eq_self, and_true]
  revert x
  decide +kernel
set_option maxRecDepth 20000 in
theorem qc179 {d : Nat} {M : zMem} {x : Nat} (h0 : 0 < x) (hx : x < 256) : zCi d 179 [.inl (x : Int)] M (fun v M' => v = (zlow x : Int) ∧ M' = M) := by
  refine zk179 (zBg.mono (Q := fun r M' => r = zI (zlow x : Int) ∧ M' = M) ?_ (fun r M' h => ⟨_, h.1, rfl, h.2⟩))
  have hw : ∀ x : Nat, x < 256 → 0 < x → ziand (zixor (x : Int) (-1)) ((x : Int) - 1) ≤ 256 := by decide +kernel
  have hw1 := hw x hx h0
  refine zv179_0 _ ⟨⟨by omega, by omega⟩, fun hpos => ⟨fun _ => ⟨fun _ => ?_, fun h => absurd hw1 h⟩, fun h => absurd (Int.le_trans hw1 (by decide)) h⟩, fun h => ?_⟩
  · simp only [eq_self, and_true, Option.some.injEq, Sum.inl.injEq]
    have k1 : ∀ x : Nat, x < 256 → 0 < x → ((ziand (zixor (x : Int) (-1)) ((x : Int) - 1)) > 0 ∧ (ziand (zixor (x : Int) (-1)) ((x : Int) - 1)) ≤ 4) →  zR32 (1 + ziushr (ziand (zixor (x : Int) (-1)) ((x : Int) - 1)) 1) ∧ 1 + ziushr (ziand (zixor (x : Int) (-1)) ((x : Int) - 1)) 1 = (zlow x : Int) := by decide +kernel
    have k2 : ∀ x : Nat, x < 256 → 0 < x → (ziand (zixor (x : Int) (-1)) ((x : Int) - 1)) ≤ 16 → ¬ (ziand (zixor (x : Int) (-1)) ((x : Int) - 1)) ≤ 4 →  zR32 ((1 + 2) + ziushr (ziushr (ziand (zixor (x : Int) (-1)) ((x : Int) - 1)) 2) 1) ∧ (1 + 2) + ziushr (ziushr (ziand (zixor (x : Int) (-1)) ((x : Int) - 1)) 2) 1 = (zlow x : Int) := by decide +kernel
    have k3 : ∀ x : Nat, x < 256 → 0 < x → ¬ (ziand (zixor (x : Int) (-1)) ((x : Int) - 1)) ≤ 16 → ziushr (ziand (zixor (x : Int) (-1)) ((x : Int) - 1)) 4 ≤ 4 →  zR32 ((1 + 4) + ziushr (ziushr (ziand (zixor (x : Int) (-1)) ((x : Int) - 1)) 4) 1) ∧ (1 + 4) + ziushr (ziushr (ziand (zixor (x : Int) (-1)) ((x : Int) - 1)) 4) 1 = (zlow x : Int) := by decide +kernel
    have k4 : ∀ x : Nat, x < 256 → 0 < x → ¬ (ziand (zixor (x : Int) (-1)) ((x : Int) - 1)) ≤ 16 → ¬ ziushr (ziand (zixor (x : Int) (-1)) ((x : Int) - 1)) 4 ≤ 4 →  zR32 (((1 + 4) + 2) + ziushr (ziushr (ziushr (ziand (zixor (x : Int) (-1)) ((x : Int) - 1)) 4) 2) 1) ∧ ((1 + 4) + 2) + ziushr (ziushr (ziushr (ziand (zixor (x : Int) (-1)) ((x : Int) - 1)) 4) 2) 1 = (zlow x : Int) := by decide +kernel
    have r1 : zR32 (1 + 2) := by decide
    have r2 : zR32 (1 + 4) := by decide
    have r3 : zR32 (1 + 4 + 2) := by decide
    exact ⟨fun h => ⟨fun h' => k1 x hx h0 ⟨hpos, h'⟩, fun h' => ⟨r1, k2 x hx h0 h h'⟩⟩, fun h => ⟨r2, fun h' => k3 x hx h0 h h', fun h' => ⟨r3, k4 x hx h0 h h'⟩⟩⟩
  · have key : ∀ x : Nat, x < 256 → 0 < x → ¬ ziand (zixor (x : Int) (-1)) ((x : Int) - 1) > 0 → ziand (ziand (zixor (x : Int) (-1)) ((x : Int) - 1)) 32 = (zlow x : Int) := by decide +kernel
    exact ⟨congrArg (fun v : Int => zI v) (key x hx h0 h), rfl⟩
set_option maxRecDepth 20000 in
theorem zpop_s : ∀ x, x < 256 → 0 < x → (x &&& (x - 1)) < x ∧ zpop (x &&& (x - 1)) + 1 = zpop x := by decide +kernel
theorem zpop_0 : zpop 0 = 0 := by decide
theorem qc129 {d : Nat} {M : zMem} {x : Nat} (hx : x < 256) : zCi d 129 [.inl (x : Int)] M (fun v M' => v = (zpop x : Int) ∧ M' = M) := by
  refine zk129 (zv129_0 _ ?_)
  have key : ∀ (n y a : Nat), y ≤ n → y < 256 → a + zpop y = zpop x → a ≤ 256 → zBg d 129 4 [none, zI (a : Int), zI (y : Int)] [] M (fun r M' => ∃ v : Int, r = some (.inl v) ∧ v = (zpop x : Int) ∧ M' = M) := by
    intro n
    induction n with
    | zero =>
      intro y a h1 h2 h3 h4
      have : y = 0 := by omega
      subst this
      rw [zpop_0] at h3
      exact zv129_4 _ _ ⟨fun _ => ⟨_, rfl, by omega, rfl⟩, fun h => absurd rfl h⟩
    | succ n ih =>
      intro y a h1 h2 h3 h4
      refine zv129_4 _ _ ⟨fun h => ?_, fun h => ?_⟩
      · have : y = 0 := by omega
        subst this
        rw [zpop_0] at h3
        exact ⟨_, rfl, by omega, rfl⟩
      · have hy : 0 < y := by omega
        obtain ⟨e1, e2⟩ := zpop_s y h2 hy
        have e3 : ziand (y : Int) ((y : Int) - 1) = ((y &&& (y - 1) : Nat) : Int) := by
          rw [show (y : Int) - 1 = ((y - 1 : Nat) : Int) by omega]
          exact zb_and (by omega)
        have e4 : zpop x ≤ 8 := by
          unfold zpop
          exact Nat.le_trans List.countP_le_length (by simp)
        rw [e3]
        refine ⟨⟨by omega, by omega⟩, ⟨by omega, by omega⟩, ?_⟩
        exact ih (y &&& (y - 1)) (a + 1) (by omega) (by omega) (by omega) (by omega)
  exact key x x 0 (Nat.le_refl _) hx (by omega) (by omega)
theorem qc143 {d : Nat} {M : zMem} {x : Nat} (hx : x < 2 ^ 31) : zCi d 143 [.inl (x : Int)] M (fun v M' => v = (zlow x : Int) ∧ M' = M) := by
  refine zk143 (zv143_0 _ ?_)
  have key : ∀ (n k : Nat), k + n = 31 → zlw x n k = zlow x → zBg d 143 2 [zI (x : Int), zI (k : Int)] [] M (fun r M' => ∃ v : Int, r = some (.inl v) ∧ v = (zlow x : Int) ∧ M' = M) := by
    intro n
    induction n with
    | zero =>
      intro k h1 h2
      refine zv143_2 _ _ ⟨fun _ => ⟨_, rfl, ?_, rfl⟩, fun h => absurd (by omega) h⟩
      simp only [zlw] at h2
      omega
    | succ n ih =>
      intro k h1 h2
      refine zv143_2 _ _ ⟨fun h => by omega, fun _ => ⟨fun h => ?_, fun h => ?_⟩⟩
      · rw [Ne, zb_bit0 hx (by omega)] at h
        simp only [zlw] at h2
        rw [if_pos (by cases hh : x.testBit k <;> simp_all)] at h2
        exact ⟨_, rfl, by omega, rfl⟩
      · rw [Ne, zb_bit0 hx (by omega), Decidable.not_not] at h
        simp only [zlw] at h2
        rw [if_neg (by rw [h]; decide)] at h2
        exact ⟨⟨by omega, by omega⟩, ih (k + 1) (by omega) h2⟩
  exact key 31 0 rfl rfl
theorem qc182 {d : Nat} {M : zMem} {a n : Nat} {x : Int} (ha : zSHL[a]? = some (.inl (0, n))) (hn : n < 2000) : zCv d 182 [.inr (.inr a), .inl x] M (fun M' => (∀ k, k ≠ a → M' k = M k) ∧ ∀ i, i < n → M' a i = x) := by
  refine zk182 (zv182_0 _ _ ?_)
  rw [zb_ln ha]
  have key : ∀ (m p : Nat) (M1 : zMem), p + m = n → (∀ k, k ≠ a → M1 k = M k) → (∀ i, i < p → M1 a i = x) → zBg d 182 5 [zR a, zI x, zI (p : Int), zI (n : Int)] [] M1 (fun r M' => r = none ∧ (∀ k, k ≠ a → M' k = M k) ∧ ∀ i, i < n → M' a i = x) := by
    intro m
    induction m with
    | zero =>
      intro p M1 h1 h2 h3
      exact zv182_5 _ _ _ _ ⟨fun _ => ⟨rfl, h2, fun i hi => h3 i (by omega)⟩, fun h => absurd (by omega) h⟩
    | succ m ih =>
      intro p M1 h1 h2 h3
      refine zv182_5 _ _ _ _ ⟨fun h => by omega, fun _ => ?_⟩
      rw [zb_ar ha]
      refine ⟨by omega, by omega, ⟨by omega, by omega⟩, ?_⟩
      refine ih (p + 1) _ (by omega) (fun k hk => by rw [zb_uk hk]; exact h2 k hk) (fun i hi => ?_)
      rw [Int.toNat_natCast]
      by_cases h : i = p
      · subst h; exact zb_us
      · rw [zb_ui h]; exact h3 i (by omega)
  exact key n 0 M (by omega) (fun _ _ => rfl) (fun i hi => by omega)
theorem qc181 {d : Nat} {M : zMem} {a n : Nat} {x : Int} (ha : zSHL[a]? = some (.inl (2, n))) (hn : n < 2000) : zCv d 181 [.inr (.inr a), .inr (.inl x)] M (fun M' => (∀ k, k ≠ a → M' k = M k) ∧ ∀ i, i < n → M' a i = x) := by
  refine zk181 (zv181_0 _ _ ?_)
  rw [zb_ln ha]
  have key : ∀ (m p : Nat) (M1 : zMem), p + m = n → (∀ k, k ≠ a → M1 k = M k) → (∀ i, i < p → M1 a i = x) → zBg d 181 6 [zR a, zL x, none, zI (p : Int), zI (n : Int)] [] M1 (fun r M' => r = none ∧ (∀ k, k ≠ a → M' k = M k) ∧ ∀ i, i < n → M' a i = x) := by
    intro m
    induction m with
    | zero =>
      intro p M1 h1 h2 h3
      exact zv181_6 _ _ _ _ ⟨fun _ => ⟨rfl, h2, fun i hi => h3 i (by omega)⟩, fun h => absurd (by omega) h⟩
    | succ m ih =>
      intro p M1 h1 h2 h3
      refine zv181_6 _ _ _ _ ⟨fun h => by omega, fun _ => ?_⟩
      rw [zb_ar ha]
      refine ⟨by omega, by omega, ⟨by omega, by omega⟩, ?_⟩
      refine ih (p + 1) _ (by omega) (fun k hk => by rw [zb_uk hk]; exact h2 k hk) (fun i hi => ?_)
      rw [Int.toNat_natCast]
      by_cases h : i = p
      · subst h; exact zb_us
      · rw [zb_ui h]; exact h3 i (by omega)
  exact key n 0 M (by omega) (fun _ _ => rfl) (fun i hi => by omega)
end
section
/-! who CAN what: the pure words; the class's bitsOf, look, unionOf, widened, canOf -/
def zWF (pl cp : Nat) (ch : Nat → Nat) (me : Nat → Int) (ro : Nat → Nat → Nat) : Prop := pl ≤ 6 ∧ cp ≤ 8 ∧ (∀ p, p < pl → 2 ≤ ch p ∧ ch p ≤ 4 ∧ -1 ≤ me p ∧ me p < ch p) ∧ ∀ c, c < cp → ∀ p, p < pl → ro c p < ch p
def zRC (M : zMem) (pl cp : Nat) (ch : Nat → Nat) (me : Nat → Int) (ro : Nat → Nat → Nat) : Prop := M 13 6 = pl ∧ M 4 9 = cp ∧ (∀ p, p < pl → M 15 p = ch p) ∧ (∀ p, p < pl → M 6 p = me p) ∧ ∀ c, c < cp → ∀ p, p < pl → M 7 (6 * c + p) = ro c p
def zRR (M : zMem) (pl cp : Nat) (ch : Nat → Nat) (me : Nat → Int) (ro : Nat → Nat → Nat) : Prop := M 55 4 = pl ∧ M 55 12 = cp ∧ (∀ p, p < pl → M 60 p = ch p) ∧ (∀ p, p < pl → M 64 p = me p) ∧ ∀ c, c < cp → ∀ p, p < pl → M 65 (6 * c + p) = ro c p
def zdgs (pl : Nat) (g : Nat → Nat) (i : Nat) : Nat := if i < pl then g i else 0
theorem zdgs_lt {pl k : Nat} {g : Nat → Nat} (hk : 0 < k) (h : ∀ i, i < pl → g i < k) : ∀ i, i < 6 → zdgs pl g i < k := by
  intro i _
  unfold zdgs
  split
  · exact h i (by assumption)
  · exact hk
theorem zdgs_s {p : Nat} {g : Nat → Nat} (hp : p < 6) (h : ∀ i, i < p + 1 → g i < 32) : zW 6 (zdgs p g) ||| (g p * 2 ^ (5 * p)) = zW 6 (zdgs (p + 1) g) := by
  rw [zW_set hp (zdgs_lt (by decide) (fun i hi => h i (by omega))) (h p (by omega))]
  refine zW_congr (fun i _ => ?_)
  unfold zdgs
  by_cases hi : i = p
  · subst hi; simp
  · rw [if_neg hi]
    simp only [show (i < p + 1) ↔ (i < p) from ⟨fun h => by omega, fun h => by omega⟩]
theorem zdgs_z {g : Nat → Nat} : zW 6 (zdgs 0 g) = 0 := by
  rw [zW_congr (g := fun _ => 0) (fun i _ => by unfold zdgs; simp), zW_0]
theorem zdgs_30 {pl : Nat} {g : Nat → Nat} (h : ∀ i, i < pl → g i < 32) : zW 6 (zdgs pl g) < 2 ^ 30 := zW_lt (n := 6) (zdgs_lt (by decide) h)
theorem zb_p2 {a b : Nat} (h : a < b) : 2 ^ a < 2 ^ b := Nat.pow_lt_pow_right (by decide) h
theorem zb_p2le {a b : Nat} (h : a ≤ b) : 2 ^ a ≤ 2 ^ b := Nat.pow_le_pow_right (by decide) h
theorem zb_sh {a p : Nat} (ha : a < 32) (hp : p < 6) : a * 2 ^ (5 * p) < 2 ^ 30 := by
  have h1 : 2 ^ (5 * p) ≤ 2 ^ 25 := zb_p2le (by omega)
  have h2 : a * 2 ^ (5 * p) ≤ 31 * 2 ^ 25 := Nat.mul_le_mul (by omega) h1
  omega
def zU (ro : Nat → Nat → Nat) (set p : Nat) : Nat → Nat
  | 0 => 0
  | n + 1 => zU ro set p n ||| (if set.testBit n then 2 ^ ro n p else 0)
theorem zU_lt {ro : Nat → Nat → Nat} {set p k : Nat} : ∀ {n : Nat}, (∀ c, c < n → ro c p < k) → zU ro set p n < 2 ^ k := by
  intro n
  induction n with
  | zero => intro _; exact Nat.two_pow_pos k
  | succ n ih =>
    intro h
    refine Nat.or_lt_two_pow (ih (fun c hc => h c (by omega))) ?_
    split
    · exact zb_p2 (h n (by omega))
    · exact Nat.two_pow_pos k
theorem zU_bit {ro : Nat → Nat → Nat} {set p v : Nat} : ∀ {n : Nat}, (zU ro set p n).testBit v = true ↔ ∃ c, c < n ∧ set.testBit c = true ∧ ro c p = v := by
  intro n
  induction n with
  | zero => simp [zU]
  | succ n ih =>
    simp only [zU, Nat.testBit_or, Bool.or_eq_true, ih]
    constructor
    · rintro (⟨c, h1, h2, h3⟩ | h)
      · exact ⟨c, by omega, h2, h3⟩
      · by_cases hs : set.testBit n = true
        · rw [if_pos hs, Nat.testBit_two_pow] at h
          exact ⟨n, by omega, hs, of_decide_eq_true h⟩
        · rw [if_neg hs, Nat.zero_testBit] at h; cases h
    · rintro ⟨c, h1, h2, h3⟩
      by_cases hc : c = n
      · subst hc
        refine Or.inr ?_
        rw [if_pos h2, h3]
        exact Nat.testBit_two_pow_self
      · exact Or.inl ⟨c, by omega, h2, h3⟩
theorem zU_pos {ro : Nat → Nat → Nat} {set p n c : Nat} (hc : c < n) (hs : set.testBit c = true) : 0 < zU ro set p n := by
  have h : (zU ro set p n).testBit (ro c p) = true := zU_bit.mpr ⟨c, hc, hs, rfl⟩
  rcases Nat.eq_zero_or_pos (zU ro set p n) with h0 | h0
  · rw [h0, Nat.zero_testBit] at h; cases h
  · exact h0
/-- what a union u CAN at a place with ch choices, mended to me, by hw -/
def zcan (hw ch : Nat) (me : Int) (u : Nat) : Nat := (if hw = 1 ∧ u &&& (u - 1) ≠ 0 then 2 ^ ch - 1 else if hw = 2 ∧ u &&& (u - 1) ≠ 0 then u ||| 16 else u) ||| (if me < 0 then 0 else 2 ^ me.toNat)
def zmd (me : Int) : Nat := if me < 0 then 0 else 2 ^ me.toNat
theorem zmd_lt {me : Int} (h : me < 4) : zmd me < 16 := by
  unfold zmd
  split
  · decide
  · exact zb_p2 (a := me.toNat) (b := 4) (by omega)
theorem zcan_lt {hw ch u : Nat} {me : Int} (h4 : ch ≤ 4) (hu : u < 16) (hm : me < 4) : zcan hw ch me u < 32 := by
  unfold zcan
  have h1 : 2 ^ ch ≤ 2 ^ 4 := zb_p2le h4
  refine Nat.or_lt_two_pow (n := 5) ?_ (Nat.lt_trans (zmd_lt hm) (by decide))
  split
  · omega
  · split
    · exact Nat.or_lt_two_pow (n := 5) (by omega) (by decide)
    · omega
def zwg (hw one any mnd u : Nat) : Nat := if hw = 1 then (u ||| mnd) ||| (((((u &&& (u - one)) + 15) &&& (16 * one)) - (((u &&& (u - one)) + 15) &&& (16 * one)) / 16) &&& any) else if hw = 2 then (u ||| mnd) ||| (((u &&& (u - one)) + 15) &&& (16 * one)) else u ||| mnd
theorem zwg_un : ∀ u, u < 16 → (((u &&& (u - 1)) + 15) &&& (16 * 1)) = if u &&& (u - 1) ≠ 0 then 16 else 0 := by decide
theorem zwg_or : ∀ ch, ch < 5 → ∀ u, u < 2 ^ ch → u ||| (2 ^ ch - 1) = 2 ^ ch - 1 ∧ 15 &&& (2 ^ ch - 1) = 2 ^ ch - 1 := by decide
theorem zwg_in {hw ch u : Nat} {me : Int} (hc : ch ≤ 4) (hu : u < 2 ^ ch) : zwg hw 1 (2 ^ ch - 1) (zmd me) u = zcan hw ch me u := by
  have h16 : u < 16 := Nat.lt_of_lt_of_le hu (zb_p2le (b := 4) hc)
  unfold zwg zcan
  rw [zwg_un u h16]
  obtain ⟨o1, o2⟩ := zwg_or ch (by omega) u hu
  by_cases h1 : hw = 1
  · rw [if_pos h1]
    by_cases h2 : u &&& (u - 1) ≠ 0
    · rw [if_pos h2, if_pos ⟨h1, h2⟩, show 16 - 16 / 16 = 15 by decide, o2, Nat.or_assoc, Nat.or_comm (zmd me), ← Nat.or_assoc, o1]
      rfl
    · rw [if_neg h2, if_neg (fun h => h2 h.2), if_neg (fun h => h2 h.2)]
      simp [zmd]
  · simp only [h1, false_and, if_false]
    by_cases h3 : hw = 2
    · simp only [h3, true_and, if_true]
      by_cases h2 : u &&& (u - 1) ≠ 0
      · rw [if_pos h2, if_pos h2, Nat.or_assoc, Nat.or_comm (zmd me), ← Nat.or_assoc]
        rfl
      · rw [if_neg h2, if_neg h2]
        simp [zmd]
    · simp only [h3, false_and, if_false]
      rfl
theorem zwg_out {hw : Nat} : zwg hw 0 0 0 0 = 0 := by
  unfold zwg
  split
  · decide
  · split <;> decide
theorem qc60 {d : Nat} {M : zMem} {pl a b n : Nat} {v : Nat → Nat} (hpl : M 13 6 = pl) (h6 : pl ≤ 6) (ha : zSHL[a]? = some (.inl (0, n))) (hb : b + pl ≤ n) (hn : n < 1000) (hv : ∀ p, p < pl → M a (b + p) = v p ∧ v p ≤ 5) :
    zCi d 60 [.inr (.inr 4), .inr (.inr a), .inl (b : Int)] M (fun r M' => r = (zbits pl v : Int) ∧ M' = M) := by
  refine zk60 (zv60_0 _ _ ?_)
  have key : ∀ (m p : Nat), p + m = pl → zBg d 60 5 [zR 4, zR a, zI (b : Int), zI (zbits p v : Int), zI (p : Int)] [] M (fun r M' => ∃ w : Int, r = some (.inl w) ∧ w = (zbits pl v : Int) ∧ M' = M) := by
    intro m
    induction m with
    | zero =>
      intro p hp
      have : p = pl := by omega
      subst this
      exact zv60_5 _ _ _ _ ⟨fun _ => ⟨_, rfl, rfl, rfl⟩, fun h => absurd (by omega) h⟩
    | succ m ih =>
      intro p hp
      obtain ⟨h1, h2⟩ := hv p (by omega)
      have hs := zbits_s (pl := p) (v := v) (fun q hq => (hv q (by omega)).2) (by omega)
      have hlt := zbits_lt (pl := p) (v := v) (fun q hq => (hv q (by omega)).2)
      refine zv60_5 _ _ _ _ ⟨fun h => by omega, fun _ => ?_⟩
      rw [show ((b : Int) + (p : Int)).toNat = b + p by omega, h1]
      refine ⟨⟨by omega, by omega⟩, ?_⟩
      rw [zb_ar ha]
      refine ⟨by omega, by omega, fun h => ?_, fun h => ?_⟩
      · refine ⟨⟨by omega, by omega⟩, ?_⟩
        have := ih (p + 1) (by omega)
        rw [hs, if_pos (by omega)] at this
        exact this
      · refine ⟨⟨by omega, by omega⟩, ⟨by omega, by omega⟩, ?_⟩
        rw [zb_ar ha]
        refine ⟨by omega, by omega, ⟨by omega, by omega⟩, ⟨by omega, by omega⟩, ?_⟩
        have h5 : v p ≠ 5 := by omega
        have := ih (p + 1) (by omega)
        rw [hs, if_neg h5] at this
        rw [show (5 * (p : Int) + (v p : Int)) = ((5 * p + v p : Nat) : Int) by omega, zb_shl1 (by omega), zb_or (by omega) (zb_p2 (by omega))]
        exact this
  have h0 : zbits 0 v = 0 := by
    unfold zbits
    rw [zW_congr (g := fun _ => 0) (fun i _ => by unfold zdg; simp), zW_0]
  have := key pl 0 (by omega)
  rw [h0] at this
  exact this
/-- what look leaves: ones, any, mends, the copies' rows as words -/
def zJn (M : zMem) (pl cp : Nat) (ch : Nat → Nat) (me : Nat → Int) (ro : Nat → Nat → Nat) (ms hw : Nat) : Prop := M 42 5 = cp ∧ M 42 6 = ms ∧ M 42 7 = hw ∧ M 42 8 = (zW 6 (zdgs pl (fun _ => 1)) : Int) ∧ M 42 9 = (zW 6 (zdgs pl (fun p => 2 ^ ch p - 1)) : Int) ∧ M 42 10 = (zW 6 (zdgs pl (fun p => zmd (me p))) : Int) ∧ ∀ c, c < cp → M 43 c = (zbits pl (ro c) : Int)
theorem zbits_ro {pl : Nat} {r : Nat → Nat} (h : ∀ p, p < pl → r p < 4) : zbits pl r = zW 6 (zdgs pl (fun p => 2 ^ r p)) := by
  refine zW_congr (fun i _ => ?_)
  unfold zdg zdgs
  by_cases hi : i < pl
  · have := h i hi
    rw [if_pos hi, if_pos ⟨hi, by omega⟩]
  · rw [if_neg hi, if_neg (fun h => hi h.1)]
end
section
/-! widened, look, unionOf, canOf, list of the class; the sets in their order -/
theorem qc13 {d : Nat} {M : zMem} {pl cp ms hw : Nat} {ch : Nat → Nat} {me : Nat → Int} {ro : Nat → Nat → Nat} {u : Nat → Nat} (hF : zWF pl cp ch me ro) (hJ : zJn M pl cp ch me ro ms hw) (hu : ∀ p, p < pl → 0 < u p ∧ u p < 2 ^ ch p) :
    zCi d 13 [.inr (.inr 42), .inl ((zW 6 (zdgs pl u) : Nat) : Int)] M (fun r M' => r = ((zW 6 (zdgs pl (fun p => zcan hw (ch p) (me p) (u p))) : Nat) : Int) ∧ M' = M) := by
  obtain ⟨f1, f2, f3, f4⟩ := hF
  obtain ⟨j5, j6, j7, j8, j9, j10, j43⟩ := hJ
  have hu16 : ∀ p, p < pl → u p < 16 := fun p hp => Nat.lt_of_lt_of_le (hu p hp).2 (zb_p2le (b := 4) (f3 p hp).2.1)
  have b1 : ∀ i, i < 6 → zdgs pl u i < 16 := zdgs_lt (by decide) hu16
  have b2 : ∀ i, i < 6 → zdgs pl (fun _ => 1) i < 2 := zdgs_lt (by decide) (fun _ _ => by decide)
  have b3 : ∀ i, i < 6 → zdgs pl (fun p => 2 ^ ch p - 1) i < 16 := zdgs_lt (by decide) (fun p hp => by have := zb_p2le (a := ch p) (b := 4) (f3 p hp).2.1; omega)
  have b4 : ∀ i, i < 6 → zdgs pl (fun p => zmd (me p)) i < 16 := zdgs_lt (by decide) (fun p hp => zmd_lt (by have := f3 p hp; omega))
  have c1 : ∀ i, i < 6 → zdgs pl (fun _ => 1) i ≤ zdgs pl u i := by
    intro i _
    unfold zdgs
    split
    · exact (hu i (by assumption)).1
    · exact Nat.le_refl _
  generalize hU : zdgs pl u = U at b1 c1
  generalize hO : zdgs pl (fun _ => 1) = O at b2 c1 j8
  generalize hA : zdgs pl (fun p => 2 ^ ch p - 1) = A at b3 j9
  generalize hD : zdgs pl (fun p => zmd (me p)) = D at b4 j10
  have lt : ∀ {f : Nat → Nat}, (∀ i, i < 6 → f i < 32) → zW 6 f < 2 ^ 31 := fun h => Nat.lt_trans (zW_lt (n := 6) h) (by decide)
  have e1 : ((zW 6 U : Nat) : Int) - M 42 8 = ((zW 6 (fun i => U i - O i) : Nat) : Int) := by
    have h := zW_sub c1
    rw [j8, ← h.2]
    omega
  have g1 : ∀ i, i < 6 → U i - O i < 32 := fun i hi => by have := b1 i hi; omega
  have gU : ∀ i, i < 6 → U i < 32 := fun i hi => by have := b1 i hi; omega
  have gA : ∀ i, i < 6 → A i < 32 := fun i hi => by have := b3 i hi; omega
  have gD : ∀ i, i < 6 → D i < 32 := fun i hi => by have := b4 i hi; omega
  have e2 : ziand ((zW 6 U : Nat) : Int) ((zW 6 (fun i => U i - O i) : Nat) : Int) = ((zW 6 (fun i => U i &&& (U i - O i)) : Nat) : Int) := by
    rw [zb_and (lt gU), zW_and gU g1]
  have g2 : ∀ i, i < 6 → U i &&& (U i - O i) < 16 := fun i hi => Nat.lt_of_le_of_lt Nat.and_le_left (b1 i hi)
  have e3 : ((zW 6 (fun i => U i &&& (U i - O i)) : Nat) : Int) + 519552495 = ((zW 6 (fun i => (U i &&& (U i - O i)) + 15) : Nat) : Int) := by
    have h : zW 6 (fun _ => 15) = 519552495 := by decide
    have h2 := zW_add (n := 6) (f := fun i => U i &&& (U i - O i)) (g := fun _ => 15)
    rw [← h2, h]
    omega
  have g3 : ∀ i, i < 6 → (U i &&& (U i - O i)) + 15 < 32 := fun i hi => by have := g2 i hi; omega
  have e4 : 16 * M 42 8 = ((zW 6 (fun i => 16 * O i) : Nat) : Int) := by
    rw [j8, ← zW_mul]
    omega
  have g4 : ∀ i, i < 6 → 16 * O i < 32 := fun i hi => by have := b2 i hi; omega
  have e5 : ziand ((zW 6 (fun i => (U i &&& (U i - O i)) + 15) : Nat) : Int) ((zW 6 (fun i => 16 * O i) : Nat) : Int) = ((zW 6 (fun i => ((U i &&& (U i - O i)) + 15) &&& (16 * O i)) : Nat) : Int) := by
    rw [zb_and (lt g3), zW_and g3 g4]
  have g5 : ∀ i, i < 6 → ((U i &&& (U i - O i)) + 15) &&& (16 * O i) < 32 := fun i hi => Nat.lt_of_le_of_lt Nat.and_le_left (g3 i hi)
  have d5 : ∀ i, i < 6 → 16 * ((((U i &&& (U i - O i)) + 15) &&& (16 * O i)) / 16) = ((U i &&& (U i - O i)) + 15) &&& (16 * O i) := by
    intro i hi
    have h1 := b2 i hi
    have h2 : O i = 0 ∨ O i = 1 := by omega
    have h3 := g2 i hi
    rcases h2 with h2 | h2
    · rw [h2]; simp
    · rw [h2] at h3 ⊢
      have : ∀ y, y < 16 → 16 * (((y + 15) &&& (16 * 1)) / 16) = ((y + 15) &&& (16 * 1)) := by decide
      exact this _ h3
  have e6 : zishr ((zW 6 (fun i => ((U i &&& (U i - O i)) + 15) &&& (16 * O i)) : Nat) : Int) 4 = ((zW 6 (fun i => (((U i &&& (U i - O i)) + 15) &&& (16 * O i)) / 16) : Nat) : Int) := by
    have h := zb_shr (a := zW 6 (fun i => ((U i &&& (U i - O i)) + 15) &&& (16 * O i))) (k := 4) (lt g5) (by decide)
    refine h.trans ?_
    have h2 : zW 6 (fun i => ((U i &&& (U i - O i)) + 15) &&& (16 * O i)) = 16 * zW 6 (fun i => (((U i &&& (U i - O i)) + 15) &&& (16 * O i)) / 16) := by
      rw [zW_mul]
      exact zW_congr (fun i hi => (d5 i hi).symm)
    rw [h2]
    omega
  have hs := zW_sub (n := 6) (f := fun i => ((U i &&& (U i - O i)) + 15) &&& (16 * O i)) (g := fun i => (((U i &&& (U i - O i)) + 15) &&& (16 * O i)) / 16) (fun i _ => Nat.div_le_self _ _)
  have e7 : ((zW 6 (fun i => ((U i &&& (U i - O i)) + 15) &&& (16 * O i)) : Nat) : Int) - ((zW 6 (fun i => (((U i &&& (U i - O i)) + 15) &&& (16 * O i)) / 16) : Nat) : Int) = ((zW 6 (fun i => (((U i &&& (U i - O i)) + 15) &&& (16 * O i)) - (((U i &&& (U i - O i)) + 15) &&& (16 * O i)) / 16) : Nat) : Int) := by
    rw [← hs.2]
    omega
  have g7 : ∀ i, i < 6 → (((U i &&& (U i - O i)) + 15) &&& (16 * O i)) - (((U i &&& (U i - O i)) + 15) &&& (16 * O i)) / 16 < 32 := fun i hi => by have := g5 i hi; omega
  have e8 : zior ((zW 6 U : Nat) : Int) (M 42 10) = ((zW 6 (fun i => U i ||| D i) : Nat) : Int) := by
    rw [j10, zb_or (lt gU) (lt gD), zW_or gU gD]
  have g8 : ∀ i, i < 6 → U i ||| D i < 32 := fun i hi => Nat.or_lt_two_pow (n := 5) (gU i hi) (gD i hi)
  have fin : zW 6 (fun i => zwg hw (O i) (A i) (D i) (U i)) = zW 6 (zdgs pl (fun p => zcan hw (ch p) (me p) (u p))) := by
    refine zW_congr (fun i _ => ?_)
    rw [← hU, ← hO, ← hA, ← hD]
    by_cases hi : i < pl
    · simp only [zdgs, if_pos hi]
      exact zwg_in (f3 i hi).2.1 (hu i hi).2
    · simp only [zdgs, if_neg hi]
      exact zwg_out
  refine zk13 (zv13_0 _ ?_)
  rw [e1, e2, e3, e4, e5, e6, e7, e8, j7, j9]
  have l1 := lt g1
  have l2 := lt g3
  have l3 := lt g4
  have l4 := lt g7
  refine ⟨⟨by omega, by omega⟩, ⟨by omega, by omega⟩, ⟨by omega, by omega⟩, fun h => ⟨fun h2 => ⟨_, rfl, ?_, rfl⟩, fun h2 => ⟨_, rfl, ?_, rfl⟩⟩, fun h => ⟨⟨by omega, by omega⟩, _, rfl, ?_, rfl⟩⟩
  · rw [← fin]
    have q1 : hw ≠ 1 := by omega
    have q2 : hw ≠ 2 := by omega
    simp only [zwg, if_neg q1, if_neg q2]
  · rw [← fin]
    have q2 : hw = 2 := by omega
    subst q2
    rw [zb_or (lt g8) (lt g5), zW_or g8 g5]
    rfl
  · rw [← fin]
    have q2 : hw = 1 := by omega
    subst q2
    rw [zb_and (lt g7), zW_and g7 gA, zb_or (lt g8) (lt (fun i hi => Nat.lt_of_le_of_lt Nat.and_le_left (g7 i hi))), zW_or g8 (fun i hi => Nat.lt_of_le_of_lt Nat.and_le_left (g7 i hi))]
    rfl
/-- the words of a union, of what a set CAN -/
def zuw (pl cp : Nat) (ro : Nat → Nat → Nat) (s : Nat) : Nat := zW 6 (zdgs pl (fun p => zU ro s p cp))
def zcw (pl cp : Nat) (ch : Nat → Nat) (me : Nat → Int) (ro : Nat → Nat → Nat) (hw s : Nat) : Nat := zW 6 (zdgs pl (fun p => zcan hw (ch p) (me p) (zU ro s p cp)))
theorem zU_ok {pl cp : Nat} {ch : Nat → Nat} {me : Nat → Int} {ro : Nat → Nat → Nat} (hF : zWF pl cp ch me ro) {s p n : Nat} (hp : p < pl) (hn : n ≤ cp) : zU ro s p n < 2 ^ ch p ∧ zU ro s p n < 16 := by
  have h := zU_lt (ro := ro) (set := s) (p := p) (k := ch p) (n := n) (fun c hc => hF.2.2.2 c (by omega) p hp)
  exact ⟨h, Nat.lt_of_lt_of_le h (zb_p2le (b := 4) (hF.2.2.1 p hp).2.1)⟩
theorem qc11 {d : Nat} {M : zMem} {pl cp ms hw s : Nat} {ch : Nat → Nat} {me : Nat → Int} {ro : Nat → Nat → Nat} (hF : zWF pl cp ch me ro) (hJ : zJn M pl cp ch me ro ms hw) (hs : s < 256) :
    zCi d 11 [.inr (.inr 42), .inl (s : Int)] M (fun r M' => r = (zuw pl cp ro s : Int) ∧ M' = M) := by
  have hJ' := hJ
  obtain ⟨j5, j6, j7, j8, j9, j10, j43⟩ := hJ'
  refine zk11 (zv11_0 _ ?_)
  have hcp : cp ≤ 8 := hF.2.1
  have key : ∀ (m c : Nat), c + m = cp → zBg d 11 4 [zR 42, zI (s : Int), zI ((zW 6 (zdgs pl (fun p => zU ro s p c)) : Nat) : Int), zI (c : Int)] [] M (fun r M' => ∃ w : Int, r = some (.inl w) ∧ w = (zuw pl cp ro s : Int) ∧ M' = M) := by
    intro m
    induction m with
    | zero =>
      intro c hc
      have : c = cp := by omega
      subst this
      exact zv11_4 _ _ _ ⟨fun _ => ⟨_, rfl, rfl, rfl⟩, fun h => absurd (by omega) h⟩
    | succ m ih =>
      intro c hc
      have ih1 := ih (c + 1) (by omega)
      have l1 : zW 6 (zdgs pl (fun p => zU ro s p c)) < 2 ^ 30 := zdgs_30 (fun i hi => by have := (zU_ok hF (s := s) hi (n := c) (by omega)).2; omega)
      refine zv11_4 _ _ _ ⟨fun h => by omega, fun _ => ⟨fun h => ?_, fun h => ?_⟩⟩
      · rw [Ne, zb_bit1 (by omega) (by omega)] at h
        refine ⟨⟨by omega, by omega⟩, ?_⟩
        have e : zW 6 (zdgs pl (fun p => zU ro s p (c + 1))) = zW 6 (zdgs pl (fun p => zU ro s p c)) := by
          refine zW_congr (fun i _ => ?_)
          unfold zdgs
          split
          · simp only [zU]
            rw [if_neg h]
            simp
          · rfl
        rw [e] at ih1
        exact ih1
      · rw [Ne, zb_bit1 (by omega) (by omega), Decidable.not_not] at h
        have hr : ∀ p, p < pl → ro c p < 4 := fun p hp => by have := hF.2.2.2 c (by omega) p hp; have := (hF.2.2.1 p hp).2.1; omega
        have e : zW 6 (zdgs pl (fun p => zU ro s p (c + 1))) = zW 6 (zdgs pl (fun p => zU ro s p c)) ||| zbits pl (ro c) := by
          rw [zbits_ro hr, zW_or (zdgs_lt (by decide) (fun i hi => by have := (zU_ok hF (s := s) hi (n := c) (by omega)).2; omega)) (zdgs_lt (by decide) (fun i hi => zb_p2 (b := 5) (by have := hr i hi; omega)))]
          refine zW_congr (fun i _ => ?_)
          unfold zdgs
          split
          · simp only [zU]
            rw [if_pos h]
          · rfl
        have l2 : zbits pl (ro c) < 2 ^ 30 := zbits_lt (fun p hp => by have := hr p hp; omega)
        rw [e] at ih1
        rw [Int.toNat_natCast, j43 c (by omega), zb_or (by omega) (by omega)]
        exact ⟨by omega, by omega, ⟨by omega, by omega⟩, ih1⟩
  have h0 : zW 6 (zdgs pl (fun p => zU ro s p 0)) = 0 := by
    rw [zW_congr (g := fun _ => 0) (fun i _ => by unfold zdgs; split <;> rfl), zW_0]
  have := key cp 0 (by omega)
  rw [h0] at this
  exact this
theorem zb_some {s n : Nat} (h0 : 0 < s) (h : s < 2 ^ n) : ∃ c, c < n ∧ s.testBit c = true := by
  obtain ⟨i, hi⟩ := Nat.exists_testBit_of_ne_zero (x := s) (by omega)
  refine ⟨i, ?_, hi⟩
  rcases Nat.lt_or_ge i n with h1 | h1
  · exact h1
  · rw [Nat.testBit_lt_two_pow (Nat.lt_of_lt_of_le h (zb_p2le h1))] at hi
    cases hi
theorem qc13s {d : Nat} {M : zMem} {pl cp ms hw s : Nat} {ch : Nat → Nat} {me : Nat → Int} {ro : Nat → Nat → Nat} (hF : zWF pl cp ch me ro) (hJ : zJn M pl cp ch me ro ms hw) (h0 : 0 < s) (hs : s < 2 ^ cp) :
    zCi d 13 [.inr (.inr 42), .inl (zuw pl cp ro s : Int)] M (fun r M' => r = (zcw pl cp ch me ro hw s : Int) ∧ M' = M) := by
  obtain ⟨c, h1, h2⟩ := zb_some h0 hs
  exact qc13 hF hJ (fun p hp => ⟨zU_pos h1 h2, (zU_ok hF hp (Nat.le_refl _)).1⟩)
theorem qc12 {d : Nat} {M : zMem} {pl cp ms hw s : Nat} {ch : Nat → Nat} {me : Nat → Int} {ro : Nat → Nat → Nat} (hF : zWF pl cp ch me ro) (hJ : zJn M pl cp ch me ro ms hw) (h0 : 0 < s) (hs : s < 2 ^ cp) :
    zCi (d + 1) 12 [.inr (.inr 42), .inl (s : Int)] M (fun r M' => r = (zcw pl cp ch me ro hw s : Int) ∧ M' = M) := by
  have h256 : s < 256 := Nat.lt_of_lt_of_le hs (zb_p2le (b := 8) hF.2.1)
  refine zk12 (zv12_0 _ ⟨_, qc11 hF hJ h256, ?_⟩)
  rintro v1 M1 ⟨rfl, rfl⟩
  refine ⟨_, qc13s hF hJ h0 hs, ?_⟩
  rintro v2 M2 ⟨rfl, rfl⟩
  exact ⟨_, rfl, rfl, rfl⟩
/-! the sets in their order -/
def zSk (cp k : Nat) : List Nat := (List.range (2 ^ cp)).filter (fun s => zpop s == k)
def zSs (cp : Nat) : Nat → List Nat
  | 0 => []
  | n + 1 => zSs cp n ++ zSk cp (n + 1)
set_option maxRecDepth 20000 in
theorem zSs_92 : ∀ cp, cp < 9 → ∀ k, k < 4 → (zSs cp k).length ≤ 92 := by decide +kernel
theorem zSs_mem {cp k s : Nat} (h : s ∈ zSs cp k) : 0 < s ∧ s < 2 ^ cp ∧ 1 ≤ zpop s ∧ zpop s ≤ k := by
  induction k with
  | zero => cases h
  | succ k ih =>
    rcases List.mem_append.mp h with h | h
    · have := ih h; omega
    · obtain ⟨h1, h2⟩ := List.mem_filter.mp h
      have h3 : zpop s = k + 1 := by simpa using h2
      refine ⟨?_, List.mem_range.mp h1, by omega, by omega⟩
      rcases Nat.eq_zero_or_pos s with h0 | h0
      · subst h0
        rw [zpop_0] at h3
        omega
      · exact h0
def zLs (M : zMem) (pl cp : Nat) (ch : Nat → Nat) (me : Nat → Int) (ro : Nat → Nat → Nat) (hw : Nat) (L : List Nat) : Prop := M 42 4 = L.length ∧ ∀ i s : Nat, L[i]? = some s → M 44 i = s ∧ M 45 i = zuw pl cp ro s ∧ M 46 i = zcw pl cp ch me ro hw s
theorem zLs_push {M M' : zMem} {pl cp hw s : Nat} {ch : Nat → Nat} {me : Nat → Int} {ro : Nat → Nat → Nat} {L : List Nat} (h : zLs M pl cp ch me ro hw L) (h1 : M' 42 4 = L.length + 1) (h2 : ∀ i, i ≠ L.length → M' 44 i = M 44 i ∧ M' 45 i = M 45 i ∧ M' 46 i = M 46 i) (h3 : M' 44 L.length = s ∧ M' 45 L.length = zuw pl cp ro s ∧ M' 46 L.length = zcw pl cp ch me ro hw s) : zLs M' pl cp ch me ro hw (L ++ [s]) := by
  refine ⟨by rw [h1]; simp, fun i x hx => ?_⟩
  rw [List.getElem?_append] at hx
  split at hx
  · rename_i hi
    obtain ⟨a, b, c⟩ := h2 i (by omega)
    rw [a, b, c]
    exact h.2 i x hx
  · rename_i hi
    have h4 : i - L.length = 0 := by
      have := (List.getElem?_eq_some_iff.mp hx).1
      simp at this
      omega
    rw [h4] at hx
    cases hx
    have h5 : i = L.length := by omega
    rw [h5]
    exact h3
theorem zSk_s {k s : Nat} : (List.range (s + 1)).filter (fun s => zpop s == k) = (List.range s).filter (fun s => zpop s == k) ++ (if zpop s = k then [s] else []) := by
  rw [List.range_succ, List.filter_append]
  congr 1
  by_cases h : zpop s = k
  · simp [h]
  · simp [h]
theorem zSk_le {cp k s : Nat} (h : s ≤ 2 ^ cp) : ((List.range s).filter (fun s => zpop s == k)).length ≤ (zSk cp k).length :=
  List.Sublist.length_le ((List.range_sublist.mpr h).filter _)
end
section
/-! look, list, madeBy, suspect of the class -/
theorem qc9 {d : Nat} {M : zMem} {pl cp ms hw : Nat} {ch : Nat → Nat} {me : Nat → Int} {ro : Nat → Nat → Nat} (hF : zWF pl cp ch me ro) (hR : zRC M pl cp ch me ro) :
    zCv (d + 1) 9 [.inr (.inr 42), .inr (.inr 4), .inl (ms : Int), .inl (hw : Int)] M (fun M' => zJn M' pl cp ch me ro ms hw ∧ ∀ k, k ≠ 42 → k ≠ 43 → M' k = M k) := by
  obtain ⟨f1, f2, f3, f4⟩ := hF
  obtain ⟨r1, r2, r3, r4, r5⟩ := hR
  refine zk9 (zv9_0 _ _ ?_)
  have key2 : ∀ (m c : Nat) (M1 : zMem), c + m = cp → (∀ k, k ≠ 42 → k ≠ 43 → M1 k = M k) → (M1 42 5 = cp ∧ M1 42 6 = ms ∧ M1 42 7 = hw ∧ M1 42 8 = (zW 6 (zdgs pl (fun _ => 1)) : Int) ∧ M1 42 9 = (zW 6 (zdgs pl (fun p => 2 ^ ch p - 1)) : Int) ∧ M1 42 10 = (zW 6 (zdgs pl (fun p => zmd (me p))) : Int)) → (∀ q, q < c → M1 43 q = (zbits pl (ro q) : Int)) →
      zBg (d + 1) 9 133 [zR 42, zR 4, none, none, zI (c : Int)] [] M1 (fun r M' => r = none ∧ zJn M' pl cp ch me ro ms hw ∧ ∀ k, k ≠ 42 → k ≠ 43 → M' k = M k) := by
    intro m
    induction m with
    | zero =>
      intro c M1 hc h1 h2 h3
      have : c = cp := by omega
      subst this
      obtain ⟨a1, a2, a3, a4, a5, a6⟩ := h2
      exact zv9_133 _ ⟨fun _ => ⟨rfl, ⟨a1, a2, a3, a4, a5, a6, h3⟩, h1⟩, fun h => absurd (by omega) h⟩
    | succ m ih =>
      intro c M1 hc h1 h2 h3
      have a1 := h2.1
      refine zv9_133 _ ⟨fun h => by omega, fun _ => ⟨⟨by omega, by omega⟩, ?_⟩⟩
      rw [show (c : Int) * 6 = ((6 * c : Nat) : Int) by omega]
      refine ⟨_, qc60 (n := 48) (v := ro c) (by rw [h1 13 (by decide) (by decide)]; exact r1) f1 rfl (by omega) (by decide) (fun p hp => ?_), ?_⟩
      · have := f4 c (by omega) p hp
        have := (f3 p hp).2.1
        exact ⟨by rw [h1 7 (by decide) (by decide)]; exact r5 c (by omega) p hp, by omega⟩
      · rintro v1 M2 ⟨rfl, rfl⟩
        rw [Int.toNat_natCast]
        refine ⟨by omega, by omega, ⟨by omega, by omega⟩, ?_⟩
        refine ih (c + 1) _ (by omega) (fun k hk hk2 => by rw [zb_uk hk2]; exact h1 k hk hk2) (by rw [zb_uk (by decide)]; exact h2) (fun q hq => ?_)
        by_cases hqc : q = c
        · subst hqc; exact zb_us
        · rw [zb_ui hqc]; exact h3 q (by omega)
  have key1 : ∀ (m p : Nat) (M1 : zMem), p + m = pl → (∀ k, k ≠ 42 → k ≠ 43 → M1 k = M k) → (M1 42 5 = cp ∧ M1 42 6 = ms ∧ M1 42 7 = hw ∧ M1 42 8 = (zW 6 (zdgs p (fun _ => 1)) : Int) ∧ M1 42 9 = (zW 6 (zdgs p (fun p => 2 ^ ch p - 1)) : Int) ∧ M1 42 10 = (zW 6 (zdgs p (fun p => zmd (me p))) : Int)) →
      zBg (d + 1) 9 36 [zR 42, zR 4, none, none, zI (p : Int)] [] M1 (fun r M' => r = none ∧ zJn M' pl cp ch me ro ms hw ∧ ∀ k, k ≠ 42 → k ≠ 43 → M' k = M k) := by
    intro m
    induction m with
    | zero =>
      intro p M1 hp h1 h2
      have : p = pl := by omega
      subst this
      refine zv9_36 _ ⟨fun _ => key2 cp 0 M1 (by omega) h1 h2 (fun q hq => by omega), fun h => absurd ?_ h⟩
      rw [h1 13 (by decide) (by decide), r1]
      omega
    | succ m ih =>
      intro p M1 hp h1 h2
      obtain ⟨a1, a2, a3, a4, a5, a6⟩ := h2
      have e13 : M1 13 6 = pl := by rw [h1 13 (by decide) (by decide)]; exact r1
      have e15 : M1 15 p = ch p := by rw [h1 15 (by decide) (by decide)]; exact r3 p (by omega)
      have e6 : M1 6 p = me p := by rw [h1 6 (by decide) (by decide)]; exact r4 p (by omega)
      obtain ⟨w1, w2, w3, w4⟩ := f3 p (by omega)
      have hany : ∀ i, i < p + 1 → 2 ^ ch i - 1 < 32 := fun i hi => by have := zb_p2le (a := ch i) (b := 4) (f3 i (by omega)).2.1; omega
      have hmd : ∀ i, i < p + 1 → zmd (me i) < 32 := fun i hi => by have := zmd_lt (me := me i) (by have := f3 i (by omega); omega); omega
      have s1 := zdgs_s (p := p) (g := fun _ => 1) (by omega) (fun _ _ => by decide)
      have s2 := zdgs_s (p := p) (g := fun p => 2 ^ ch p - 1) (by omega) hany
      have s3 := zdgs_s (p := p) (g := fun p => zmd (me p)) (by omega) hmd
      have l1 : zW 6 (zdgs p (fun _ => 1)) < 2 ^ 30 := zdgs_30 (fun _ _ => by decide)
      have l2 : zW 6 (zdgs p (fun p => 2 ^ ch p - 1)) < 2 ^ 30 := zdgs_30 (fun i hi => hany i (by omega))
      have l3 : zW 6 (zdgs p (fun p => zmd (me p))) < 2 ^ 30 := zdgs_30 (fun i hi => hmd i (by omega))
      have m2 := hany p (by omega)
      have m3 := hmd p (by omega)
      have t1 : zior (M1 42 8) (zishl 1 (5 * (p : Int))) = ((zW 6 (zdgs (p + 1) (fun _ => 1)) : Nat) : Int) := by
        have l4 := zb_sh (a := 1) (p := p) (by decide) (by omega)
        rw [a4, show 5 * (p : Int) = ((5 * p : Nat) : Int) by omega, zb_shl1 (by omega), zb_or (by omega) (by omega), ← s1, Nat.one_mul]
      have t2 : zishl 1 (M1 15 p) - 1 = ((2 ^ ch p - 1 : Nat) : Int) := by
        rw [e15, zb_shl1 (by omega)]
        have := Nat.two_pow_pos (ch p)
        omega
      have t3 : zior (M1 42 9) (zishl (((2 ^ ch p - 1 : Nat) : Int)) (5 * (p : Int))) = ((zW 6 (zdgs (p + 1) (fun p => 2 ^ ch p - 1)) : Nat) : Int) := by
        have l4 := zb_sh (a := 2 ^ ch p - 1) (p := p) m2 (by omega)
        rw [a5, show 5 * (p : Int) = ((5 * p : Nat) : Int) by omega, zb_shl (by omega) (by omega), zb_or (by omega) (by omega), ← s2]
      have hp2 := zb_p2le (a := ch p) (b := 4) w2
      refine zv9_36 _ ⟨fun h => by omega, fun _ => ?_⟩
      rw [Int.toNat_natCast, t1, t2, t3, e6]
      refine ⟨⟨by omega, by omega⟩, by omega, by omega, ⟨by omega, by omega⟩, ⟨by omega, by omega⟩, by omega, by omega, fun h => ⟨⟨by omega, by omega⟩, ?_⟩, fun h => ⟨⟨by omega, by omega⟩, by omega, by omega, ⟨by omega, by omega⟩, ⟨by omega, by omega⟩, ?_⟩⟩
      · refine ih (p + 1) _ (by omega) (fun k hk hk2 => by rw [zb_uk hk, zb_uk hk]; exact h1 k hk hk2) ⟨by simp [zup]; exact a1, by simp [zup]; exact a2, by simp [zup]; exact a3, by simp [zup], by simp [zup], ?_⟩
        have z : zmd (me p) = 0 := by unfold zmd; rw [if_pos h]
        rw [← s3, z]
        simp [zup, a6]
      · have z : zmd (me p) = 2 ^ (me p).toNat := by unfold zmd; rw [if_neg h]
        have t4 : zior (M1 42 10) (zishl 1 (5 * (p : Int) + me p)) = ((zW 6 (zdgs (p + 1) (fun p => zmd (me p))) : Nat) : Int) := by
          rw [a6, show 5 * (p : Int) + me p = ((5 * p + (me p).toNat : Nat) : Int) by omega, zb_shl1 (by omega), zb_or (by omega) (zb_p2 (by omega)), ← s3, z, Nat.pow_add, Nat.mul_comm]
        rw [t4]
        exact ih (p + 1) _ (by omega) (fun k hk hk2 => by rw [zb_uk hk, zb_uk hk, zb_uk hk]; exact h1 k hk hk2) ⟨by simp [zup]; exact a1, by simp [zup]; exact a2, by simp [zup]; exact a3, by simp [zup], by simp [zup], by simp [zup]⟩
  refine key1 pl 0 _ (by omega) (fun k hk hk2 => by simp only [zb_uk hk]) ⟨?_, ?_, ?_, ?_, ?_, ?_⟩
  · simp [zup]; exact r2
  · simp [zup]
  · simp [zup]
  · rw [zdgs_z]; simp [zup]
  · rw [zdgs_z]; simp [zup]
  · rw [zdgs_z]; simp [zup]
theorem zJn_of {M M' : zMem} {pl cp ms hw : Nat} {ch : Nat → Nat} {me : Nat → Int} {ro : Nat → Nat → Nat} (h : zJn M pl cp ch me ro ms hw) (h1 : ∀ j, 5 ≤ j → j < 11 → M' 42 j = M 42 j) (h2 : M' 43 = M 43) : zJn M' pl cp ch me ro ms hw := by
  unfold zJn
  rw [h1 5 (by decide) (by decide), h1 6 (by decide) (by decide), h1 7 (by decide) (by decide), h1 8 (by decide) (by decide), h1 9 (by decide) (by decide), h1 10 (by decide) (by decide), h2]
  exact h
theorem qc10 {d : Nat} {M : zMem} {pl cp ms hw : Nat} {ch : Nat → Nat} {me : Nat → Int} {ro : Nat → Nat → Nat} (hF : zWF pl cp ch me ro) (hJ : zJn M pl cp ch me ro ms hw) (hms : ms ≤ 3) :
    zCv (d + 1) 10 [.inr (.inr 42)] M (fun M' => zJn M' pl cp ch me ro ms hw ∧ zLs M' pl cp ch me ro hw (zSs cp ms) ∧ ∀ k, k < 42 ∨ k = 43 ∨ 46 < k → M' k = M k) := by
  refine zk10 (zv10_0 ?_)
  have hcp := hF.2.1
  have h256 : 2 ^ cp ≤ 2 ^ 8 := zb_p2le hcp
  have key : ∀ (m k : Nat) (M1 : zMem), k + m = ms + 1 → 1 ≤ k → zJn M1 pl cp ch me ro ms hw → zLs M1 pl cp ch me ro hw (zSs cp (k - 1)) → (∀ k, k < 42 ∨ k = 43 ∨ 46 < k → M1 k = M k) →
      zBg (d + 1) 10 7 [zR 42, zI (k : Int), none] [] M1 (fun r M' => r = none ∧ zJn M' pl cp ch me ro ms hw ∧ zLs M' pl cp ch me ro hw (zSs cp ms) ∧ ∀ k, k < 42 ∨ k = 43 ∨ 46 < k → M' k = M k) := by
    intro m
    induction m with
    | zero =>
      intro k M1 hk hk1 a1 a2 a3
      have : k = ms + 1 := by omega
      subst this
      refine zv10_7 _ ⟨fun _ => ⟨rfl, a1, a2, a3⟩, fun h => absurd ?_ h⟩
      rw [a1.2.1]; omega
    | succ m ih =>
      intro k M1 hk hk1 a1 a2 a3
      refine zv10_7 _ ⟨fun h => by rw [a1.2.1] at h; omega, fun _ => ?_⟩
      have key2 : ∀ (n s : Nat) (M2 : zMem), s + n = 2 ^ cp → 1 ≤ s → zJn M2 pl cp ch me ro ms hw → zLs M2 pl cp ch me ro hw (zSs cp (k - 1) ++ (List.range s).filter (fun s => zpop s == k)) → (∀ k, k < 42 ∨ k = 43 ∨ 46 < k → M2 k = M k) →
          zBg (d + 1) 10 17 [zR 42, zI (k : Int), zI (s : Int)] [] M2 (fun r M' => r = none ∧ zJn M' pl cp ch me ro ms hw ∧ zLs M' pl cp ch me ro hw (zSs cp ms) ∧ ∀ k, k < 42 ∨ k = 43 ∨ 46 < k → M' k = M k) := by
        intro n
        induction n with
        | zero =>
          intro s M2 hs hs1 b1 b2 b3
          have : s = 2 ^ cp := by omega
          subst this
          refine zv10_17 _ _ ⟨fun _ => ⟨⟨by omega, by omega⟩, ?_⟩, fun h => absurd ?_ h⟩
          · refine ih (k + 1) M2 (by omega) (by omega) b1 ?_ b3
            rw [show k + 1 - 1 = k - 1 + 1 by omega]
            simp only [zSs, zSk]
            rw [show k - 1 + 1 = k by omega]
            exact b2
          · rw [b1.1, zb_shl1 (by omega)]; omega
        | succ n ih2 =>
          intro s M2 hs hs1 b1 b2 b3
          refine zv10_17 _ _ ⟨fun h => ?_, fun _ => ?_⟩
          · rw [b1.1, zb_shl1 (by omega)] at h; omega
          · refine ⟨_, qc180 (by omega), ?_⟩
            rintro v1 M3 ⟨rfl, rfl⟩
            have hss := zSk_s (k := k) (s := s)
            refine ⟨fun h => ⟨⟨by omega, by omega⟩, ?_⟩, fun h => ?_⟩
            · rw [if_neg (by omega)] at hss
              refine ih2 (s + 1) M3 (by omega) (by omega) b1 ?_ b3
              rw [hss, List.append_nil]
              exact b2
            · rw [if_pos (by omega)] at hss
              have hlen : (zSs cp (k - 1) ++ (List.range s).filter (fun s => zpop s == k)).length < 92 := by
                have q1 := zSs_92 cp (by omega) k (by omega)
                have q2 := zSk_le (cp := cp) (k := k) (s := s + 1) (by omega)
                rw [hss] at q2
                rw [show k = k - 1 + 1 by omega] at q1
                simp only [zSs] at q1
                rw [show k - 1 + 1 = k by omega] at q1
                simp only [List.length_append, List.length_cons, List.length_nil] at q1 q2 ⊢
                omega
              have b20 := b2.1
              generalize hL : zSs cp (k - 1) ++ (List.range s).filter (fun s => zpop s == k) = L at b2 b20 hlen
              refine ⟨fun h => by rw [b20] at h; omega, fun _ => ?_⟩
              rw [b20]
              refine ⟨by omega, by omega, _, qc11 (M := zup M3 44 ((L.length : Int)).toNat s) hF (zJn_of b1 (fun j _ _ => by rw [zb_uk (by decide)]) (by rw [zb_uk (by decide)])) (by omega), ?_⟩
              rintro v2 M4 ⟨rfl, rfl⟩
              have b4 : zup M3 44 ((L.length : Int)).toNat (s : Int) 42 4 = L.length := by rw [zb_uk (by decide)]; exact b20
              rw [b4]
              simp only [Int.toNat_natCast]
              rw [zb_us]
              refine ⟨by omega, by omega, by omega, by omega, _, qc13s (M := zup (zup M3 44 L.length s) 45 L.length (zuw pl cp ro s)) hF (zJn_of b1 (fun j _ _ => by rw [zb_uk (by decide), zb_uk (by decide)]) (by rw [zb_uk (by decide), zb_uk (by decide)])) (by omega) (by omega), ?_⟩
              rintro v3 M5 ⟨rfl, rfl⟩
              have b5 : zup (zup M3 44 L.length (s : Int)) 45 L.length (zuw pl cp ro s) 42 4 = L.length := by rw [zb_uk (by decide), zb_uk (by decide)]; exact b20
              rw [b5]
              refine ⟨by omega, by omega, ⟨by omega, by omega⟩, ⟨by omega, by omega⟩, ?_⟩
              refine ih2 (s + 1) _ (by omega) (by omega) (zJn_of b1 (fun j _ _ => ?_) ?_) ?_ (fun q hq => ?_)
              · rw [zb_ui (by omega), zb_uk (by decide), zb_uk (by decide), zb_uk (by decide)]
              · rw [zb_uk (by decide), zb_uk (by decide), zb_uk (by decide), zb_uk (by decide)]
              · rw [hss, ← List.append_assoc, hL]
                refine zLs_push b2 zb_us (fun i hi => ⟨?_, ?_, ?_⟩) ⟨?_, ?_, ?_⟩
                · rw [zb_uk (by decide), zb_uk (by decide), zb_uk (by decide), zb_ui hi]
                · rw [zb_uk (by decide), zb_uk (by decide), zb_ui hi, zb_uk (by decide)]
                · rw [zb_uk (by decide), zb_ui hi, zb_uk (by decide), zb_uk (by decide)]
                · rw [zb_uk (by decide), zb_uk (by decide), zb_uk (by decide), zb_us]
                · rw [zb_uk (by decide), zb_uk (by decide), zb_us]
                · rw [zb_uk (by decide), zb_us]
              · rw [zb_uk (by omega), zb_uk (by omega), zb_uk (by omega), zb_uk (by omega)]
                exact b3 q hq
      have hpos := Nat.two_pow_pos cp
      refine key2 (2 ^ cp - 1) 1 M1 (by omega) (by omega) a1 ?_ a3
      have : (List.range 1).filter (fun s => zpop s == k) = [] := by
        have h0 : zpop 0 = 0 := by decide
        have h1 : ¬ 0 = k := by omega
        simp [List.range_succ, h0, h1]
      rw [this, List.append_nil]
      exact a2
  refine key ms 1 _ (by omega) (by omega) (zJn_of hJ (fun j _ _ => by rw [zb_ui (by omega)]) (by rw [zb_uk (by decide)])) ?_ (fun k hk => by rw [zb_uk (by omega)])
  refine ⟨zb_us, fun i s h => ?_⟩
  simp [zSs] at h
end
section
/-! who COULD: makes as a predicate, madeBy and suspect of the class, its calls could, maker, blamed, unjust, count, past -/
def zmk (pl cp : Nat) (ch : Nat → Nat) (me : Nat → Int) (ro : Nat → Nat → Nat) (hw : Nat) (v : Nat → Nat) (s : Nat) : Bool := (List.range pl).all (fun p => v p == 5 || (zcan hw (ch p) (me p) (zU ro s p cp)).testBit (v p))
theorem zmk_iff {pl cp hw s : Nat} {ch : Nat → Nat} {me : Nat → Int} {ro : Nat → Nat → Nat} {v : Nat → Nat} : zmk pl cp ch me ro hw v s = true ↔ ∀ p, p < pl → v p = 5 ∨ (zcan hw (ch p) (me p) (zU ro s p cp)).testBit (v p) = true := by
  unfold zmk
  simp
theorem zcan_ok {pl cp hw s : Nat} {ch : Nat → Nat} {me : Nat → Int} {ro : Nat → Nat → Nat} (hF : zWF pl cp ch me ro) : ∀ i, i < 6 → zdgs pl (fun p => zcan hw (ch p) (me p) (zU ro s p cp)) i < 32 :=
  zdgs_lt (by decide) (fun p hp => zcan_lt (hF.2.2.1 p hp).2.1 (zU_ok hF hp (Nat.le_refl _)).2 (by have := hF.2.2.1 p hp; omega))
theorem zcw_lt {pl cp hw s : Nat} {ch : Nat → Nat} {me : Nat → Int} {ro : Nat → Nat → Nat} (hF : zWF pl cp ch me ro) : zcw pl cp ch me ro hw s < 2 ^ 30 := zW_lt (n := 6) (zcan_ok hF)
/-- bits of a row of values lie within a word of groups just where each is there -/
theorem zbits_in {pl : Nat} {v g : Nat → Nat} (h6 : pl ≤ 6) (hv : ∀ p, p < pl → v p ≤ 5) (hg : ∀ i, i < pl → g i < 32) : (∀ i, (zbits pl v).testBit i = true → (zW 6 (zdgs pl g)).testBit i = true) ↔ ∀ p, p < pl → v p = 5 ∨ (g p).testBit (v p) = true := by
  have hg6 := zdgs_lt (pl := pl) (g := g) (k := 32) (by decide) hg
  constructor
  · intro h p hp
    by_cases h5 : v p = 5
    · exact Or.inl h5
    · refine Or.inr ?_
      have hv5 := hv p hp
      have h1 : (zbits pl v).testBit (5 * p + v p) = true := by
        unfold zbits
        rw [zW_at (zdg_lt hv) (by omega) (by omega)]
        unfold zdg
        rw [if_pos ⟨hp, h5⟩]
        exact Nat.testBit_two_pow_self
      have h2 := h _ h1
      rw [zW_at hg6 (by omega) (by omega)] at h2
      unfold zdgs at h2
      rw [if_pos hp] at h2
      exact h2
  · intro h i hi
    unfold zbits at hi
    rw [zW_bit (zdg_lt hv)] at hi
    simp only [Bool.and_eq_true, decide_eq_true_eq] at hi
    obtain ⟨h1, h2⟩ := hi
    unfold zdg at h2
    by_cases hc : i / 5 < pl ∧ v (i / 5) ≠ 5
    · rw [if_pos hc, Nat.testBit_two_pow] at h2
      have h3 := of_decide_eq_true h2
      rw [zW_bit hg6, decide_eq_true h1]
      unfold zdgs
      rw [if_pos hc.1, ← h3]
      rcases h (i / 5) hc.1 with h4 | h4
      · exact absurd h4 hc.2
      · rw [h4]; rfl
    · rw [if_neg hc, Nat.zero_testBit] at h2; cases h2
theorem zmk_word {pl cp hw s : Nat} {ch : Nat → Nat} {me : Nat → Int} {ro : Nat → Nat → Nat} {v : Nat → Nat} (hF : zWF pl cp ch me ro) (hv : ∀ p, p < pl → v p ≤ 5) : ziand (zbits pl v : Int) (zixor (zcw pl cp ch me ro hw s : Int) (-1)) = 0 ↔ zmk pl cp ch me ro hw v s = true := by
  have h1 := zbits_lt hv
  rw [zb_andn0 (by omega), zmk_iff]
  exact zbits_in hF.1 hv (fun p hp => zcan_lt (hF.2.2.1 p hp).2.1 (zU_ok hF hp (Nat.le_refl _)).2 (by have := hF.2.2.1 p hp; omega))
def zith (F : List Nat) (i : Nat) : Int := match F[i]? with
  | some s => (s : Int)
  | none => -4
def zall (F : List Nat) : Nat := F.foldl (fun a s => a &&& s) 255
def zsome (F : List Nat) : Nat := F.foldl (fun a s => a ||| s) 0
def zsur (F : List Nat) : Nat := if F = [] then 0 else zall F
theorem zall_lt {F : List Nat} : zall F < 256 := by
  unfold zall
  have : ∀ (F : List Nat) (a : Nat), a < 256 → F.foldl (fun a s => a &&& s) a < 256 := by
    intro F
    induction F with
    | nil => intro a h; exact h
    | cons s F ih => intro a h; exact ih _ (Nat.lt_of_le_of_lt Nat.and_le_left h)
  exact this F 255 (by decide)
theorem zsome_lt {F : List Nat} (h : ∀ s, s ∈ F → s < 256) : zsome F < 256 := by
  unfold zsome
  have : ∀ (F : List Nat) (a : Nat), (∀ s, s ∈ F → s < 256) → a < 256 → F.foldl (fun a s => a ||| s) a < 256 := by
    intro F
    induction F with
    | nil => intro a _ h; exact h
    | cons s F ih => intro a h1 h; exact ih _ (fun x hx => h1 x (List.mem_cons_of_mem _ hx)) (Nat.or_lt_two_pow (n := 8) h (h1 s List.mem_cons_self))
  exact this F 0 h (by decide)
theorem zsur_lt {F : List Nat} : zsur F < 256 := by
  unfold zsur
  split
  · decide
  · exact zall_lt
/-- the sets that could have made the values v -/
def zF (pl cp : Nat) (ch : Nat → Nat) (me : Nat → Int) (ro : Nat → Nat → Nat) (ms hw : Nat) (v : Nat → Nat) : List Nat := (zSs cp ms).filter (zmk pl cp ch me ro hw v)
theorem zF_256 {pl cp ms hw : Nat} {ch : Nat → Nat} {me : Nat → Int} {ro : Nat → Nat → Nat} {v : Nat → Nat} (hcp : cp ≤ 8) : ∀ s, s ∈ zF pl cp ch me ro ms hw v → s < 256 := by
  intro s hs
  have h1 := (zSs_mem (List.mem_filter.mp hs).1).2.1
  exact Nat.lt_of_lt_of_le h1 (zb_p2le (b := 8) hcp)
theorem qc14 {d : Nat} {M : zMem} {pl cp hw i : Nat} {ch : Nat → Nat} {me : Nat → Int} {ro : Nat → Nat → Nat} {v : Nat → Nat} {L : List Nat} (hF : zWF pl cp ch me ro) (hv : ∀ p, p < pl → v p ≤ 5) (hL : zLs M pl cp ch me ro hw L) (h92 : L.length ≤ 92) (hi : i < 2 ^ 31) :
    zCi d 14 [.inr (.inr 42), .inl (zbits pl v : Int), .inl (i : Int)] M (fun r M' => r = zith (L.filter (zmk pl cp ch me ro hw v)) i ∧ M' = M) := by
  refine zk14 (zv14_0 _ _ ?_)
  have key : ∀ (R D : List Nat) (j : Nat), D ++ R = L → j + (D.filter (zmk pl cp ch me ro hw v)).length = i → zBg d 14 5 [zR 42, zI (zbits pl v : Int), none, zI (j : Int), zI (D.length : Int)] [] M (fun r M' => ∃ w : Int, r = some (.inl w) ∧ w = zith (L.filter (zmk pl cp ch me ro hw v)) i ∧ M' = M) := by
    intro R
    induction R with
    | nil =>
      intro D j h1 h2
      rw [List.append_nil] at h1
      subst h1
      refine zv14_5 _ _ _ ⟨fun _ => ⟨_, rfl, ?_, rfl⟩, fun h => absurd (by rw [hL.1]; omega) h⟩
      unfold zith
      rw [List.getElem?_eq_none (by omega)]
    | cons s R ih =>
      intro D j h1 h2
      have hlen : D.length < L.length := by rw [← h1]; simp
      have hs : L[D.length]? = some s := by rw [← h1]; simp
      obtain ⟨a1, a2, a3⟩ := hL.2 _ _ hs
      refine zv14_5 _ _ _ ⟨fun h => by rw [hL.1] at h; omega, fun _ => ⟨by omega, by omega, ?_⟩⟩
      rw [Int.toNat_natCast, a1, a3, Ne, zmk_word hF hv]
      have ih1 := ih (D ++ [s])
      simp only [List.append_assoc, List.singleton_append, List.length_append, List.length_cons, List.length_nil] at ih1
      refine ⟨fun h => ⟨⟨by omega, by omega⟩, ?_⟩, fun h => ?_⟩
      · refine ih1 j h1 ?_
        rw [List.filter_append, List.filter_cons_of_neg h]
        simp
        exact h2
      · rw [Decidable.not_not] at h
        refine ⟨fun hj => ⟨⟨by omega, by omega⟩, ⟨by omega, by omega⟩, ?_⟩, fun hj => ⟨by omega, by omega, _, rfl, ?_, rfl⟩⟩
        · rw [show (j : Int) + -1 = ((j - 1 : Nat) : Int) by omega]
          refine ih1 (j - 1) h1 ?_
          rw [List.filter_append, List.filter_cons_of_pos h]
          simp
          omega
        · unfold zith
          rw [← h1, List.filter_append, List.filter_cons_of_pos h, List.getElem?_append_right (by omega)]
          rw [show i - (D.filter (zmk pl cp ch me ro hw v)).length = 0 by omega]
          rfl
  exact key L [] i rfl (by simp)
theorem zall_push {F : List Nat} {s : Nat} (hs : s < 256) : ziand (if F = [] then (-1 : Int) else (zall F : Int)) s = if F ++ [s] = [] then (-1 : Int) else (zall (F ++ [s]) : Int) := by
  have e : zall (F ++ [s]) = zall F &&& s := by
    unfold zall
    rw [List.foldl_append]
    rfl
  have hne : ¬ (F ++ [s] = []) := by simp
  rw [if_neg hne, e]
  by_cases he : F = []
  · rw [if_pos he, he, zb_m1and (by omega)]
    have h9 : ∀ s, s < 256 → 255 &&& s = s := by decide +kernel
    have h10 : zall [] &&& s = s := h9 s hs
    rw [h10]
  · rw [if_neg he, zb_and (Nat.lt_trans zall_lt (by decide))]
theorem qc15 {d : Nat} {M : zMem} {pl cp ms hw : Nat} {ch : Nat → Nat} {me : Nat → Int} {ro : Nat → Nat → Nat} {v : Nat → Nat} (hF : zWF pl cp ch me ro) (hv : ∀ p, p < pl → v p ≤ 5) (hL : zLs M pl cp ch me ro hw (zSs cp ms)) (hms : ms ≤ 3) :
    zCv d 15 [.inr (.inr 42), .inl (zbits pl v : Int)] M (fun M' => (M' 42 13 = ((zF pl cp ch me ro ms hw v).length : Int) ∧ M' 42 11 = (zsur (zF pl cp ch me ro ms hw v) : Int) ∧ M' 42 12 = (zsome (zF pl cp ch me ro ms hw v) : Int)) ∧ ∀ k, k ≠ 42 → M' k = M k) := by
  have h92 := zSs_92 cp (by have := hF.2.1; omega) ms (by omega)
  have h256 : ∀ s, s ∈ zSs cp ms → s < 256 := fun s hs => Nat.lt_of_lt_of_le (zSs_mem hs).2.1 (zb_p2le (b := 8) hF.2.1)
  refine zk15 (zv15_0 _ ?_)
  unfold zF
  generalize zSs cp ms = L at *
  generalize hmk : zmk pl cp ch me ro hw v = mk
  have key : ∀ (R D : List Nat) (M1 : zMem), D ++ R = L → (∀ k, k ≠ 42 → M1 k = M k) → M1 42 4 = L.length → (M1 42 13 = ((D.filter mk).length : Int) ∧ M1 42 11 = (if D.filter mk = [] then (-1 : Int) else (zall (D.filter mk) : Int)) ∧ M1 42 12 = (zsome (D.filter mk) : Int)) →
      zBg d 15 17 [zR 42, zI (zbits pl v : Int), zI (D.length : Int)] [] M1 (fun r M' => r = none ∧ (M' 42 13 = ((L.filter mk).length : Int) ∧ M' 42 11 = (zsur (L.filter mk) : Int) ∧ M' 42 12 = (zsome (L.filter mk) : Int)) ∧ ∀ k, k ≠ 42 → M' k = M k) := by
    intro R
    induction R with
    | nil =>
      intro D M1 h1 h2 h3 h4
      rw [List.append_nil] at h1
      subst h1
      obtain ⟨b1, b2, b3⟩ := h4
      refine zv15_17 _ _ ⟨fun _ => ⟨fun hz => ⟨rfl, ⟨?_, ?_, ?_⟩, fun k hk => by rw [zb_uk hk]; exact h2 k hk⟩, fun hz => ⟨rfl, ⟨?_, ?_, ?_⟩, fun k hk => by rw [zb_uk hk]; exact h2 k hk⟩⟩, fun h => absurd (by rw [h3]; omega) h⟩
      · rw [zb_ui (by decide)]; exact b1
      · have hne : D.filter mk ≠ [] := fun e => hz (by rw [b1, e]; rfl)
        rw [zb_us, b2]
        unfold zsur
        rw [if_neg hne, if_neg hne]
      · rw [zb_ui (by decide)]; exact b3
      · rw [zb_ui (by decide)]; exact b1
      · have he : D.filter mk = [] := List.length_eq_zero_iff.mp (by rw [Ne, Decidable.not_not, b1] at hz; omega)
        rw [zb_us]
        unfold zsur
        rw [if_pos he]
        rfl
      · rw [zb_ui (by decide)]; exact b3
    | cons s R ih =>
      intro D M1 h1 h2 h3 h4
      obtain ⟨b1, b2, b3⟩ := h4
      have hlen : D.length < L.length := by rw [← h1]; simp
      have hs : L[D.length]? = some s := by rw [← h1]; simp
      obtain ⟨a1, a2, a3⟩ := hL.2 _ _ hs
      have hs2 : s < 256 := h256 s (by rw [← h1]; simp)
      refine zv15_17 _ _ ⟨fun h => by rw [h3] at h; omega, fun _ => ⟨by omega, by omega, ?_⟩⟩
      rw [Int.toNat_natCast, h2 44 (by decide), h2 46 (by decide), a1, a3, Ne, zmk_word hF hv, hmk]
      have ih1 := ih (D ++ [s])
      simp only [List.append_assoc, List.singleton_append, List.length_append, List.length_cons, List.length_nil] at ih1
      refine ⟨fun h => ⟨⟨by omega, by omega⟩, ?_⟩, fun h => ?_⟩
      · refine ih1 M1 h1 h2 h3 ?_
        rw [List.filter_append, List.filter_cons_of_neg h, List.filter_nil, List.append_nil]
        exact ⟨b1, b2, b3⟩
      · rw [Decidable.not_not] at h
        have hfl : (D.filter mk).length ≤ 92 := Nat.le_trans (List.length_filter_le _ _) (by omega)
        refine ⟨⟨by omega, by omega⟩, by omega, by omega, by omega, by omega, ⟨by omega, by omega⟩, ?_⟩
        refine ih1 _ h1 (fun k hk => by rw [zb_uk hk, zb_uk hk, zb_uk hk]; exact h2 k hk) ?_ ?_
        · rw [zb_ui (by decide), zb_ui (by decide), zb_ui (by decide)]; exact h3
        · rw [List.filter_append, List.filter_cons_of_pos h]
          refine ⟨?_, ?_, ?_⟩
          · rw [zb_ui (by decide), zb_ui (by decide), zb_us, b1]
            simp
          · rw [zb_ui (by decide), zb_us, b2]
            exact zall_push hs2
          · have hz := zsome_lt (F := D.filter mk) (fun x hx => h256 x (by rw [← h1]; exact List.mem_append_left _ (List.mem_filter.mp hx).1))
            rw [zb_us, b3, zb_or (by omega) (by omega)]
            unfold zsome
            rw [List.foldl_append]
            rfl
  refine key L [] _ rfl (fun k hk => by simp only [zb_uk hk]) ?_ ⟨?_, ?_, ?_⟩
  · rw [zb_ui (by decide), zb_ui (by decide), zb_ui (by decide)]; exact hL.1
  · rw [zb_ui (by decide), zb_ui (by decide), zb_us]; rfl
  · rw [zb_ui (by decide), zb_us]; rfl
  · rw [zb_us]; rfl
end
section
/-! the class's calls could, maker, blamed, unjust, count, past -/
def zCC (M : zMem) (pl cp : Nat) (ch : Nat → Nat) (me : Nat → Int) (ro : Nat → Nat → Nat) (ms hw : Nat) (v : Nat → Nat) : Prop := zWF pl cp ch me ro ∧ zRC M pl cp ch me ro ∧ M 4 11 = ms ∧ M 4 12 = hw ∧ 1 ≤ ms ∧ ms ≤ 3 ∧ ∀ p, p < pl → M 8 p = v p ∧ v p ≤ 5
def zfC (M M' : zMem) : Prop := ∀ k, k ≠ 1 → k ≠ 12 → (k < 36 ∨ 54 < k) → M' k = M k
theorem zfC.rf {M : zMem} : zfC M M := fun _ _ _ _ => rfl
theorem zfC.tr {M M1 M2 : zMem} (h : zfC M M1) (h2 : zfC M1 M2) : zfC M M2 := fun k a b c => by rw [h2 k a b c, h k a b c]
theorem zRC.fr {M M' : zMem} {pl cp : Nat} {ch : Nat → Nat} {me : Nat → Int} {ro : Nat → Nat → Nat} (h : zfC M M') (hr : zRC M pl cp ch me ro) : zRC M' pl cp ch me ro := by
  unfold zRC
  rw [h 13 (by decide) (by decide) (by decide), h 4 (by decide) (by decide) (by decide), h 15 (by decide) (by decide) (by decide), h 6 (by decide) (by decide) (by decide), h 7 (by decide) (by decide) (by decide)]
  exact hr
theorem zCC.fr {M M' : zMem} {pl cp ms hw : Nat} {ch : Nat → Nat} {me : Nat → Int} {ro : Nat → Nat → Nat} {v : Nat → Nat} (h : zfC M M') (hr : zCC M pl cp ch me ro ms hw v) : zCC M' pl cp ch me ro ms hw v := by
  obtain ⟨h1, h2, h3, h4, h5, h6, h7⟩ := hr
  refine ⟨h1, h2.fr h, ?_, ?_, h5, h6, ?_⟩
  · rw [h 4 (by decide) (by decide) (by decide)]; exact h3
  · rw [h 4 (by decide) (by decide) (by decide)]; exact h4
  · rw [h 8 (by decide) (by decide) (by decide)]; exact h7
def zisS (cp : Nat) (x : Int) : Prop := 0 < x ∧ x < ((2 ^ cp : Nat) : Int)
def zisC (cp : Nat) (x : Int) : Prop := 0 ≤ x ∧ x < (cp : Int)
theorem qc57 {d : Nat} {M : zMem} {cp : Nat} {x : Int} (h : M 4 9 = cp) (h8 : cp ≤ 8) : zCi d 57 [.inr (.inr 4), .inl x] M (fun r M' => (r = 1 ∧ zisS cp x ∨ r = 0 ∧ ¬ zisS cp x) ∧ M' = M) := by
  refine zk57 (zv57_0 _ ?_)
  rw [h, zb_shl1 (by omega)]
  unfold zisS
  refine ⟨fun h => ⟨Or.inl rfl, _, rfl, Or.inr ⟨rfl, by omega⟩, rfl⟩, fun h => ⟨fun h2 => ⟨Or.inl rfl, _, rfl, Or.inr ⟨rfl, by omega⟩, rfl⟩, fun h2 => ⟨Or.inr rfl, _, rfl, Or.inl ⟨rfl, by omega, by omega⟩, rfl⟩⟩⟩
theorem qc56 {d : Nat} {M : zMem} {cp : Nat} {x : Int} (h : M 4 9 = cp) : zCi d 56 [.inr (.inr 4), .inl x] M (fun r M' => (r = 1 ∧ zisC cp x ∨ r = 0 ∧ ¬ zisC cp x) ∧ M' = M) := by
  refine zk56 (zv56_0 _ ?_)
  rw [h]
  unfold zisC
  refine ⟨fun h => ⟨Or.inl rfl, _, rfl, Or.inr ⟨rfl, by omega⟩, rfl⟩, fun h => ⟨fun h2 => ⟨Or.inl rfl, _, rfl, Or.inr ⟨rfl, by omega⟩, rfl⟩, fun h2 => ⟨Or.inr rfl, _, rfl, Or.inl ⟨rfl, by omega, by omega⟩, rfl⟩⟩⟩
theorem qc107 {d : Nat} {M : zMem} {pl cp ms hw : Nat} {ch : Nat → Nat} {me : Nat → Int} {ro : Nat → Nat → Nat} {v : Nat → Nat} (hC : zCC M pl cp ch me ro ms hw v) :
    zCr (d + 2) 107 [.inr (.inr 0)] M (fun M' => zJn M' pl cp ch me ro ms hw ∧ zfC M M') := by
  obtain ⟨h1, h2, h3, h4, h5, h6, h7⟩ := hC
  refine zk107 (zv107_0 ?_)
  rw [h3, h4]
  refine ⟨_, qc9 h1 h2, ?_⟩
  rintro M1 ⟨a1, a2⟩
  exact ⟨rfl, a1, fun k _ _ h => a2 k (by omega) (by omega)⟩
theorem qc108 {d : Nat} {M : zMem} {pl cp ms hw : Nat} {ch : Nat → Nat} {me : Nat → Int} {ro : Nat → Nat → Nat} {v : Nat → Nat} (hC : zCC M pl cp ch me ro ms hw v) :
    zCr (d + 3) 108 [.inr (.inr 0)] M (fun M' => (M' 42 13 = ((zF pl cp ch me ro ms hw v).length : Int) ∧ M' 42 11 = (zsur (zF pl cp ch me ro ms hw v) : Int) ∧ M' 42 12 = (zsome (zF pl cp ch me ro ms hw v) : Int)) ∧ zfC M M') := by
  refine zk108 (zv108_0 ⟨_, qc107 hC, ?_⟩)
  rintro M1 ⟨a1, a2⟩
  have hC1 := hC.fr a2
  obtain ⟨h1, h2, h3, h4, h5, h6, h7⟩ := hC
  refine ⟨_, qc10 h1 a1 h6, ?_⟩
  rintro M2 ⟨b1, b2, b3⟩
  have f2 : zfC M M2 := a2.tr (fun k _ _ h => b3 k (by omega))
  refine ⟨_, qc60 (b := 0) (n := 6) (v := v) (h2.fr f2).1 h1.1 rfl (by have := h1.1; omega) (by decide) (fun p hp => by rw [f2 8 (by decide) (by decide) (by decide), Nat.zero_add]; exact h7 p hp), ?_⟩
  rintro w M3 ⟨rfl, rfl⟩
  refine ⟨_, qc15 h1 (fun p hp => (h7 p hp).2) b2 h6, ?_⟩
  rintro M4 ⟨c1, c2⟩
  exact ⟨rfl, c1, f2.tr (fun k _ _ h => c2 k (by omega))⟩
def zsCould (pl cp : Nat) (ch : Nat → Nat) (me : Nat → Int) (ro : Nat → Nat → Nat) (hw : Nat) (v : Nat → Nat) (x : Int) (r : Int) : Prop := (zisS cp x ∧ r = if zmk pl cp ch me ro hw v x.toNat then 1 else 0) ∨ (¬ zisS cp x ∧ r = -1)
theorem qc85 {d : Nat} {M : zMem} {pl cp ms hw : Nat} {ch : Nat → Nat} {me : Nat → Int} {ro : Nat → Nat → Nat} {v : Nat → Nat} {x : Int} (hC : zCC M pl cp ch me ro ms hw v) :
    zCi (d + 3) 85 [.inr (.inr 0), .inl x] M (fun r M' => zsCould pl cp ch me ro hw v x r ∧ zfC M M') := by
  have hC0 := hC
  obtain ⟨h1, h2, h3, h4, h5, h6, h7⟩ := hC
  refine zk85 (zv85_0 _ ⟨_, qc57 h2.2.1 h1.2.1, ?_⟩)
  rintro v1 M1 ⟨hv1, rfl⟩
  refine ⟨fun hz => ?_, fun hz => ?_⟩
  · have hx : zisS cp x := by rcases hv1 with ⟨_, h⟩ | ⟨h, _⟩ <;> first | exact h | exact absurd h hz
    obtain ⟨s, hs⟩ : ∃ s : Nat, x = (s : Int) := ⟨x.toNat, by have := hx.1; omega⟩
    subst hs
    unfold zisS at hx
    refine ⟨_, qc60 (b := 0) (n := 6) (v := v) h2.1 h1.1 rfl (by have := h1.1; omega) (by decide) (fun p hp => by rw [Nat.zero_add]; exact h7 p hp), ?_⟩
    rintro w M3 ⟨rfl, rfl⟩
    refine ⟨_, qc107 hC0, ?_⟩
    rintro M4 ⟨a1, a2⟩
    refine ⟨_, qc12 h1 a1 (by omega) (by omega), ?_⟩
    rintro w2 M5 ⟨rfl, rfl⟩
    rw [Ne, zmk_word h1 (fun p hp => (h7 p hp).2)]
    refine ⟨fun h => ⟨_, rfl, Or.inl ⟨hx, ?_⟩, a2⟩, fun h => ⟨_, rfl, Or.inl ⟨hx, ?_⟩, a2⟩⟩
    · rw [Int.toNat_natCast, if_neg h]
    · rw [Decidable.not_not] at h
      rw [Int.toNat_natCast, if_pos h]
  · have hx : ¬ zisS cp x := by rcases hv1 with ⟨h, _⟩ | ⟨_, h⟩ <;> first | exact h | exact absurd (by omega) hz
    exact ⟨_, rfl, Or.inr ⟨hx, rfl⟩, zfC.rf⟩
def zsMaker (F : List Nat) (x : Int) (r : Int) : Prop := r = if x < 0 then -1 else zith F x.toNat
theorem qc86 {d : Nat} {M : zMem} {pl cp ms hw : Nat} {ch : Nat → Nat} {me : Nat → Int} {ro : Nat → Nat → Nat} {v : Nat → Nat} {x : Int} (hC : zCC M pl cp ch me ro ms hw v) (hx : zR32 x) :
    zCi (d + 3) 86 [.inr (.inr 0), .inl x] M (fun r M' => zsMaker (zF pl cp ch me ro ms hw v) x r ∧ zfC M M') := by
  refine zk86 (zv86_0 _ ⟨fun h => ⟨_, qc107 hC, ?_⟩, fun h => ⟨_, rfl, ?_, zfC.rf⟩⟩)
  · rintro M1 ⟨a1, a2⟩
    obtain ⟨h1, h2, h3, h4, h5, h6, h7⟩ := hC
    refine ⟨_, qc10 h1 a1 h6, ?_⟩
    rintro M2 ⟨b1, b2, b3⟩
    have f2 : zfC M M2 := a2.tr (fun k _ _ h => b3 k (by omega))
    refine ⟨_, qc60 (b := 0) (n := 6) (v := v) (h2.fr f2).1 h1.1 rfl (by have := h1.1; omega) (by decide) (fun p hp => by rw [f2 8 (by decide) (by decide) (by decide), Nat.zero_add]; exact h7 p hp), ?_⟩
    rintro w M3 ⟨rfl, rfl⟩
    obtain ⟨i, hi⟩ : ∃ i : Nat, x = (i : Int) := ⟨x.toNat, by omega⟩
    subst hi
    have hx2 := hx.2
    refine ⟨_, qc14 h1 (fun p hp => (h7 p hp).2) b2 (zSs_92 cp (by have := h1.2.1; omega) ms (by omega)) (by omega), ?_⟩
    rintro w2 M5 ⟨rfl, rfl⟩
    refine ⟨_, rfl, ?_, f2⟩
    unfold zsMaker
    rw [if_neg (by omega), Int.toNat_natCast]
    rfl
  · unfold zsMaker
    rw [if_pos (by omega)]
def zsBlamed (F : List Nat) (x : Int) (r : Int) : Prop := r = if x = 0 then (zsur F : Int) else if x = 1 then (zsome F : Int) else -1
theorem qc87 {d : Nat} {M : zMem} {pl cp ms hw : Nat} {ch : Nat → Nat} {me : Nat → Int} {ro : Nat → Nat → Nat} {v : Nat → Nat} {x : Int} (hC : zCC M pl cp ch me ro ms hw v) :
    zCi (d + 4) 87 [.inr (.inr 0), .inl x] M (fun r M' => zsBlamed (zF pl cp ch me ro ms hw v) x r ∧ zfC M M') := by
  refine zk87 (zv87_0 _ ⟨fun h => ⟨_, qc108 hC, ?_⟩, fun h => ⟨fun h1 => ⟨_, qc108 hC, ?_⟩, fun h1 => ⟨_, rfl, ?_, zfC.rf⟩⟩⟩)
  · rintro M1 ⟨⟨a1, a2, a3⟩, a4⟩
    refine ⟨fun h2 => absurd h h2, fun _ => ⟨_, rfl, ?_, a4⟩⟩
    unfold zsBlamed
    rw [if_pos h, a2]
  · rintro M1 ⟨⟨a1, a2, a3⟩, a4⟩
    refine ⟨fun _ => ⟨_, rfl, ?_, a4⟩, fun h2 => absurd h h2⟩
    unfold zsBlamed
    rw [if_neg h, if_pos h1, a3]
  · unfold zsBlamed
    rw [if_neg h, if_neg h1]
def zsUnjust (cp : Nat) (F : List Nat) (x : Int) (r : Int) : Prop := (¬ zisS cp x ∧ r = -1) ∨ (zisS cp x ∧ r = if F = [] then -2 else if x.toNat &&& (zsur F ^^^ 4294967295) = 0 then -4 else (zlow (x.toNat &&& (zsur F ^^^ 4294967295)) : Int))
theorem qc88 {d : Nat} {M : zMem} {pl cp ms hw : Nat} {ch : Nat → Nat} {me : Nat → Int} {ro : Nat → Nat → Nat} {v : Nat → Nat} {x : Int} (hC : zCC M pl cp ch me ro ms hw v) :
    zCi (d + 4) 88 [.inr (.inr 0), .inl x] M (fun r M' => zsUnjust cp (zF pl cp ch me ro ms hw v) x r ∧ zfC M M') := by
  have hC0 := hC
  obtain ⟨h1, h2, h3, h4, h5, h6, h7⟩ := hC
  refine zk88 (zv88_0 _ ⟨_, qc57 h2.2.1 h1.2.1, ?_⟩)
  rintro v1 M1 ⟨hv1, rfl⟩
  refine ⟨fun hz => ?_, fun hz => ?_⟩
  · have hx : zisS cp x := by rcases hv1 with ⟨_, h⟩ | ⟨h, _⟩ <;> first | exact h | exact absurd h hz
    obtain ⟨s, hs⟩ : ∃ s : Nat, x = (s : Int) := ⟨x.toNat, by have := hx.1; omega⟩
    subst hs
    have h256 : 2 ^ cp ≤ 2 ^ 8 := zb_p2le h1.2.1
    have hs256 : s < 256 := by have := hx.2; omega
    refine ⟨_, qc108 hC0, ?_⟩
    rintro M2 ⟨⟨a1, a2, a3⟩, a4⟩
    rw [a1, a2, zb_andn (by omega)]
    refine ⟨fun hn => ⟨fun hw0 => ?_, fun hw0 => ⟨_, rfl, Or.inr ⟨hx, ?_⟩, a4⟩⟩, fun hn => ⟨_, rfl, Or.inr ⟨hx, ?_⟩, a4⟩⟩
    · have hlt : s &&& (zsur (zF pl cp ch me ro ms hw v) ^^^ 4294967295) < 256 := Nat.lt_of_le_of_lt Nat.and_le_left hs256
      refine ⟨_, qc179 (by omega) hlt, ?_⟩
      rintro w M3 ⟨rfl, rfl⟩
      refine ⟨_, rfl, Or.inr ⟨hx, ?_⟩, a4⟩
      rw [if_neg (by intro e; rw [e] at hn; exact hn rfl), Int.toNat_natCast, if_neg (by omega)]
    · rw [if_neg (by intro e; rw [e] at hn; exact hn rfl), Int.toNat_natCast, if_pos (by omega)]
    · rw [if_pos (List.length_eq_zero_iff.mp (by omega))]
  · have hx : ¬ zisS cp x := by rcases hv1 with ⟨h, _⟩ | ⟨_, h⟩ <;> first | exact h | exact absurd (by omega) hz
    exact ⟨_, rfl, Or.inl ⟨hx, rfl⟩, zfC.rf⟩
/-- how many of the first n values are 5 -/
def zlost (v : Nat → Nat) : Nat → Nat
  | 0 => 0
  | n + 1 => zlost v n + (if v n = 5 then 1 else 0)
theorem zlost_le {v : Nat → Nat} : ∀ n, zlost v n ≤ n := by
  intro n
  induction n with
  | zero => exact Nat.le_refl _
  | succ n ih => simp only [zlost]; split <;> omega
theorem qc61 {d : Nat} {M : zMem} {pl : Nat} {v : Nat → Nat} (hpl : M 13 6 = pl) (h6 : pl ≤ 6) (hv : ∀ p, p < pl → M 8 p = v p) : zCi d 61 [.inr (.inr 4)] M (fun r M' => r = (zlost v pl : Int) ∧ M' = M) := by
  refine zk61 (zv61_0 ?_)
  have key : ∀ (m p : Nat), p + m = pl → zBg d 61 4 [zR 4, zI (zlost v p : Int), zI (p : Int)] [] M (fun r M' => ∃ w : Int, r = some (.inl w) ∧ w = (zlost v pl : Int) ∧ M' = M) := by
    intro m
    induction m with
    | zero =>
      intro p hp
      have : p = pl := by omega
      subst this
      exact zv61_4 _ _ ⟨fun _ => ⟨_, rfl, rfl, rfl⟩, fun h => absurd (by omega) h⟩
    | succ m ih =>
      intro p hp
      have ih1 := ih (p + 1) (by omega)
      have hl := zlost_le (v := v) p
      simp only [zlost] at ih1
      refine zv61_4 _ _ ⟨fun h => by omega, fun _ => ?_⟩
      rw [Int.toNat_natCast, hv p (by omega)]
      refine ⟨by omega, by omega, fun h => ⟨⟨by omega, by omega⟩, ⟨by omega, by omega⟩, ?_⟩, fun h => ⟨⟨by omega, by omega⟩, ⟨by omega, by omega⟩, ?_⟩⟩
      · rw [if_neg (by omega)] at ih1
        simpa using ih1
      · rw [if_pos (by omega)] at ih1
        simpa using ih1
  exact key pl 0 (by omega)
def zsCount (pl cp pn sz : Nat) (F : List Nat) (v : Nat → Nat) (x : Int) (r : Int) : Prop := r = if x = 0 then (pl : Int) else if x = 1 then (cp : Int) else if x = 2 then (pn : Int) else if x = 3 then (sz : Int) else if x = 4 then (F.length : Int) else if x = 5 then (zlost v pl : Int) else -1
theorem qc82 {d : Nat} {M : zMem} {pl cp ms hw pn sz : Nat} {ch : Nat → Nat} {me : Nat → Int} {ro : Nat → Nat → Nat} {v : Nat → Nat} {x : Int} (hC : zCC M pl cp ch me ro ms hw v) (hpn : M 4 10 = pn) (hsz : M 13 5 = sz) :
    zCi (d + 4) 82 [.inr (.inr 0), .inl x] M (fun r M' => zsCount pl cp pn sz (zF pl cp ch me ro ms hw v) v x r ∧ zfC M M') := by
  have hC0 := hC
  obtain ⟨h1, h2, h3, h4, h5, h6, h7⟩ := hC
  unfold zsCount
  refine zk82 (zv82_0 _ ⟨⟨fun h => ⟨_, rfl, ?_, zfC.rf⟩, fun h => ⟨_, rfl, ?_, zfC.rf⟩, fun h => ⟨_, rfl, ?_, zfC.rf⟩, fun h => ⟨_, rfl, ?_, zfC.rf⟩, fun h => ⟨_, qc108 hC0, ?_⟩, fun h => ⟨_, qc61 (v := v) h2.1 h1.1 (fun p hp => (h7 p hp).1), ?_⟩, trivial⟩, fun h => ⟨_, rfl, ?_, zfC.rf⟩⟩)
  · rw [if_pos h, h2.1]
  · rw [if_neg (by omega), if_pos h, h2.2.1]
  · rw [if_neg (by omega), if_neg (by omega), if_pos h, hpn]
  · rw [if_neg (by omega), if_neg (by omega), if_neg (by omega), if_pos h, hsz]
  · rintro M1 ⟨⟨a1, a2, a3⟩, a4⟩
    refine ⟨_, rfl, ?_, a4⟩
    rw [if_neg (by omega), if_neg (by omega), if_neg (by omega), if_neg (by omega), if_pos h, a1]
  · rintro w M1 ⟨rfl, rfl⟩
    refine ⟨_, rfl, ?_, zfC.rf⟩
    rw [if_neg (by omega), if_neg (by omega), if_neg (by omega), if_neg (by omega), if_neg (by omega), if_pos h]
  · rw [if_neg (by omega), if_neg (by omega), if_neg (by omega), if_neg (by omega), if_neg (by omega), if_neg (by omega)]
/-- in how many of the first n pasts the copy c is sure, may be -/
def zpst (pl cp : Nat) (ch : Nat → Nat) (me : Nat → Int) (ro : Nat → Nat → Nat) (pp : Nat → Nat → Nat) (pm ph : Nat → Nat) (c what : Nat) : Nat → Nat
  | 0 => 0
  | n + 1 => zpst pl cp ch me ro pp pm ph c what n + (if (if what = 0 then zsur (zF pl cp ch me ro (pm n) (ph n) (pp n)) else zsome (zF pl cp ch me ro (pm n) (ph n) (pp n))).testBit c then 1 else 0)
theorem zpst_le {pl cp : Nat} {ch : Nat → Nat} {me : Nat → Int} {ro : Nat → Nat → Nat} {pp : Nat → Nat → Nat} {pm ph : Nat → Nat} {c what : Nat} : ∀ n, zpst pl cp ch me ro pp pm ph c what n ≤ n := by
  intro n
  induction n with
  | zero => exact Nat.le_refl _
  | succ n ih => simp only [zpst]; split <;> split <;> omega
def zsPast (pl cp : Nat) (ch : Nat → Nat) (me : Nat → Int) (ro : Nat → Nat → Nat) (pn : Nat) (pp : Nat → Nat → Nat) (pm ph : Nat → Nat) (x y : Int) (r : Int) : Prop := (¬ (zisC cp x ∧ (y = 0 ∨ y = 1)) ∧ r = -1) ∨ ((zisC cp x ∧ (y = 0 ∨ y = 1)) ∧ r = (zpst pl cp ch me ro pp pm ph x.toNat y.toNat pn : Int))
theorem qc100 {d : Nat} {M : zMem} {pl cp ms hw pn : Nat} {ch : Nat → Nat} {me : Nat → Int} {ro : Nat → Nat → Nat} {v : Nat → Nat} {pp : Nat → Nat → Nat} {pm ph : Nat → Nat} {x y : Int} (hC : zCC M pl cp ch me ro ms hw v) (hpn : M 4 10 = pn) (hp6 : pn ≤ 6) (hpp : ∀ k, k < pn → M 10 k = pm k ∧ M 11 k = ph k ∧ pm k ≤ 3 ∧ ∀ p, p < pl → M 9 (6 * k + p) = pp k p ∧ pp k p ≤ 5) :
    zCi (d + 3) 100 [.inr (.inr 0), .inl x, .inl y] M (fun r M' => zsPast pl cp ch me ro pn pp pm ph x y r ∧ zfC M M') := by
  have hC0 := hC
  obtain ⟨h1, h2, h3, h4, h5, h6, h7⟩ := hC
  have hcp := h1.2.1
  have key : ∀ (c w : Nat), c < cp → w < 2 → ∀ (m k : Nat) (M1 : zMem), k + m = pn → zfC M M1 → zBg (d + 3) 100 27 [zR 0, zI (c : Int), zI (w : Int), zI (zpst pl cp ch me ro pp pm ph c w k : Int), zI (k : Int), none] [] M1 (fun r M' => ∃ z : Int, r = some (.inl z) ∧ z = (zpst pl cp ch me ro pp pm ph c w pn : Int) ∧ zfC M M') := by
    intro c w hc hw2 m
    induction m with
    | zero =>
      intro k M1 hk f1
      have : k = pn := by omega
      subst this
      refine zv100_27 _ _ _ _ ⟨fun _ => ⟨_, rfl, rfl, f1⟩, fun h => absurd ?_ h⟩
      rw [f1 4 (by decide) (by decide) (by decide), hpn]
      omega
    | succ m ih =>
      intro k M1 hk f1
      obtain ⟨p1, p2, p3, p4⟩ := hpp k (by omega)
      have hle := zpst_le (pl := pl) (cp := cp) (ch := ch) (me := me) (ro := ro) (pp := pp) (pm := pm) (ph := ph) (c := c) (what := w) k
      refine zv100_27 _ _ _ _ ⟨fun h => ?_, fun _ => ?_⟩
      · rw [f1 4 (by decide) (by decide) (by decide), hpn] at h
        omega
      · rw [Int.toNat_natCast, f1 10 (by decide) (by decide) (by decide), f1 11 (by decide) (by decide) (by decide), p1, p2]
        refine ⟨by omega, by omega, by omega, by omega, _, qc9 h1 (h2.fr f1), ?_⟩
        rintro M2 ⟨a1, a2⟩
        refine ⟨_, qc10 h1 a1 p3, ?_⟩
        rintro M3 ⟨b1, b2, b3⟩
        have f3 : zfC M M3 := (f1.tr (fun k _ _ h => a2 k (by omega) (by omega))).tr (fun k _ _ h => b3 k (by omega))
        rw [show (k : Int) * 6 = ((6 * k : Nat) : Int) by omega]
        refine ⟨⟨by omega, by omega⟩, _, qc60 (n := 36) (v := pp k) (h2.fr f3).1 h1.1 rfl (by have := h1.1; omega) (by decide) (fun p hp => by rw [f3 9 (by decide) (by decide) (by decide)]; exact p4 p hp), ?_⟩
        rintro u M4 ⟨rfl, rfl⟩
        refine ⟨_, qc15 h1 (fun p hp => (p4 p hp).2) b2 p3, ?_⟩
        rintro M5 ⟨⟨c1, c2, c3⟩, c4⟩
        have f5 : zfC M M5 := f3.tr (fun k _ _ h => c4 k (by omega))
        have ih1 := ih (k + 1) M5 (by omega) f5
        simp only [zpst] at ih1
        rw [c2, c3]
        have s1 := zsur_lt (F := zF pl cp ch me ro (pm k) (ph k) (pp k))
        have s2 := zsome_lt (F := zF pl cp ch me ro (pm k) (ph k) (pp k)) (zF_256 hcp)
        rw [zb_bit (by omega) (by omega), zb_bit (by omega) (by omega)]
        refine ⟨fun h => ?_, fun h => ?_⟩
        · have hw0 : w ≠ 0 := by omega
          simp only [if_neg hw0] at ih1
          refine ⟨by split <;> exact ⟨by omega, by omega⟩, ⟨by omega, by omega⟩, ?_⟩
          split
          · rename_i hb; rw [if_pos hb] at ih1; simpa using ih1
          · rename_i hb; rw [if_neg hb] at ih1; simpa using ih1
        · have hw0 : w = 0 := by omega
          simp only [if_pos hw0] at ih1
          refine ⟨by split <;> exact ⟨by omega, by omega⟩, ⟨by omega, by omega⟩, ?_⟩
          split
          · rename_i hb; rw [if_pos hb] at ih1; simpa using ih1
          · rename_i hb; rw [if_neg hb] at ih1; simpa using ih1
  refine zk100 (zv100_0 _ _ ⟨_, qc56 h2.2.1, ?_⟩)
  rintro v1 M1 ⟨hv1, rfl⟩
  refine ⟨fun hz => ?_, fun hz => ?_⟩
  · have hx : ¬ zisC cp x := by rcases hv1 with ⟨h, _⟩ | ⟨_, h⟩ <;> first | exact h | omega
    exact ⟨_, rfl, Or.inl ⟨fun h => hx h.1, rfl⟩, zfC.rf⟩
  · have hx : zisC cp x := by rcases hv1 with ⟨_, h⟩ | ⟨h, _⟩ <;> first | exact h | exact absurd h hz
    have go : (y = 0 ∨ y = 1) → zBg (d + 3) 100 27 [zR 0, zI x, zI y, zI 0, zI 0, none] [] M1 (fun r M' => ∃ z : Int, r = some (.inl z) ∧ zsPast pl cp ch me ro pn pp pm ph x y z ∧ zfC M1 M') := by
      intro hy
      obtain ⟨c, hc⟩ : ∃ c : Nat, x = (c : Int) := ⟨x.toNat, by have := hx.1; omega⟩
      obtain ⟨w, hw2⟩ : ∃ w : Nat, y = (w : Int) := ⟨y.toNat, by omega⟩
      subst hc hw2
      refine zBg.mono (key c w (by have := hx.2; omega) (by omega) pn 0 M1 (by omega) zfC.rf) ?_
      rintro r M' ⟨z, e1, e2, e3⟩
      exact ⟨z, e1, Or.inr ⟨⟨hx, hy⟩, by simpa using e2⟩, e3⟩
    refine ⟨fun h => go (Or.inl h), fun h => ⟨fun h2 => go (Or.inr h2), fun h2 => ⟨_, rfl, Or.inl ⟨fun h3 => ?_, rfl⟩, zfC.rf⟩⟩⟩
    rcases h3.2 with h3 | h3 <;> contradiction
end
section
/-! the reference: in, isSet, isCopy, can, makes, laysSets, madeBy -/
theorem zlcmp_lt {a b : Int} : zlcmp a b < 0 ↔ a < b := by
  unfold zlcmp
  split
  · omega
  · split <;> omega
theorem zlcmp_gt {a b : Int} : zlcmp a b > 0 ↔ b < a := by
  unfold zlcmp
  split
  · omega
  · split <;> omega
theorem qc110 {d : Nat} {M : zMem} {x a b : Int} : zCi d 110 [.inr (.inl x), .inr (.inl a), .inr (.inl b)] M (fun r M' => (r = 1 ∧ a ≤ x ∧ x ≤ b ∨ r = 0 ∧ ¬ (a ≤ x ∧ x ≤ b)) ∧ M' = M) := by
  refine zk110 (zv110_0 _ _ _ ?_)
  rw [zlcmp_lt, zlcmp_gt]
  exact ⟨fun h => ⟨Or.inl rfl, _, rfl, Or.inr ⟨rfl, by omega⟩, rfl⟩, fun h => ⟨fun h2 => ⟨Or.inl rfl, _, rfl, Or.inr ⟨rfl, by omega⟩, rfl⟩, fun h2 => ⟨Or.inr rfl, _, rfl, Or.inl ⟨rfl, by omega, by omega⟩, rfl⟩⟩⟩
theorem qc139 {d : Nat} {M : zMem} {cp : Nat} {x : Int} (h : M 55 12 = cp) (h8 : cp ≤ 8) : zCi (d + 1) 139 [.inr (.inr 55), .inl x] M (fun r M' => (r = 1 ∧ zisS cp x ∨ r = 0 ∧ ¬ zisS cp x) ∧ M' = M) := by
  refine zk139 (zv139_0 _ ?_)
  have h256 : 2 ^ cp ≤ 2 ^ 8 := zb_p2le h8
  have hpos := Nat.two_pow_pos cp
  rw [h, zb_shl1 (by omega)]
  refine ⟨⟨by omega, by omega⟩, _, qc110, ?_⟩
  rintro v M1 ⟨hv, rfl⟩
  unfold zisS
  exact ⟨by omega, _, rfl, by omega, rfl⟩
theorem qc121 {d : Nat} {M : zMem} {cp : Nat} {x : Int} (h : M 55 12 = cp) (h8 : cp ≤ 8) : zCi (d + 1) 121 [.inr (.inr 55), .inl x] M (fun r M' => (r = 1 ∧ zisC cp x ∨ r = 0 ∧ ¬ zisC cp x) ∧ M' = M) := by
  refine zk121 (zv121_0 _ ?_)
  rw [h]
  refine ⟨⟨by omega, by omega⟩, _, qc110, ?_⟩
  rintro v M1 ⟨hv, rfl⟩
  unfold zisC
  exact ⟨by omega, _, rfl, by omega, rfl⟩
def zfR (M M' : zMem) : Prop := (∀ k, k ≠ 55 → (k < 68 ∨ (74 < k ∧ k ≠ 79)) → M' k = M k) ∧ ∀ j, j ≠ 21 → j ≠ 24 → j ≠ 25 → j ≠ 26 → M' 55 j = M 55 j
theorem zfR.rf {M : zMem} : zfR M M := ⟨fun _ _ _ => rfl, fun _ _ _ _ _ => rfl⟩
theorem zfR.tr {M M1 M2 : zMem} (h : zfR M M1) (h2 : zfR M1 M2) : zfR M M2 := ⟨fun k a b => by rw [h2.1 k a b, h.1 k a b], fun j a b c d => by rw [h2.2 j a b c d, h.2 j a b c d]⟩
theorem zRR.fr {M M' : zMem} {pl cp : Nat} {ch : Nat → Nat} {me : Nat → Int} {ro : Nat → Nat → Nat} (h : zfR M M') (hr : zRR M pl cp ch me ro) : zRR M' pl cp ch me ro := by
  unfold zRR
  rw [h.2 4 (by decide) (by decide) (by decide) (by decide), h.2 12 (by decide) (by decide) (by decide) (by decide), h.1 60 (by decide) (by decide), h.1 64 (by decide) (by decide), h.1 65 (by decide) (by decide)]
  exact hr
theorem zpop_1 : ∀ u, u < 16 → (zpop u ≤ 1 ↔ u &&& (u - 1) = 0) := by decide +kernel
theorem qc130 {d : Nat} {M : zMem} {pl cp hw s p : Nat} {ch : Nat → Nat} {me : Nat → Int} {ro : Nat → Nat → Nat} (hF : zWF pl cp ch me ro) (hR : zRR M pl cp ch me ro) (hs : s < 256) (hp : p < pl) :
    zCi (d + 1) 130 [.inr (.inr 55), .inl (s : Int), .inl (p : Int), .inl (hw : Int)] M (fun r M' => r = (zcan hw (ch p) (me p) (zU ro s p cp) : Int) ∧ M' = M) := by
  have hF0 := hF
  obtain ⟨f1, f2, f3, f4⟩ := hF
  obtain ⟨r1, r2, r3, r4, r5⟩ := hR
  refine zk130 (zv130_0 _ _ _ ?_)
  have key : ∀ (m c : Nat), c + m = cp → zBg (d + 1) 130 6 [zR 55, zI (s : Int), zI (p : Int), zI (hw : Int), zI (zU ro s p c : Int), zI (c : Int)] [] M (fun r M' => ∃ w : Int, r = some (.inl w) ∧ w = (zcan hw (ch p) (me p) (zU ro s p cp) : Int) ∧ M' = M) := by
    intro m
    induction m with
    | zero =>
      intro c hc
      have : c = cp := by omega
      subst this
      have hu := (zU_ok hF0 (s := s) hp (n := c) (Nat.le_refl _)).2
      refine zv130_6 _ _ _ _ _ ⟨fun _ => ?_, fun h => absurd (by omega) h⟩
      refine ⟨_, qc129 (by omega), ?_⟩
      rintro v1 M1 ⟨rfl, rfl⟩
      obtain ⟨w1, w2, w3, w4⟩ := f3 p hp
      have hch := zb_p2le (a := ch p) (b := 4) w2
      have hpos := Nat.two_pow_pos (ch p)
      rw [Int.toNat_natCast, r3 p hp, r4 p hp, zb_shl1 (by omega)]
      have hun := zpop_1 _ hu
      generalize hmm : me p = mm at *
      generalize zU ro s p c = u at *
      rw [show ((2 ^ ch p : Nat) : Int) - 1 = ((2 ^ ch p - 1 : Nat) : Int) by omega]
      have e0 : zior (u : Int) 0 = (u : Int) := by
        have := zb_or (a := u) (b := 0) (by omega) (by decide)
        rw [Nat.or_zero] at this
        exact this
      have e1 : zior (u : Int) 16 = ((u ||| 16 : Nat) : Int) := zb_or (a := u) (b := 16) (by omega) (by decide)
      have e2 : zior ((2 ^ ch p - 1 : Nat) : Int) 0 = ((2 ^ ch p - 1 : Nat) : Int) := by
        have := zb_or (a := 2 ^ ch p - 1) (b := 0) (by omega) (by decide)
        rw [Nat.or_zero] at this
        exact this
      rw [e0, e1, e2]
      have l1 : u ||| 16 < 2 ^ 5 := Nat.or_lt_two_pow (by omega) (by decide)
      by_cases hme : mm < 0
      · have T : zcan hw (ch p) mm u = if hw = 1 ∧ u &&& (u - 1) ≠ 0 then 2 ^ ch p - 1 else if hw = 2 ∧ u &&& (u - 1) ≠ 0 then u ||| 16 else u := by
          unfold zcan
          rw [if_pos hme, Nat.or_zero]
        rw [T]
        by_cases h1 : hw = 1
        · by_cases hq : u &&& (u - 1) = 0
          · rw [if_neg (by omega), if_neg (by omega)]
            repeat' (first | refine And.intro ?_ ?_ | intro _)
            all_goals first | omega | exact ⟨_, rfl, rfl, rfl⟩
          · rw [if_pos ⟨h1, hq⟩]
            repeat' (first | refine And.intro ?_ ?_ | intro _)
            all_goals first | omega | exact ⟨_, rfl, rfl, rfl⟩
        · rw [if_neg (by omega)]
          by_cases h2 : hw = 2
          · by_cases hq : u &&& (u - 1) = 0
            · rw [if_neg (by omega)]
              repeat' (first | refine And.intro ?_ ?_ | intro _)
              all_goals first | omega | exact ⟨_, rfl, rfl, rfl⟩
            · rw [if_pos ⟨h2, hq⟩]
              repeat' (first | refine And.intro ?_ ?_ | intro _)
              all_goals first | omega | exact ⟨_, rfl, rfl, rfl⟩
          · rw [if_neg (by omega)]
            repeat' (first | refine And.intro ?_ ?_ | intro _)
            all_goals first | omega | exact ⟨_, rfl, rfl, rfl⟩
      · have T : zcan hw (ch p) mm u = (if hw = 1 ∧ u &&& (u - 1) ≠ 0 then 2 ^ ch p - 1 else if hw = 2 ∧ u &&& (u - 1) ≠ 0 then u ||| 16 else u) ||| 2 ^ mm.toNat := by
          unfold zcan
          rw [if_neg hme]
        have hb : 2 ^ mm.toNat < 2 ^ 4 := zb_p2 (by omega)
        have e3 : zishl 1 mm = ((2 ^ mm.toNat : Nat) : Int) := by
          have := zb_shl1 (k := mm.toNat) (by omega)
          rw [show ((mm.toNat : Nat) : Int) = mm by omega] at this
          exact this
        rw [T, e3, zb_or (a := u) (b := 2 ^ mm.toNat) (by omega) (by omega), zb_or (a := u ||| 16) (b := 2 ^ mm.toNat) (by omega) (by omega), zb_or (a := 2 ^ ch p - 1) (b := 2 ^ mm.toNat) (by omega) (by omega)]
        by_cases h1 : hw = 1
        · by_cases hq : u &&& (u - 1) = 0
          · rw [if_neg (by omega), if_neg (by omega)]
            repeat' (first | refine And.intro ?_ ?_ | intro _)
            all_goals first | omega | exact ⟨_, rfl, rfl, rfl⟩
          · rw [if_pos ⟨h1, hq⟩]
            repeat' (first | refine And.intro ?_ ?_ | intro _)
            all_goals first | omega | exact ⟨_, rfl, rfl, rfl⟩
        · rw [if_neg (by omega)]
          by_cases h2 : hw = 2
          · by_cases hq : u &&& (u - 1) = 0
            · rw [if_neg (by omega)]
              repeat' (first | refine And.intro ?_ ?_ | intro _)
              all_goals first | omega | exact ⟨_, rfl, rfl, rfl⟩
            · rw [if_pos ⟨h2, hq⟩]
              repeat' (first | refine And.intro ?_ ?_ | intro _)
              all_goals first | omega | exact ⟨_, rfl, rfl, rfl⟩
          · rw [if_neg (by omega)]
            repeat' (first | refine And.intro ?_ ?_ | intro _)
            all_goals first | omega | exact ⟨_, rfl, rfl, rfl⟩
    | succ m ih =>
      intro c hc
      have hu := (zU_ok hF0 (s := s) hp (n := c) (by omega)).2
      have ih1 := ih (c + 1) (by omega)
      simp only [zU] at ih1
      refine zv130_6 _ _ _ _ _ ⟨fun h => by omega, fun _ => ?_⟩
      rw [Ne, zb_bit1 (by omega) (by omega)]
      refine ⟨fun h => ⟨⟨by omega, by omega⟩, ?_⟩, fun h => ?_⟩
      · rw [if_neg h] at ih1
        have e0 := zb_or (a := zU ro s p c) (b := 0) (by omega) (by decide)
        exact e0 ▸ ih1
      · rw [Decidable.not_not] at h
        rw [if_pos h] at ih1
        have hro := f4 c (by omega) p hp
        have hch := (f3 p hp).2.1
        rw [show (6 * (c : Int) + (p : Int)).toNat = 6 * c + p by omega, r5 c (by omega) p hp, zb_shl1 (by omega), zb_or (by omega) (zb_p2 (by omega))]
        exact ⟨⟨by omega, by omega⟩, ⟨by omega, by omega⟩, by omega, by omega, ⟨by omega, by omega⟩, ih1⟩
  exact key cp 0 (by omega)
theorem qc131 {d : Nat} {M : zMem} {pl cp hw s a b n : Nat} {ch : Nat → Nat} {me : Nat → Int} {ro : Nat → Nat → Nat} {v : Nat → Nat} (hF : zWF pl cp ch me ro) (hR : zRR M pl cp ch me ro) (hs : s < 256) (ha : zSHL[a]? = some (.inl (0, n))) (hb : b + pl ≤ n) (hn : n < 1000) (hv : ∀ p, p < pl → M a (b + p) = v p ∧ v p ≤ 5) :
    zCi (d + 2) 131 [.inr (.inr 55), .inl (s : Int), .inr (.inr a), .inl (b : Int), .inl (hw : Int)] M (fun r M' => r = (if zmk pl cp ch me ro hw v s then 1 else 0) ∧ M' = M) := by
  have hF0 := hF
  have hR0 := hR
  obtain ⟨f1, f2, f3, f4⟩ := hF
  obtain ⟨r1, r2, r3, r4, r5⟩ := hR
  refine zk131 (zv131_0 _ _ _ _ ?_)
  have key : ∀ (m p : Nat), p + m = pl → (∀ q, q < p → v q = 5 ∨ (zcan hw (ch q) (me q) (zU ro s q cp)).testBit (v q) = true) → zBg (d + 2) 131 6 [zR 55, zI (s : Int), zR a, zI (b : Int), zI (hw : Int), zI 1, zI (p : Int)] [] M (fun r M' => ∃ w : Int, r = some (.inl w) ∧ w = (if zmk pl cp ch me ro hw v s then 1 else 0) ∧ M' = M) := by
    intro m
    induction m with
    | zero =>
      intro p hp h
      have : p = pl := by omega
      subst this
      refine zv131_6 _ _ _ _ _ _ ⟨fun _ => ⟨Or.inr rfl, _, rfl, ?_, rfl⟩, fun h => absurd (by omega) h⟩
      rw [if_pos (zmk_iff.mpr h)]
    | succ m ih =>
      intro p hp h
      obtain ⟨v1, v2⟩ := hv p (by omega)
      refine zv131_6 _ _ _ _ _ _ ⟨fun h => by omega, fun _ => ⟨fun h => by omega, fun _ => ⟨⟨by omega, by omega⟩, ?_⟩⟩⟩
      rw [zb_ar ha, show ((b : Int) + (p : Int)).toNat = b + p by omega, v1]
      refine ⟨by omega, by omega, fun h5 => ⟨⟨by omega, by omega⟩, ?_⟩, fun h5 => ⟨_, qc130 hF0 hR0 hs (by omega), ?_⟩⟩
      · refine ih (p + 1) (by omega) (fun q hq => ?_)
        by_cases hqp : q = p
        · subst hqp; exact Or.inl (by omega)
        · exact h q (by omega)
      · rintro w M1 ⟨rfl, rfl⟩
        refine ⟨⟨by omega, by omega⟩, ?_⟩
        have hc := zcan_lt (hw := hw) (ch := ch p) (me := me p) (u := zU ro s p cp) (f3 p (by omega)).2.1 (zU_ok hF0 (by omega) (Nat.le_refl _)).2 (by have := f3 p (by omega); omega)
        rw [zb_ar ha, v1, Ne, zb_bit1 (by omega) (by omega)]
        refine ⟨by omega, by omega, fun h6 => ⟨⟨by omega, by omega⟩, ?_⟩, fun h6 => ⟨⟨by omega, by omega⟩, ?_⟩⟩
        · have hno : ¬ zmk pl cp ch me ro hw v s = true := by
            intro hz
            rcases zmk_iff.mp hz p (by omega) with h7 | h7
            · omega
            · exact h6 h7
          refine zv131_6 _ _ _ _ _ _ ⟨fun _ => ⟨Or.inl rfl, _, rfl, by rw [if_neg hno], rfl⟩, fun _ => ⟨fun _ => ⟨Or.inl rfl, _, rfl, by rw [if_neg hno], rfl⟩, fun h => absurd rfl h⟩⟩
        · rw [Decidable.not_not] at h6
          refine ih (p + 1) (by omega) (fun q hq => ?_)
          by_cases hqp : q = p
          · subst hqp; exact Or.inr h6
          · exact h q (by omega)
  exact key pl 0 (by omega) (fun q hq => by omega)
def zRL (M : zMem) (L : List Nat) : Prop := M 55 21 = L.length ∧ ∀ i s : Nat, L[i]? = some s → M 69 i = s
theorem zRL_push {M M' : zMem} {s : Nat} {L : List Nat} (h : zRL M L) (h1 : M' 55 21 = L.length + 1) (h2 : ∀ i, i ≠ L.length → M' 69 i = M 69 i) (h3 : M' 69 L.length = s) : zRL M' (L ++ [s]) := by
  refine ⟨by rw [h1]; simp, fun i x hx => ?_⟩
  rw [List.getElem?_append] at hx
  split at hx
  · rename_i hi
    rw [h2 i (by omega)]
    exact h.2 i x hx
  · rename_i hi
    have h4 : i - L.length = 0 := by
      have := (List.getElem?_eq_some_iff.mp hx).1
      simp at this
      omega
    rw [h4] at hx
    cases hx
    have h5 : i = L.length := by omega
    rw [h5]
    exact h3
theorem qc132 {d : Nat} {M : zMem} {cp ms : Nat} (hcpM : M 55 12 = cp) (hcp : cp ≤ 8) (hms : ms ≤ 3) :
    zCv (d + 1) 132 [.inr (.inr 55), .inl (ms : Int)] M (fun M' => zRL M' (zSs cp ms) ∧ (∀ k, k ≠ 55 → k ≠ 69 → M' k = M k) ∧ ∀ j, j ≠ 21 → M' 55 j = M 55 j) := by
  refine zk132 (zv132_0 _ ?_)
  have h256 : 2 ^ cp ≤ 2 ^ 8 := zb_p2le hcp
  have key : ∀ (m k : Nat) (M1 : zMem), k + m = ms + 1 → 1 ≤ k → zRL M1 (zSs cp (k - 1)) → ((∀ k, k ≠ 55 → k ≠ 69 → M1 k = M k) ∧ ∀ j, j ≠ 21 → M1 55 j = M 55 j) →
      zBg (d + 1) 132 7 [zR 55, zI (ms : Int), zI (k : Int), none] [] M1 (fun r M' => r = none ∧ zRL M' (zSs cp ms) ∧ (∀ k, k ≠ 55 → k ≠ 69 → M' k = M k) ∧ ∀ j, j ≠ 21 → M' 55 j = M 55 j) := by
    intro m
    induction m with
    | zero =>
      intro k M1 hk hk1 a2 a3
      have : k = ms + 1 := by omega
      subst this
      exact zv132_7 _ _ ⟨fun _ => ⟨rfl, a2, a3⟩, fun h => absurd (by omega) h⟩
    | succ m ih =>
      intro k M1 hk hk1 a2 a3
      refine zv132_7 _ _ ⟨fun h => by omega, fun _ => ?_⟩
      have key2 : ∀ (n s : Nat) (M2 : zMem), s + n = 2 ^ cp → 1 ≤ s → zRL M2 (zSs cp (k - 1) ++ (List.range s).filter (fun s => zpop s == k)) → ((∀ k, k ≠ 55 → k ≠ 69 → M2 k = M k) ∧ ∀ j, j ≠ 21 → M2 55 j = M 55 j) →
          zBg (d + 1) 132 14 [zR 55, zI (ms : Int), zI (k : Int), zI (s : Int)] [] M2 (fun r M' => r = none ∧ zRL M' (zSs cp ms) ∧ (∀ k, k ≠ 55 → k ≠ 69 → M' k = M k) ∧ ∀ j, j ≠ 21 → M' 55 j = M 55 j) := by
        intro n
        induction n with
        | zero =>
          intro s M2 hs hs1 b2 b3
          have : s = 2 ^ cp := by omega
          subst this
          refine zv132_14 _ _ _ ⟨fun _ => ⟨⟨by omega, by omega⟩, ?_⟩, fun h => absurd ?_ h⟩
          · refine ih (k + 1) M2 (by omega) (by omega) ?_ b3
            rw [show k + 1 - 1 = k - 1 + 1 by omega]
            simp only [zSs, zSk]
            rw [show k - 1 + 1 = k by omega]
            exact b2
          · rw [b3.2 12 (by decide), hcpM, zb_shl1 (by omega)]; omega
        | succ n ih2 =>
          intro s M2 hs hs1 b2 b3
          refine zv132_14 _ _ _ ⟨fun h => ?_, fun _ => ?_⟩
          · rw [b3.2 12 (by decide), hcpM, zb_shl1 (by omega)] at h; omega
          · refine ⟨_, qc129 (by omega), ?_⟩
            rintro v1 M3 ⟨rfl, rfl⟩
            have hss := zSk_s (k := k) (s := s)
            refine ⟨fun h => ⟨⟨by omega, by omega⟩, ?_⟩, fun h => ?_⟩
            · rw [if_neg (by omega)] at hss
              refine ih2 (s + 1) M3 (by omega) (by omega) ?_ b3
              rw [hss, List.append_nil]
              exact b2
            · rw [if_pos (by omega)] at hss
              have hlen : (zSs cp (k - 1) ++ (List.range s).filter (fun s => zpop s == k)).length < 92 := by
                have q1 := zSs_92 cp (by omega) k (by omega)
                have q2 := zSk_le (cp := cp) (k := k) (s := s + 1) (by omega)
                rw [hss] at q2
                rw [show k = k - 1 + 1 by omega] at q1
                simp only [zSs] at q1
                rw [show k - 1 + 1 = k by omega] at q1
                simp only [List.length_append, List.length_cons, List.length_nil] at q1 q2 ⊢
                omega
              have b20 := b2.1
              generalize hL : zSs cp (k - 1) ++ (List.range s).filter (fun s => zpop s == k) = L at b2 b20 hlen
              rw [b20]
              refine ⟨by omega, by omega, ⟨by omega, by omega⟩, ⟨by omega, by omega⟩, ?_⟩
              rw [Int.toNat_natCast]
              refine ih2 (s + 1) _ (by omega) (by omega) ?_ ⟨fun q hq hq2 => ?_, fun j hj => ?_⟩
              · rw [hss, ← List.append_assoc, hL]
                refine zRL_push b2 zb_us (fun i hi => ?_) ?_
                · rw [zb_uk (by decide), zb_ui hi]
                · rw [zb_uk (by decide), zb_us]
              · rw [zb_uk hq, zb_uk hq2]
                exact b3.1 q hq hq2
              · rw [zb_ui hj, zb_uk (by decide)]
                exact b3.2 j hj
      have hpos := Nat.two_pow_pos cp
      refine key2 (2 ^ cp - 1) 1 M1 (by omega) (by omega) ?_ a3
      have : (List.range 1).filter (fun s => zpop s == k) = [] := by
        have h0 : zpop 0 = 0 := by decide
        have h1 : ¬ 0 = k := by omega
        simp [List.range_succ, h0, h1]
      rw [this, List.append_nil]
      exact a2
  refine key ms 1 _ (by omega) (by omega) ?_ ⟨fun k hk hk2 => by rw [zb_uk hk], fun j hj => by rw [zb_ui hj]⟩
  refine ⟨zb_us, fun i s h => ?_⟩
  simp [zSs] at h
end
section
/-! the reference's madeBy, and its calls could, maker, blamed, unjust, count, past -/
def zCR (M : zMem) (pl cp : Nat) (ch : Nat → Nat) (me : Nat → Int) (ro : Nat → Nat → Nat) (ms hw : Nat) (v : Nat → Nat) : Prop := zWF pl cp ch me ro ∧ zRR M pl cp ch me ro ∧ M 55 14 = ms ∧ M 55 15 = hw ∧ 1 ≤ ms ∧ ms ≤ 3 ∧ ∀ p, p < pl → M 66 p = v p ∧ v p ≤ 5
theorem zCR.fr {M M' : zMem} {pl cp ms hw : Nat} {ch : Nat → Nat} {me : Nat → Int} {ro : Nat → Nat → Nat} {v : Nat → Nat} (h : zfR M M') (hr : zCR M pl cp ch me ro ms hw v) : zCR M' pl cp ch me ro ms hw v := by
  obtain ⟨h1, h2, h3, h4, h5, h6, h7⟩ := hr
  refine ⟨h1, h2.fr h, ?_, ?_, h5, h6, ?_⟩
  · rw [h.2 14 (by decide) (by decide) (by decide) (by decide)]; exact h3
  · rw [h.2 15 (by decide) (by decide) (by decide) (by decide)]; exact h4
  · rw [h.1 66 (by decide) (by decide)]; exact h7
theorem zfR_sets {M M' : zMem} (h1 : ∀ k, k ≠ 55 → k ≠ 69 → M' k = M k) (h2 : ∀ j, j ≠ 21 → M' 55 j = M 55 j) : zfR M M' :=
  ⟨fun k a b => h1 k a (by omega), fun j a _ _ _ => h2 j a⟩
/-- all, some, many in one number -/
def zpk (F : List Nat) : Nat := if F = [] then 0 else 65536 * F.length + 256 * zsome F + zall F
theorem zpk_ok {F : List Nat} (h92 : F.length ≤ 92) (h : ∀ s, s ∈ F → s < 256) : zpk F < 2 ^ 24 ∧ zpk F % 256 = zsur F ∧ zpk F / 256 % 256 = zsome F ∧ zpk F / 65536 = F.length ∧ (zpk F = 0 ↔ F = []) := by
  have h1 := zsome_lt h
  have h2 := zall_lt (F := F)
  unfold zpk zsur
  by_cases he : F = []
  · rw [if_pos he, if_pos he]
    subst he
    refine ⟨by decide, by decide, by decide, by decide, by simp⟩
  · rw [if_neg he, if_neg he]
    have h3 : 0 < F.length := List.length_pos_iff.mpr he
    refine ⟨by omega, by omega, by omega, by omega, ?_⟩
    constructor
    · intro; omega
    · intro hh; exact absurd hh he
theorem zand255 {a : Nat} (ha : a < 2 ^ 31) : ziand (a : Int) 255 = ((a % 256 : Nat) : Int) := by
  have h := zb_and (a := a) (b := 255) ha
  refine h.trans ?_
  rw [show 255 = 2 ^ 8 - 1 by decide, Nat.and_two_pow_sub_one_eq_mod]
theorem qc133 {d : Nat} {M : zMem} {pl cp ms hw a b n : Nat} {ch : Nat → Nat} {me : Nat → Int} {ro : Nat → Nat → Nat} {v : Nat → Nat} (hF : zWF pl cp ch me ro) (hR : zRR M pl cp ch me ro) (hms : ms ≤ 3) (ha : zSHL[a]? = some (.inl (0, n))) (hb : b + pl ≤ n) (hn : n < 1000) (ha1 : a ≠ 55 ∧ a ≠ 69) (hv : ∀ p, p < pl → M a (b + p) = v p ∧ v p ≤ 5) :
    zCi (d + 3) 133 [.inr (.inr 55), .inr (.inr a), .inl (b : Int), .inl (ms : Int), .inl (hw : Int)] M (fun r M' => r = (zpk (zF pl cp ch me ro ms hw v) : Int) ∧ zfR M M') := by
  have hF0 := hF
  obtain ⟨f1, f2, f3, f4⟩ := hF
  refine zk133 (zv133_0 _ _ _ _ ⟨_, qc132 hR.2.1 f2 hms, ?_⟩)
  rintro M1 ⟨a1, a2, a3⟩
  have fr := zfR_sets a2 a3
  have hR1 := hR.fr fr
  have hv1 : ∀ p, p < pl → M1 a (b + p) = v p ∧ v p ≤ 5 := fun p hp => by rw [a2 a ha1.1 ha1.2]; exact hv p hp
  have h92 := zSs_92 cp (by omega) ms (by omega)
  have h256 : ∀ s, s ∈ zSs cp ms → s < 256 := fun s hs => Nat.lt_of_lt_of_le (zSs_mem hs).2.1 (zb_p2le (b := 8) f2)
  unfold zF
  generalize zSs cp ms = L at *
  generalize hmk : zmk pl cp ch me ro hw v = mk
  have key : ∀ (R D : List Nat), D ++ R = L → zBg (d + 3) 133 19 [zR 55, zR a, zI (b : Int), none, zI (hw : Int), zI (zall (D.filter mk) : Int), zI (zsome (D.filter mk) : Int), zI ((D.filter mk).length : Int), zI (D.length : Int)] [] M1 (fun r M' => ∃ w : Int, r = some (.inl w) ∧ w = (zpk (L.filter mk) : Int) ∧ zfR M M') := by
    intro R
    induction R with
    | nil =>
      intro D h1
      rw [List.append_nil] at h1
      subst h1
      have hfl : (D.filter mk).length ≤ 92 := Nat.le_trans (List.length_filter_le _ _) (by omega)
      have hz := zsome_lt (F := D.filter mk) (fun x hx => h256 x (List.mem_filter.mp hx).1)
      have hz2 := zall_lt (F := D.filter mk)
      refine zv133_19 _ _ _ _ _ _ _ ⟨fun _ => ⟨fun hne => ⟨⟨by omega, by omega⟩, ⟨by omega, by omega⟩, ⟨by omega, by omega⟩, ⟨by omega, by omega⟩, _, rfl, ?_, fr⟩, fun he => ⟨_, rfl, ?_, fr⟩⟩, fun h => absurd (by rw [a1.1]; omega) h⟩
      · unfold zpk
        rw [if_neg (by intro e; rw [e] at hne; exact hne rfl)]
        omega
      · unfold zpk
        rw [if_pos (List.length_eq_zero_iff.mp (by omega))]
        rfl
    | cons s R ih =>
      intro D h1
      have hlen : D.length < L.length := by rw [← h1]; simp
      have hs : L[D.length]? = some s := by rw [← h1]; simp
      have hs1 := a1.2 _ _ hs
      have hs2 : s < 256 := h256 s (by rw [← h1]; simp)
      refine zv133_19 _ _ _ _ _ _ _ ⟨fun h => by rw [a1.1] at h; omega, fun _ => ⟨by omega, by omega, ?_⟩⟩
      rw [Int.toNat_natCast, hs1]
      refine ⟨_, qc131 hF0 hR1 hs2 ha hb hn hv1, ?_⟩
      rintro w M2 ⟨rfl, rfl⟩
      rw [hmk, hs1]
      have ih1 := ih (D ++ [s])
      simp only [List.append_assoc, List.singleton_append, List.length_append, List.length_cons, List.length_nil] at ih1
      have hfl : (D.filter mk).length ≤ 92 := Nat.le_trans (List.length_filter_le _ _) (by omega)
      refine ⟨fun h => ⟨⟨by omega, by omega⟩, ?_⟩, fun h => ?_⟩
      · have hno : ¬ mk s = true := by intro e; rw [if_pos e] at h; omega
        have ih2 := ih1 h1
        rw [List.filter_append, List.filter_cons_of_neg hno, List.filter_nil, List.append_nil] at ih2
        exact ih2
      · have hyes : mk s = true := by
          cases e : mk s
          · rw [e] at h; exact absurd rfl h
          · rfl
        have ih2 := ih1 h1
        rw [List.filter_append, List.filter_cons_of_pos hyes, List.filter_nil] at ih2
        have hz := zsome_lt (F := D.filter mk) (fun x hx => h256 x (by rw [← h1]; exact List.mem_append_left _ (List.mem_filter.mp hx).1))
        have hz2 := zall_lt (F := D.filter mk)
        have e1 : zall (D.filter mk ++ [s]) = zall (D.filter mk) &&& s := by
          unfold zall
          rw [List.foldl_append]
          rfl
        have e2 : zsome (D.filter mk ++ [s]) = zsome (D.filter mk) ||| s := by
          unfold zsome
          rw [List.foldl_append]
          rfl
        rw [e1, e2, List.length_append] at ih2
        rw [zb_and (by omega), zb_or (by omega) (by omega)]
        exact ⟨by omega, by omega, by omega, by omega, ⟨by omega, by omega⟩, ⟨by omega, by omega⟩, ih2⟩
  exact key L [] rfl
theorem zF_92 {pl cp ms hw : Nat} {ch : Nat → Nat} {me : Nat → Int} {ro : Nat → Nat → Nat} {v : Nat → Nat} (hcp : cp ≤ 8) (hms : ms ≤ 3) : (zF pl cp ch me ro ms hw v).length ≤ 92 :=
  Nat.le_trans (List.length_filter_le _ _) (zSs_92 cp (by omega) ms (by omega))
theorem qc140 {d : Nat} {M : zMem} {pl cp ms hw : Nat} {ch : Nat → Nat} {me : Nat → Int} {ro : Nat → Nat → Nat} {v : Nat → Nat} {x : Int} (hC : zCR M pl cp ch me ro ms hw v) :
    zCi (d + 3) 140 [.inr (.inr 55), .inl x] M (fun r M' => zsCould pl cp ch me ro hw v x r ∧ zfR M M') := by
  obtain ⟨h1, h2, h3, h4, h5, h6, h7⟩ := hC
  refine zk140 (zv140_0 _ ⟨_, qc139 h2.2.1 h1.2.1, ?_⟩)
  rintro v1 M1 ⟨hv1, rfl⟩
  refine ⟨fun hz => ?_, fun hz => ?_⟩
  · have hx : ¬ zisS cp x := by rcases hv1 with ⟨h, _⟩ | ⟨_, h⟩ <;> first | exact h | omega
    exact ⟨_, rfl, Or.inr ⟨hx, rfl⟩, zfR.rf⟩
  · have hx : zisS cp x := by rcases hv1 with ⟨_, h⟩ | ⟨h, _⟩ <;> first | exact h | exact absurd h hz
    obtain ⟨s, hs⟩ : ∃ s : Nat, x = (s : Int) := ⟨x.toNat, by have := hx.1; omega⟩
    subst hs
    have h256 : 2 ^ cp ≤ 2 ^ 8 := zb_p2le h1.2.1
    rw [h4]
    refine ⟨_, qc131 (b := 0) (n := 6) (v := v) h1 h2 (by have := hx.2; omega) rfl (by have := h1.1; omega) (by decide) (fun p hp => by rw [Nat.zero_add]; exact h7 p hp), ?_⟩
    rintro w M2 ⟨rfl, rfl⟩
    refine ⟨fun h => ⟨_, rfl, Or.inl ⟨hx, ?_⟩, zfR.rf⟩, fun h => ⟨_, rfl, Or.inl ⟨hx, ?_⟩, zfR.rf⟩⟩
    · rw [Int.toNat_natCast, h]
    · rw [Int.toNat_natCast]
      split
      · rfl
      · rename_i h8; rw [if_neg h8] at h; exact absurd rfl h
theorem qc141 {d : Nat} {M : zMem} {pl cp ms hw : Nat} {ch : Nat → Nat} {me : Nat → Int} {ro : Nat → Nat → Nat} {v : Nat → Nat} {x : Int} (hC : zCR M pl cp ch me ro ms hw v) (hx : zR32 x) :
    zCi (d + 3) 141 [.inr (.inr 55), .inl x] M (fun r M' => zsMaker (zF pl cp ch me ro ms hw v) x r ∧ zfR M M') := by
  obtain ⟨h1, h2, h3, h4, h5, h6, h7⟩ := hC
  refine zk141 (zv141_0 _ ⟨fun h => ?_, fun h => ⟨_, rfl, ?_, zfR.rf⟩⟩)
  · rw [h3]
    refine ⟨_, qc132 h2.2.1 h1.2.1 h6, ?_⟩
    rintro M1 ⟨a1, a2, a3⟩
    have fr := zfR_sets a2 a3
    have hR1 := h2.fr fr
    have hv1 : ∀ p, p < pl → M1 66 (0 + p) = v p ∧ v p ≤ 5 := fun p hp => by rw [a2 66 (by decide) (by decide), Nat.zero_add]; exact h7 p hp
    have h92 := zSs_92 cp (by have := h1.2.1; omega) ms (by omega)
    have h256 : ∀ s, s ∈ zSs cp ms → s < 256 := fun s hs => Nat.lt_of_lt_of_le (zSs_mem hs).2.1 (zb_p2le (b := 8) h1.2.1)
    have hh : M1 55 15 = hw := by rw [a3 15 (by decide)]; exact h4
    obtain ⟨i, hi⟩ : ∃ i : Nat, x = (i : Int) := ⟨x.toNat, by omega⟩
    subst hi
    have hx2 := hx.2
    unfold zsMaker
    rw [if_neg (by omega), Int.toNat_natCast]
    unfold zF
    generalize zSs cp ms = L at *
    generalize hmk : zmk pl cp ch me ro hw v = mk
    have key : ∀ (R D : List Nat), D ++ R = L → (D.filter mk).length ≤ i → zBg (d + 3) 141 18 [zR 55, zI (i : Int), zI ((D.filter mk).length : Int), zI (D.length : Int)] [] M1 (fun r M' => ∃ w : Int, r = some (.inl w) ∧ w = zith (L.filter mk) i ∧ zfR M M') := by
      intro R
      induction R with
      | nil =>
        intro D k1 k2
        rw [List.append_nil] at k1
        subst k1
        refine zv141_18 _ _ _ ⟨fun _ => ⟨_, rfl, ?_, fr⟩, fun h => absurd (by rw [a1.1]; omega) h⟩
        unfold zith
        rw [List.getElem?_eq_none (by omega)]
      | cons s R ih =>
        intro D k1 k2
        have hlen : D.length < L.length := by rw [← k1]; simp
        have hs : L[D.length]? = some s := by rw [← k1]; simp
        have hs1 := a1.2 _ _ hs
        have hs2 : s < 256 := h256 s (by rw [← k1]; simp)
        refine zv141_18 _ _ _ ⟨fun h => by rw [a1.1] at h; omega, fun _ => ⟨by omega, by omega, ?_⟩⟩
        rw [Int.toNat_natCast, hs1, hh]
        refine ⟨_, qc131 (b := 0) (n := 6) (v := v) h1 hR1 hs2 rfl (by have := h1.1; omega) (by decide) hv1, ?_⟩
        rintro w M2 ⟨rfl, rfl⟩
        rw [hmk, hs1]
        have ih1 := ih (D ++ [s])
        simp only [List.append_assoc, List.singleton_append, List.length_append, List.length_cons, List.length_nil] at ih1
        have ih2 := ih1 k1
        refine ⟨fun h => ⟨⟨by omega, by omega⟩, ?_⟩, fun h => ?_⟩
        · have hno : ¬ mk s = true := by intro e; rw [if_pos e] at h; omega
          rw [List.filter_append, List.filter_cons_of_neg hno, List.filter_nil, List.append_nil] at ih2
          exact ih2 k2
        · have hyes : mk s = true := by
            cases e : mk s
            · rw [e] at h; exact absurd rfl h
            · rfl
          rw [List.filter_append, List.filter_cons_of_pos hyes, List.filter_nil] at ih2
          refine ⟨fun hne => ⟨⟨by omega, by omega⟩, ⟨by omega, by omega⟩, ?_⟩, fun he => ⟨by omega, by omega, _, rfl, ?_, fr⟩⟩
          · rw [List.length_append] at ih2
            exact ih2 (by simp; omega)
          · unfold zith
            rw [← k1, List.filter_append, List.filter_cons_of_pos hyes, List.getElem?_append_right (by omega)]
            rw [show i - (D.filter mk).length = 0 by omega]
            rfl
    exact key L [] rfl (by simp)
  · unfold zsMaker
    rw [if_pos (by omega)]
theorem qc142 {d : Nat} {M : zMem} {pl cp ms hw : Nat} {ch : Nat → Nat} {me : Nat → Int} {ro : Nat → Nat → Nat} {v : Nat → Nat} {x : Int} (hC : zCR M pl cp ch me ro ms hw v) :
    zCi (d + 4) 142 [.inr (.inr 55), .inl x] M (fun r M' => zsBlamed (zF pl cp ch me ro ms hw v) x r ∧ zfR M M') := by
  obtain ⟨h1, h2, h3, h4, h5, h6, h7⟩ := hC
  refine zk142 (zv142_0 _ ⟨_, qc110, ?_⟩)
  rintro v1 M1 ⟨hv1, rfl⟩
  unfold zsBlamed
  refine ⟨fun hz => ?_, fun hz => ⟨_, rfl, ?_, zfR.rf⟩⟩
  · rw [h3, h4]
    refine ⟨_, qc133 (b := 0) (n := 6) (v := v) h1 h2 h6 rfl (by have := h1.1; omega) (by decide) (by decide) (fun p hp => by rw [Nat.zero_add]; exact h7 p hp), ?_⟩
    rintro w M2 ⟨rfl, fr⟩
    obtain ⟨p1, p2, p3, p4, p5⟩ := zpk_ok (zF_92 (pl := pl) (ch := ch) (me := me) (ro := ro) (hw := hw) (v := v) h1.2.1 h6) (zF_256 h1.2.1)
    refine ⟨fun h => ⟨_, rfl, ?_, fr⟩, fun h => ⟨_, rfl, ?_, fr⟩⟩
    · rw [if_neg h, if_pos (by omega)]
      have e := zb_shr (a := zpk (zF pl cp ch me ro ms hw v)) (k := 8) (by omega) (by decide)
      have e' : zishr (zpk (zF pl cp ch me ro ms hw v) : Int) 8 = ((zpk (zF pl cp ch me ro ms hw v) / 2 ^ 8 : Nat) : Int) := e
      rw [e', zand255 (by omega)]
      omega
    · rw [if_pos (by omega), zand255 (by omega), p2]
  · rw [if_neg (by omega), if_neg (by omega)]
theorem qc144 {d : Nat} {M : zMem} {pl cp ms hw : Nat} {ch : Nat → Nat} {me : Nat → Int} {ro : Nat → Nat → Nat} {v : Nat → Nat} {x : Int} (hC : zCR M pl cp ch me ro ms hw v) :
    zCi (d + 4) 144 [.inr (.inr 55), .inl x] M (fun r M' => zsUnjust cp (zF pl cp ch me ro ms hw v) x r ∧ zfR M M') := by
  obtain ⟨h1, h2, h3, h4, h5, h6, h7⟩ := hC
  refine zk144 (zv144_0 _ ⟨_, qc139 h2.2.1 h1.2.1, ?_⟩)
  rintro v1 M1 ⟨hv1, rfl⟩
  refine ⟨fun hz => ?_, fun hz => ?_⟩
  · have hx : zisS cp x := by rcases hv1 with ⟨_, h⟩ | ⟨h, _⟩ <;> first | exact h | exact absurd h hz
    obtain ⟨s, hs⟩ : ∃ s : Nat, x = (s : Int) := ⟨x.toNat, by have := hx.1; omega⟩
    subst hs
    have h256 : 2 ^ cp ≤ 2 ^ 8 := zb_p2le h1.2.1
    have hs256 : s < 256 := by have := hx.2; omega
    rw [h3, h4]
    refine ⟨_, qc133 (b := 0) (n := 6) (v := v) h1 h2 h6 rfl (by have := h1.1; omega) (by decide) (by decide) (fun p hp => by rw [Nat.zero_add]; exact h7 p hp), ?_⟩
    rintro w M2 ⟨rfl, fr⟩
    obtain ⟨p1, p2, p3, p4, p5⟩ := zpk_ok (zF_92 (pl := pl) (ch := ch) (me := me) (ro := ro) (hw := hw) (v := v) h1.2.1 h6) (zF_256 h1.2.1)
    rw [zand255 (by omega), p2, zb_andn (by omega)]
    refine ⟨fun hn => ⟨fun hw0 => ?_, fun hw0 => ⟨_, rfl, Or.inr ⟨hx, ?_⟩, fr⟩⟩, fun hn => ⟨_, rfl, Or.inr ⟨hx, ?_⟩, fr⟩⟩
    · have hlt : s &&& (zsur (zF pl cp ch me ro ms hw v) ^^^ 4294967295) < 256 := Nat.lt_of_le_of_lt Nat.and_le_left hs256
      refine ⟨_, qc143 (by omega), ?_⟩
      rintro w M3 ⟨rfl, rfl⟩
      refine ⟨_, rfl, Or.inr ⟨hx, ?_⟩, fr⟩
      rw [if_neg (fun e => by rw [p5.mpr e] at hn; exact hn rfl), Int.toNat_natCast, if_neg (by omega)]
    · rw [if_neg (fun e => by rw [p5.mpr e] at hn; exact hn rfl), Int.toNat_natCast, if_pos (by omega)]
    · rw [if_pos (p5.mp (by omega))]
  · have hx : ¬ zisS cp x := by rcases hv1 with ⟨h, _⟩ | ⟨_, h⟩ <;> first | exact h | exact absurd (by omega) hz
    exact ⟨_, rfl, Or.inl ⟨hx, rfl⟩, zfR.rf⟩
theorem qc134 {d : Nat} {M : zMem} {pl cp ms hw pn sz : Nat} {ch : Nat → Nat} {me : Nat → Int} {ro : Nat → Nat → Nat} {v : Nat → Nat} {x : Int} (hC : zCR M pl cp ch me ro ms hw v) (hpn : M 55 17 = pn) (hsz : M 55 2 = sz) :
    zCi (d + 4) 134 [.inr (.inr 55), .inl x] M (fun r M' => zsCount pl cp pn sz (zF pl cp ch me ro ms hw v) v x r ∧ zfR M M') := by
  obtain ⟨h1, h2, h3, h4, h5, h6, h7⟩ := hC
  have h61 := h1.1
  refine zk134 (zv134_0 _ ?_)
  have key : ∀ (m p : Nat), p + m = pl → zBg (d + 4) 134 4 [zR 55, zI x, zI (zlost v p : Int), zI (p : Int)] [] M (fun r M' => ∃ w : Int, r = some (.inl w) ∧ zsCount pl cp pn sz (zF pl cp ch me ro ms hw v) v x w ∧ zfR M M') := by
    intro m
    induction m with
    | zero =>
      intro p hp
      have : p = pl := by omega
      subst this
      refine zv134_4 _ _ _ ⟨fun _ => ?_, fun h => absurd (by rw [h2.1]; omega) h⟩
      rw [h3, h4]
      unfold zsCount
      refine ⟨⟨fun h => ⟨_, rfl, ?_, zfR.rf⟩, fun h => ⟨_, rfl, ?_, zfR.rf⟩, fun h => ⟨_, rfl, ?_, zfR.rf⟩, fun h => ⟨_, rfl, ?_, zfR.rf⟩, fun h => ⟨_, qc133 (b := 0) (n := 6) (v := v) h1 h2 h6 rfl (by omega) (by decide) (by decide) (fun p hp => by rw [Nat.zero_add]; exact h7 p hp), ?_⟩, fun h => ⟨_, rfl, ?_, zfR.rf⟩, trivial⟩, fun h => ⟨_, rfl, ?_, zfR.rf⟩⟩
      · rw [if_pos h, h2.1]
      · rw [if_neg (by omega), if_pos h, h2.2.1]
      · rw [if_neg (by omega), if_neg (by omega), if_pos h, hpn]
      · rw [if_neg (by omega), if_neg (by omega), if_neg (by omega), if_pos h, hsz]
      · rintro w M2 ⟨rfl, fr⟩
        obtain ⟨p1, p2, p3, p4, p5⟩ := zpk_ok (zF_92 (pl := p) (ch := ch) (me := me) (ro := ro) (hw := hw) (v := v) h1.2.1 h6) (zF_256 h1.2.1)
        refine ⟨by decide, _, rfl, ?_, fr⟩
        have e := zb_div (a := zpk (zF p cp ch me ro ms hw v)) (b := 65536) (by omega) (by decide) (by decide)
        have e' : zidiv (zpk (zF p cp ch me ro ms hw v) : Int) 65536 = ((zpk (zF p cp ch me ro ms hw v) / 65536 : Nat) : Int) := e
        rw [if_neg (by omega), if_neg (by omega), if_neg (by omega), if_neg (by omega), if_pos h, e', p4]
      · rw [if_neg (by omega), if_neg (by omega), if_neg (by omega), if_neg (by omega), if_neg (by omega), if_pos h]
      · rw [if_neg (by omega), if_neg (by omega), if_neg (by omega), if_neg (by omega), if_neg (by omega), if_neg (by omega)]
    | succ m ih =>
      intro p hp
      have ih1 := ih (p + 1) (by omega)
      have hl := zlost_le (v := v) p
      simp only [zlost] at ih1
      refine zv134_4 _ _ _ ⟨fun h => by rw [h2.1] at h; omega, fun _ => ?_⟩
      rw [Int.toNat_natCast, (h7 p (by omega)).1]
      refine ⟨by omega, by omega, fun h => ⟨⟨by omega, by omega⟩, ⟨by omega, by omega⟩, ?_⟩, fun h => ⟨⟨by omega, by omega⟩, ⟨by omega, by omega⟩, ?_⟩⟩
      · rw [if_neg (by omega)] at ih1
        simpa using ih1
      · rw [if_pos (by omega)] at ih1
        simpa using ih1
  exact key pl 0 (by omega)
theorem qc167 {d : Nat} {M : zMem} {pl cp ms hw pn : Nat} {ch : Nat → Nat} {me : Nat → Int} {ro : Nat → Nat → Nat} {v : Nat → Nat} {pp : Nat → Nat → Nat} {pm ph : Nat → Nat} {x y : Int} (hC : zCR M pl cp ch me ro ms hw v) (hpn : M 55 17 = pn) (hp6 : pn ≤ 6) (hpp : ∀ k, k < pn → M 67 (8 * k + 6) = pm k ∧ M 67 (8 * k + 7) = ph k ∧ pm k ≤ 3 ∧ ∀ p, p < pl → M 67 (8 * k + p) = pp k p ∧ pp k p ≤ 5) :
    zCi (d + 4) 167 [.inr (.inr 55), .inl x, .inl y] M (fun r M' => zsPast pl cp ch me ro pn pp pm ph x y r ∧ zfR M M') := by
  obtain ⟨h1, h2, h3, h4, h5, h6, h7⟩ := hC
  have hcp := h1.2.1
  have h61 := h1.1
  have key : ∀ (c w : Nat), c < cp → w < 2 → ∀ (m k : Nat) (M1 : zMem), k + m = pn → zfR M M1 → zBg (d + 4) 167 25 [zR 55, zI (c : Int), zI (w : Int), zI (zpst pl cp ch me ro pp pm ph c w k : Int), zI (k : Int), none] [] M1 (fun r M' => ∃ z : Int, r = some (.inl z) ∧ z = (zpst pl cp ch me ro pp pm ph c w pn : Int) ∧ zfR M M') := by
    intro c w hc hw2 m
    induction m with
    | zero =>
      intro k M1 hk f1
      have : k = pn := by omega
      subst this
      refine zv167_25 _ _ _ _ ⟨fun _ => ⟨_, rfl, rfl, f1⟩, fun h => absurd ?_ h⟩
      rw [f1.2 17 (by decide) (by decide) (by decide) (by decide), hpn]
      omega
    | succ m ih =>
      intro k M1 hk f1
      obtain ⟨p1, p2, p3, p4⟩ := hpp k (by omega)
      have hle := zpst_le (pl := pl) (cp := cp) (ch := ch) (me := me) (ro := ro) (pp := pp) (pm := pm) (ph := ph) (c := c) (what := w) k
      refine zv167_25 _ _ _ _ ⟨fun h => ?_, fun _ => ?_⟩
      · rw [f1.2 17 (by decide) (by decide) (by decide) (by decide), hpn] at h
        omega
      · rw [show (8 * (k : Int) + 6).toNat = 8 * k + 6 by omega, show (8 * (k : Int) + 7).toNat = 8 * k + 7 by omega, f1.1 67 (by decide) (by decide), p1, p2, show 8 * (k : Int) = ((8 * k : Nat) : Int) by omega]
        refine ⟨⟨by omega, by omega⟩, ⟨by omega, by omega⟩, ⟨by omega, by omega⟩, by omega, by omega, ⟨by omega, by omega⟩, ⟨by omega, by omega⟩, by omega, by omega, _, qc133 (n := 48) (v := pp k) h1 (h2.fr f1) p3 rfl (by omega) (by decide) (by decide) (fun p hp => by rw [f1.1 67 (by decide) (by decide)]; exact p4 p hp), ?_⟩
        rintro u M2 ⟨rfl, fr⟩
        have f2 := f1.tr fr
        have ih1 := ih (k + 1) M2 (by omega) f2
        simp only [zpst] at ih1
        obtain ⟨q1, q2, q3, q4, q5⟩ := zpk_ok (zF_92 (pl := pl) (ch := ch) (me := me) (ro := ro) (hw := ph k) (v := pp k) hcp p3) (zF_256 hcp)
        have hbit : (if w = 0 then zsur (zF pl cp ch me ro (pm k) (ph k) (pp k)) else zsome (zF pl cp ch me ro (pm k) (ph k) (pp k))).testBit c = (zpk (zF pl cp ch me ro (pm k) (ph k) (pp k))).testBit (c + 8 * w) := by
          by_cases hw0 : w = 0
          · rw [if_pos hw0, hw0, ← q2, show 256 = 2 ^ 8 by decide, Nat.testBit_mod_two_pow]
            simp [show c < 8 by omega]
          · rw [if_neg hw0, show w = 1 by omega, ← q3, show 256 = 2 ^ 8 by decide, Nat.testBit_mod_two_pow, Nat.testBit_div_two_pow]
            simp [show c < 8 by omega]
        rw [hbit] at ih1
        rw [show (c : Int) + 8 * (w : Int) = ((c + 8 * w : Nat) : Int) by omega, zb_bit (by omega) (by omega)]
        refine ⟨⟨by omega, by omega⟩, ⟨by omega, by omega⟩, by split <;> exact ⟨by omega, by omega⟩, ⟨by omega, by omega⟩, ?_⟩
        split
        · rename_i hb; rw [if_pos hb] at ih1; simpa using ih1
        · rename_i hb; rw [if_neg hb] at ih1; simpa using ih1
  refine zk167 (zv167_0 _ _ ⟨_, qc121 h2.2.1 hcp, ?_⟩)
  rintro v1 M1 ⟨hv1, rfl⟩
  refine ⟨fun hz => ?_, fun hz => ⟨_, qc110, ?_⟩⟩
  · have hx : ¬ zisC cp x := by rcases hv1 with ⟨h, _⟩ | ⟨_, h⟩ <;> first | exact h | omega
    exact ⟨_, rfl, Or.inl ⟨fun h => hx h.1, rfl⟩, zfR.rf⟩
  · have hx : zisC cp x := by rcases hv1 with ⟨_, h⟩ | ⟨h, _⟩ <;> first | exact h | exact absurd h hz
    rintro v2 M2 ⟨hv2, rfl⟩
    refine ⟨fun h => ?_, fun h => ⟨_, rfl, Or.inl ⟨fun h3 => ?_, rfl⟩, zfR.rf⟩⟩
    · have hy : y = 0 ∨ y = 1 := by omega
      obtain ⟨c, hc⟩ : ∃ c : Nat, x = (c : Int) := ⟨x.toNat, by have := hx.1; omega⟩
      obtain ⟨w, hw2⟩ : ∃ w : Nat, y = (w : Int) := ⟨y.toNat, by omega⟩
      subst hc hw2
      refine zBg.mono (key c w (by have := hx.2; omega) (by omega) pn 0 M2 (by omega) zfR.rf) ?_
      rintro r M' ⟨z, e1, e2, e3⟩
      exact ⟨z, e1, Or.inr ⟨⟨hx, hy⟩, by simpa using e2⟩, e3⟩
    · omega
end
