section
-- ===== PART A: goes FIRST, ahead of the names: the tables' words, and 'selects' of the private methods out of them =====
/-- a private method of a class that the tables say can be made, by its rows of tables_1 -/
def lw_okq (q : MethodName × Nat) : Prop := (q.1.cls ≠ "java/lang/invoke/MethodHandle" ∧ q.1.cls ≠ "java/lang/invoke/VarHandle") ∧ Cond.instantiable q.1.cls q.2 ∈ tables_1 ∧ Cond.privateMethod q.1 ∈ tables_1 ∧ Cond.instanceMethod q.1 ∈ tables_1
theorem lw_p0 : lw_okq (⟨"SkewedWays$Store", "begin", "()V"⟩, 14) := ⟨⟨by decide +kernel, by decide +kernel⟩, List.mem_of_getElem? (i := 32) (by decide +kernel), List.mem_of_getElem? (i := 293) (by decide +kernel), List.mem_of_getElem? (i := 294) (by decide +kernel)⟩
theorem lw_p1 : lw_okq (⟨"SkewedWays$Store", "setFamily", "(I)V"⟩, 14) := ⟨⟨by decide +kernel, by decide +kernel⟩, List.mem_of_getElem? (i := 32) (by decide +kernel), List.mem_of_getElem? (i := 297) (by decide +kernel), List.mem_of_getElem? (i := 298) (by decide +kernel)⟩
theorem lw_p2 : lw_okq (⟨"SkewedWays$Store", "maskOfFamily", "(III)I"⟩, 14) := ⟨⟨by decide +kernel, by decide +kernel⟩, List.mem_of_getElem? (i := 32) (by decide +kernel), List.mem_of_getElem? (i := 304) (by decide +kernel), List.mem_of_getElem? (i := 305) (by decide +kernel)⟩
theorem lw_p3 : lw_okq (⟨"SkewedWays$Whole", "takeAll", "(LSkewedWays$Whole;)V"⟩, 8) := ⟨⟨by decide +kernel, by decide +kernel⟩, List.mem_of_getElem? (i := 26) (by decide +kernel), List.mem_of_getElem? (i := 311) (by decide +kernel), List.mem_of_getElem? (i := 312) (by decide +kernel)⟩
theorem lw_p4 : lw_okq (⟨"SkewedWays$Store", "takeStore", "(LSkewedWays$Store;)V"⟩, 14) := ⟨⟨by decide +kernel, by decide +kernel⟩, List.mem_of_getElem? (i := 32) (by decide +kernel), List.mem_of_getElem? (i := 315) (by decide +kernel), List.mem_of_getElem? (i := 316) (by decide +kernel)⟩
theorem lw_p5 : lw_okq (⟨"SkewedWays$Trace", "takeTrace", "(LSkewedWays$Trace;)V"⟩, 3) := ⟨⟨by decide +kernel, by decide +kernel⟩, List.mem_of_getElem? (i := 106) (by decide +kernel), List.mem_of_getElem? (i := 328) (by decide +kernel), List.mem_of_getElem? (i := 329) (by decide +kernel)⟩
theorem lw_p6 : lw_okq (⟨"SkewedWays", "feedFour", "(I)V"⟩, 14) := ⟨⟨by decide +kernel, by decide +kernel⟩, List.mem_of_getElem? (i := 18) (by decide +kernel), List.mem_of_getElem? (i := 381) (by decide +kernel), List.mem_of_getElem? (i := 382) (by decide +kernel)⟩
theorem lw_p7 : lw_okq (⟨"SkewedWays$Reader", "read", "([IILSkewedWays$Trace;)V"⟩, 10) := ⟨⟨by decide +kernel, by decide +kernel⟩, List.mem_of_getElem? (i := 252) (by decide +kernel), List.mem_of_getElem? (i := 393) (by decide +kernel), List.mem_of_getElem? (i := 394) (by decide +kernel)⟩
theorem lw_p8 : lw_okq (⟨"SkewedWays$Reader", "takeDigit", "(II)V"⟩, 10) := ⟨⟨by decide +kernel, by decide +kernel⟩, List.mem_of_getElem? (i := 252) (by decide +kernel), List.mem_of_getElem? (i := 400) (by decide +kernel), List.mem_of_getElem? (i := 401) (by decide +kernel)⟩
theorem lw_p9 : lw_okq (⟨"SkewedWays$Reader", "endNumber", "(LSkewedWays$Trace;)V"⟩, 10) := ⟨⟨by decide +kernel, by decide +kernel⟩, List.mem_of_getElem? (i := 252) (by decide +kernel), List.mem_of_getElem? (i := 406) (by decide +kernel), List.mem_of_getElem? (i := 407) (by decide +kernel)⟩
theorem lw_p10 : lw_okq (⟨"SkewedWays$Reader", "takeNumber", "(LSkewedWays$Trace;)V"⟩, 10) := ⟨⟨by decide +kernel, by decide +kernel⟩, List.mem_of_getElem? (i := 252) (by decide +kernel), List.mem_of_getElem? (i := 410) (by decide +kernel), List.mem_of_getElem? (i := 411) (by decide +kernel)⟩
theorem lw_p11 : lw_okq (⟨"SkewedWays$Reader", "isWithin", "(II)Z"⟩, 10) := ⟨⟨by decide +kernel, by decide +kernel⟩, List.mem_of_getElem? (i := 252) (by decide +kernel), List.mem_of_getElem? (i := 414) (by decide +kernel), List.mem_of_getElem? (i := 415) (by decide +kernel)⟩
theorem lw_p12 : lw_okq (⟨"SkewedWays$Reader", "fail", "(II)V"⟩, 10) := ⟨⟨by decide +kernel, by decide +kernel⟩, List.mem_of_getElem? (i := 252) (by decide +kernel), List.mem_of_getElem? (i := 418) (by decide +kernel), List.mem_of_getElem? (i := 419) (by decide +kernel)⟩
theorem lw_p13 : lw_okq (⟨"SkewedWays$Reader", "emit", "(LSkewedWays$Trace;II)V"⟩, 10) := ⟨⟨by decide +kernel, by decide +kernel⟩, List.mem_of_getElem? (i := 252) (by decide +kernel), List.mem_of_getElem? (i := 422) (by decide +kernel), List.mem_of_getElem? (i := 423) (by decide +kernel)⟩
theorem lw_p14 : lw_okq (⟨"SkewedWays$Trace", "add", "(II)V"⟩, 3) := ⟨⟨by decide +kernel, by decide +kernel⟩, List.mem_of_getElem? (i := 106) (by decide +kernel), List.mem_of_getElem? (i := 426) (by decide +kernel), List.mem_of_getElem? (i := 427) (by decide +kernel)⟩
theorem lw_p15 : lw_okq (⟨"SkewedWays$Reader", "emitStrides", "(LSkewedWays$Trace;I)V"⟩, 10) := ⟨⟨by decide +kernel, by decide +kernel⟩, List.mem_of_getElem? (i := 252) (by decide +kernel), List.mem_of_getElem? (i := 430) (by decide +kernel), List.mem_of_getElem? (i := 431) (by decide +kernel)⟩
def lw_privs_1 : List (MethodName × Nat) := [(⟨"SkewedWays$Store", "begin", "()V"⟩, 14), (⟨"SkewedWays$Store", "setFamily", "(I)V"⟩, 14), (⟨"SkewedWays$Store", "maskOfFamily", "(III)I"⟩, 14), (⟨"SkewedWays$Whole", "takeAll", "(LSkewedWays$Whole;)V"⟩, 8), (⟨"SkewedWays$Store", "takeStore", "(LSkewedWays$Store;)V"⟩, 14), (⟨"SkewedWays$Trace", "takeTrace", "(LSkewedWays$Trace;)V"⟩, 3), (⟨"SkewedWays", "feedFour", "(I)V"⟩, 14), (⟨"SkewedWays$Reader", "read", "([IILSkewedWays$Trace;)V"⟩, 10), (⟨"SkewedWays$Reader", "takeDigit", "(II)V"⟩, 10), (⟨"SkewedWays$Reader", "endNumber", "(LSkewedWays$Trace;)V"⟩, 10), (⟨"SkewedWays$Reader", "takeNumber", "(LSkewedWays$Trace;)V"⟩, 10), (⟨"SkewedWays$Reader", "isWithin", "(II)Z"⟩, 10), (⟨"SkewedWays$Reader", "fail", "(II)V"⟩, 10), (⟨"SkewedWays$Reader", "emit", "(LSkewedWays$Trace;II)V"⟩, 10), (⟨"SkewedWays$Trace", "add", "(II)V"⟩, 3), (⟨"SkewedWays$Reader", "emitStrides", "(LSkewedWays$Trace;I)V"⟩, 10)]
theorem lw_r1 : ∀ q ∈ lw_privs_1, lw_okq q := List.forall_mem_cons.mpr ⟨lw_p0, List.forall_mem_cons.mpr ⟨lw_p1, List.forall_mem_cons.mpr ⟨lw_p2, List.forall_mem_cons.mpr ⟨lw_p3, List.forall_mem_cons.mpr ⟨lw_p4, List.forall_mem_cons.mpr ⟨lw_p5, List.forall_mem_cons.mpr ⟨lw_p6, List.forall_mem_cons.mpr ⟨lw_p7, List.forall_mem_cons.mpr ⟨lw_p8, List.forall_mem_cons.mpr ⟨lw_p9, List.forall_mem_cons.mpr ⟨lw_p10, List.forall_mem_cons.mpr ⟨lw_p11, List.forall_mem_cons.mpr ⟨lw_p12, List.forall_mem_cons.mpr ⟨lw_p13, List.forall_mem_cons.mpr ⟨lw_p14, List.forall_mem_cons.mpr ⟨lw_p15, fun _ h => absurd h List.not_mem_nil⟩⟩⟩⟩⟩⟩⟩⟩⟩⟩⟩⟩⟩⟩⟩⟩
theorem lw_p16 : lw_okq (⟨"SkewedWays$Reader", "closeLoop", "(LSkewedWays$Trace;I)V"⟩, 10) := ⟨⟨by decide +kernel, by decide +kernel⟩, List.mem_of_getElem? (i := 252) (by decide +kernel), List.mem_of_getElem? (i := 434) (by decide +kernel), List.mem_of_getElem? (i := 435) (by decide +kernel)⟩
theorem lw_p17 : lw_okq (⟨"SkewedWays$Reader", "takeSign", "(IILSkewedWays$Trace;)V"⟩, 10) := ⟨⟨by decide +kernel, by decide +kernel⟩, List.mem_of_getElem? (i := 252) (by decide +kernel), List.mem_of_getElem? (i := 438) (by decide +kernel), List.mem_of_getElem? (i := 439) (by decide +kernel)⟩
theorem lw_p18 : lw_okq (⟨"SkewedWays$Reader", "mayItemCome", "()Z"⟩, 10) := ⟨⟨by decide +kernel, by decide +kernel⟩, List.mem_of_getElem? (i := 252) (by decide +kernel), List.mem_of_getElem? (i := 442) (by decide +kernel), List.mem_of_getElem? (i := 443) (by decide +kernel)⟩
theorem lw_p19 : lw_okq (⟨"SkewedWays$Reader", "openLoop", "(ILSkewedWays$Trace;)V"⟩, 10) := ⟨⟨by decide +kernel, by decide +kernel⟩, List.mem_of_getElem? (i := 252) (by decide +kernel), List.mem_of_getElem? (i := 446) (by decide +kernel), List.mem_of_getElem? (i := 447) (by decide +kernel)⟩
theorem lw_p20 : lw_okq (⟨"SkewedWays$Reader", "takeEnd", "(I)V"⟩, 10) := ⟨⟨by decide +kernel, by decide +kernel⟩, List.mem_of_getElem? (i := 252) (by decide +kernel), List.mem_of_getElem? (i := 450) (by decide +kernel), List.mem_of_getElem? (i := 451) (by decide +kernel)⟩
theorem lw_p21 : lw_okq (⟨"SkewedWays$Whole", "remember", "()V"⟩, 8) := ⟨⟨by decide +kernel, by decide +kernel⟩, List.mem_of_getElem? (i := 26) (by decide +kernel), List.mem_of_getElem? (i := 466) (by decide +kernel), List.mem_of_getElem? (i := 467) (by decide +kernel)⟩
theorem lw_p22 : lw_okq (⟨"SkewedWays$Store", "come", "(ILSkewedWays$Search;)I"⟩, 14) := ⟨⟨by decide +kernel, by decide +kernel⟩, List.mem_of_getElem? (i := 32) (by decide +kernel), List.mem_of_getElem? (i := 470) (by decide +kernel), List.mem_of_getElem? (i := 471) (by decide +kernel)⟩
theorem lw_p23 : lw_okq (⟨"SkewedWays$Store", "placeOf", "(I)I"⟩, 14) := ⟨⟨by decide +kernel, by decide +kernel⟩, List.mem_of_getElem? (i := 32) (by decide +kernel), List.mem_of_getElem? (i := 474) (by decide +kernel), List.mem_of_getElem? (i := 475) (by decide +kernel)⟩
theorem lw_p24 : lw_okq (⟨"SkewedWays$Store", "placeIn", "(II)I"⟩, 14) := ⟨⟨by decide +kernel, by decide +kernel⟩, List.mem_of_getElem? (i := 32) (by decide +kernel), List.mem_of_getElem? (i := 478) (by decide +kernel), List.mem_of_getElem? (i := 479) (by decide +kernel)⟩
theorem lw_p25 : lw_okq (⟨"SkewedWays$Store", "indexOf", "(II)I"⟩, 14) := ⟨⟨by decide +kernel, by decide +kernel⟩, List.mem_of_getElem? (i := 32) (by decide +kernel), List.mem_of_getElem? (i := 482) (by decide +kernel), List.mem_of_getElem? (i := 483) (by decide +kernel)⟩
theorem lw_p26 : lw_okq (⟨"SkewedWays$Search", "look", "(LSkewedWays$Store;II)V"⟩, 4) := ⟨⟨by decide +kernel, by decide +kernel⟩, List.mem_of_getElem? (i := 165) (by decide +kernel), List.mem_of_getElem? (i := 492) (by decide +kernel), List.mem_of_getElem? (i := 493) (by decide +kernel)⟩
theorem lw_p27 : lw_okq (⟨"SkewedWays$Search", "addSlotsOf", "(LSkewedWays$Store;III)V"⟩, 4) := ⟨⟨by decide +kernel, by decide +kernel⟩, List.mem_of_getElem? (i := 165) (by decide +kernel), List.mem_of_getElem? (i := 497) (by decide +kernel), List.mem_of_getElem? (i := 498) (by decide +kernel)⟩
theorem lw_p28 : lw_okq (⟨"SkewedWays$Search", "choose", "(LSkewedWays$Store;)I"⟩, 4) := ⟨⟨by decide +kernel, by decide +kernel⟩, List.mem_of_getElem? (i := 165) (by decide +kernel), List.mem_of_getElem? (i := 502) (by decide +kernel), List.mem_of_getElem? (i := 503) (by decide +kernel)⟩
theorem lw_p29 : lw_okq (⟨"SkewedWays$Store", "note", "(IIII)V"⟩, 14) := ⟨⟨by decide +kernel, by decide +kernel⟩, List.mem_of_getElem? (i := 32) (by decide +kernel), List.mem_of_getElem? (i := 506) (by decide +kernel), List.mem_of_getElem? (i := 507) (by decide +kernel)⟩
theorem lw_p30 : lw_okq (⟨"SkewedWays$Store", "growOlder", "(LSkewedWays$Search;)V"⟩, 14) := ⟨⟨by decide +kernel, by decide +kernel⟩, List.mem_of_getElem? (i := 32) (by decide +kernel), List.mem_of_getElem? (i := 510) (by decide +kernel), List.mem_of_getElem? (i := 511) (by decide +kernel)⟩
theorem lw_p31 : lw_okq (⟨"SkewedWays$Store", "bringBack", "(I)I"⟩, 14) := ⟨⟨by decide +kernel, by decide +kernel⟩, List.mem_of_getElem? (i := 32) (by decide +kernel), List.mem_of_getElem? (i := 517) (by decide +kernel), List.mem_of_getElem? (i := 518) (by decide +kernel)⟩
def lw_privs_2 : List (MethodName × Nat) := [(⟨"SkewedWays$Reader", "closeLoop", "(LSkewedWays$Trace;I)V"⟩, 10), (⟨"SkewedWays$Reader", "takeSign", "(IILSkewedWays$Trace;)V"⟩, 10), (⟨"SkewedWays$Reader", "mayItemCome", "()Z"⟩, 10), (⟨"SkewedWays$Reader", "openLoop", "(ILSkewedWays$Trace;)V"⟩, 10), (⟨"SkewedWays$Reader", "takeEnd", "(I)V"⟩, 10), (⟨"SkewedWays$Whole", "remember", "()V"⟩, 8), (⟨"SkewedWays$Store", "come", "(ILSkewedWays$Search;)I"⟩, 14), (⟨"SkewedWays$Store", "placeOf", "(I)I"⟩, 14), (⟨"SkewedWays$Store", "placeIn", "(II)I"⟩, 14), (⟨"SkewedWays$Store", "indexOf", "(II)I"⟩, 14), (⟨"SkewedWays$Search", "look", "(LSkewedWays$Store;II)V"⟩, 4), (⟨"SkewedWays$Search", "addSlotsOf", "(LSkewedWays$Store;III)V"⟩, 4), (⟨"SkewedWays$Search", "choose", "(LSkewedWays$Store;)I"⟩, 4), (⟨"SkewedWays$Store", "note", "(IIII)V"⟩, 14), (⟨"SkewedWays$Store", "growOlder", "(LSkewedWays$Search;)V"⟩, 14), (⟨"SkewedWays$Store", "bringBack", "(I)I"⟩, 14)]
theorem lw_r2 : ∀ q ∈ lw_privs_2, lw_okq q := List.forall_mem_cons.mpr ⟨lw_p16, List.forall_mem_cons.mpr ⟨lw_p17, List.forall_mem_cons.mpr ⟨lw_p18, List.forall_mem_cons.mpr ⟨lw_p19, List.forall_mem_cons.mpr ⟨lw_p20, List.forall_mem_cons.mpr ⟨lw_p21, List.forall_mem_cons.mpr ⟨lw_p22, List.forall_mem_cons.mpr ⟨lw_p23, List.forall_mem_cons.mpr ⟨lw_p24, List.forall_mem_cons.mpr ⟨lw_p25, List.forall_mem_cons.mpr ⟨lw_p26, List.forall_mem_cons.mpr ⟨lw_p27, List.forall_mem_cons.mpr ⟨lw_p28, List.forall_mem_cons.mpr ⟨lw_p29, List.forall_mem_cons.mpr ⟨lw_p30, List.forall_mem_cons.mpr ⟨lw_p31, fun _ h => absurd h List.not_mem_nil⟩⟩⟩⟩⟩⟩⟩⟩⟩⟩⟩⟩⟩⟩⟩⟩
theorem lw_p32 : lw_okq (⟨"SkewedWays$Store", "moveOn", "(LSkewedWays$Search;I)I"⟩, 14) := ⟨⟨by decide +kernel, by decide +kernel⟩, List.mem_of_getElem? (i := 32) (by decide +kernel), List.mem_of_getElem? (i := 521) (by decide +kernel), List.mem_of_getElem? (i := 522) (by decide +kernel)⟩
theorem lw_p33 : lw_okq (⟨"SkewedWays$Store", "moveLine", "(II)V"⟩, 14) := ⟨⟨by decide +kernel, by decide +kernel⟩, List.mem_of_getElem? (i := 32) (by decide +kernel), List.mem_of_getElem? (i := 525) (by decide +kernel), List.mem_of_getElem? (i := 526) (by decide +kernel)⟩
theorem lw_p34 : lw_okq (⟨"SkewedWays$Search", "topOf", "(I)I"⟩, 4) := ⟨⟨by decide +kernel, by decide +kernel⟩, List.mem_of_getElem? (i := 165) (by decide +kernel), List.mem_of_getElem? (i := 529) (by decide +kernel), List.mem_of_getElem? (i := 530) (by decide +kernel)⟩
theorem lw_p35 : lw_okq (⟨"SkewedWays$Store", "settle", "(II)V"⟩, 14) := ⟨⟨by decide +kernel, by decide +kernel⟩, List.mem_of_getElem? (i := 32) (by decide +kernel), List.mem_of_getElem? (i := 533) (by decide +kernel), List.mem_of_getElem? (i := 534) (by decide +kernel)⟩
theorem lw_p36 : lw_okq (⟨"SkewedWays$Store", "valueOf", "(I)I"⟩, 14) := ⟨⟨by decide +kernel, by decide +kernel⟩, List.mem_of_getElem? (i := 32) (by decide +kernel), List.mem_of_getElem? (i := 537) (by decide +kernel), List.mem_of_getElem? (i := 538) (by decide +kernel)⟩
theorem lw_p37 : lw_okq (⟨"SkewedWays$Store", "put", "(III)V"⟩, 14) := ⟨⟨by decide +kernel, by decide +kernel⟩, List.mem_of_getElem? (i := 32) (by decide +kernel), List.mem_of_getElem? (i := 546) (by decide +kernel), List.mem_of_getElem? (i := 547) (by decide +kernel)⟩
theorem lw_p38 : lw_okq (⟨"SkewedWays", "placeHeld", "(I)I"⟩, 14) := ⟨⟨by decide +kernel, by decide +kernel⟩, List.mem_of_getElem? (i := 18) (by decide +kernel), List.mem_of_getElem? (i := 554) (by decide +kernel), List.mem_of_getElem? (i := 555) (by decide +kernel)⟩
theorem lw_p39 : lw_okq (⟨"SkewedWays$Store", "makeEmpty", "(I)V"⟩, 14) := ⟨⟨by decide +kernel, by decide +kernel⟩, List.mem_of_getElem? (i := 32) (by decide +kernel), List.mem_of_getElem? (i := 567) (by decide +kernel), List.mem_of_getElem? (i := 568) (by decide +kernel)⟩
theorem lw_p40 : lw_okq (⟨"SkewedWays$Store", "coolAll", "()I"⟩, 14) := ⟨⟨by decide +kernel, by decide +kernel⟩, List.mem_of_getElem? (i := 32) (by decide +kernel), List.mem_of_getElem? (i := 575) (by decide +kernel), List.mem_of_getElem? (i := 576) (by decide +kernel)⟩
theorem lw_p41 : lw_okq (⟨"SkewedWays", "isWay", "(I)Z"⟩, 14) := ⟨⟨by decide +kernel, by decide +kernel⟩, List.mem_of_getElem? (i := 18) (by decide +kernel), List.mem_of_getElem? (i := 583) (by decide +kernel), List.mem_of_getElem? (i := 584) (by decide +kernel)⟩
theorem lw_p42 : lw_okq (⟨"SkewedWays$Store", "tradeWays", "(II)V"⟩, 14) := ⟨⟨by decide +kernel, by decide +kernel⟩, List.mem_of_getElem? (i := 32) (by decide +kernel), List.mem_of_getElem? (i := 587) (by decide +kernel), List.mem_of_getElem? (i := 588) (by decide +kernel)⟩
theorem lw_p43 : lw_okq (⟨"SkewedWays$Store", "emptyAll", "()I"⟩, 14) := ⟨⟨by decide +kernel, by decide +kernel⟩, List.mem_of_getElem? (i := 32) (by decide +kernel), List.mem_of_getElem? (i := 598) (by decide +kernel), List.mem_of_getElem? (i := 599) (by decide +kernel)⟩
theorem lw_p44 : lw_okq (⟨"SkewedWays$Store", "slotsInAll", "()I"⟩, 14) := ⟨⟨by decide +kernel, by decide +kernel⟩, List.mem_of_getElem? (i := 32) (by decide +kernel), List.mem_of_getElem? (i := 608) (by decide +kernel), List.mem_of_getElem? (i := 609) (by decide +kernel)⟩
theorem lw_p45 : lw_okq (⟨"SkewedWays$Worth", "rankOfAll", "(LSkewedWays$Store;)I"⟩, 2) := ⟨⟨by decide +kernel, by decide +kernel⟩, List.mem_of_getElem? (i := 190) (by decide +kernel), List.mem_of_getElem? (i := 616) (by decide +kernel), List.mem_of_getElem? (i := 617) (by decide +kernel)⟩
theorem lw_p46 : lw_okq (⟨"SkewedWays$Worth", "addMasks", "(LSkewedWays$Store;II)I"⟩, 2) := ⟨⟨by decide +kernel, by decide +kernel⟩, List.mem_of_getElem? (i := 190) (by decide +kernel), List.mem_of_getElem? (i := 620) (by decide +kernel), List.mem_of_getElem? (i := 621) (by decide +kernel)⟩
theorem lw_p47 : lw_okq (⟨"SkewedWays$Worth", "rankOfRows", "(I)I"⟩, 2) := ⟨⟨by decide +kernel, by decide +kernel⟩, List.mem_of_getElem? (i := 190) (by decide +kernel), List.mem_of_getElem? (i := 625) (by decide +kernel), List.mem_of_getElem? (i := 626) (by decide +kernel)⟩
def lw_privs_3 : List (MethodName × Nat) := [(⟨"SkewedWays$Store", "moveOn", "(LSkewedWays$Search;I)I"⟩, 14), (⟨"SkewedWays$Store", "moveLine", "(II)V"⟩, 14), (⟨"SkewedWays$Search", "topOf", "(I)I"⟩, 4), (⟨"SkewedWays$Store", "settle", "(II)V"⟩, 14), (⟨"SkewedWays$Store", "valueOf", "(I)I"⟩, 14), (⟨"SkewedWays$Store", "put", "(III)V"⟩, 14), (⟨"SkewedWays", "placeHeld", "(I)I"⟩, 14), (⟨"SkewedWays$Store", "makeEmpty", "(I)V"⟩, 14), (⟨"SkewedWays$Store", "coolAll", "()I"⟩, 14), (⟨"SkewedWays", "isWay", "(I)Z"⟩, 14), (⟨"SkewedWays$Store", "tradeWays", "(II)V"⟩, 14), (⟨"SkewedWays$Store", "emptyAll", "()I"⟩, 14), (⟨"SkewedWays$Store", "slotsInAll", "()I"⟩, 14), (⟨"SkewedWays$Worth", "rankOfAll", "(LSkewedWays$Store;)I"⟩, 2), (⟨"SkewedWays$Worth", "addMasks", "(LSkewedWays$Store;II)I"⟩, 2), (⟨"SkewedWays$Worth", "rankOfRows", "(I)I"⟩, 2)]
theorem lw_r3 : ∀ q ∈ lw_privs_3, lw_okq q := List.forall_mem_cons.mpr ⟨lw_p32, List.forall_mem_cons.mpr ⟨lw_p33, List.forall_mem_cons.mpr ⟨lw_p34, List.forall_mem_cons.mpr ⟨lw_p35, List.forall_mem_cons.mpr ⟨lw_p36, List.forall_mem_cons.mpr ⟨lw_p37, List.forall_mem_cons.mpr ⟨lw_p38, List.forall_mem_cons.mpr ⟨lw_p39, List.forall_mem_cons.mpr ⟨lw_p40, List.forall_mem_cons.mpr ⟨lw_p41, List.forall_mem_cons.mpr ⟨lw_p42, List.forall_mem_cons.mpr ⟨lw_p43, List.forall_mem_cons.mpr ⟨lw_p44, List.forall_mem_cons.mpr ⟨lw_p45, List.forall_mem_cons.mpr ⟨lw_p46, List.forall_mem_cons.mpr ⟨lw_p47, fun _ h => absurd h List.not_mem_nil⟩⟩⟩⟩⟩⟩⟩⟩⟩⟩⟩⟩⟩⟩⟩⟩
theorem lw_p48 : lw_okq (⟨"SkewedWays$Worth", "clearBelow", "(II)V"⟩, 2) := ⟨⟨by decide +kernel, by decide +kernel⟩, List.mem_of_getElem? (i := 190) (by decide +kernel), List.mem_of_getElem? (i := 629) (by decide +kernel), List.mem_of_getElem? (i := 630) (by decide +kernel)⟩
theorem lw_p49 : lw_okq (⟨"SkewedWays", "isMask", "(II)Z"⟩, 14) := ⟨⟨by decide +kernel, by decide +kernel⟩, List.mem_of_getElem? (i := 18) (by decide +kernel), List.mem_of_getElem? (i := 637) (by decide +kernel), List.mem_of_getElem? (i := 638) (by decide +kernel)⟩
theorem lw_p50 : lw_okq (⟨"SkewedWays$Worth", "rankOfTwo", "(LSkewedWays$Store;II)I"⟩, 2) := ⟨⟨by decide +kernel, by decide +kernel⟩, List.mem_of_getElem? (i := 190) (by decide +kernel), List.mem_of_getElem? (i := 642) (by decide +kernel), List.mem_of_getElem? (i := 643) (by decide +kernel)⟩
theorem lw_p51 : lw_okq (⟨"SkewedWays", "isTrace", "(I)Z"⟩, 14) := ⟨⟨by decide +kernel, by decide +kernel⟩, List.mem_of_getElem? (i := 18) (by decide +kernel), List.mem_of_getElem? (i := 657) (by decide +kernel), List.mem_of_getElem? (i := 658) (by decide +kernel)⟩
theorem lw_p52 : lw_okq (⟨"SkewedWays", "missesOn", "(LSkewedWays$Store;LSkewedWays$Trace;)I"⟩, 14) := ⟨⟨by decide +kernel, by decide +kernel⟩, List.mem_of_getElem? (i := 18) (by decide +kernel), List.mem_of_getElem? (i := 661) (by decide +kernel), List.mem_of_getElem? (i := 662) (by decide +kernel)⟩
theorem lw_p53 : lw_okq (⟨"SkewedWays$Whole", "takeBack", "()I"⟩, 8) := ⟨⟨by decide +kernel, by decide +kernel⟩, List.mem_of_getElem? (i := 26) (by decide +kernel), List.mem_of_getElem? (i := 669) (by decide +kernel), List.mem_of_getElem? (i := 670) (by decide +kernel)⟩
theorem lw_p54 : lw_okq (⟨"SkewedWays$Whole", "placeInSet", "(I)I"⟩, 8) := ⟨⟨by decide +kernel, by decide +kernel⟩, List.mem_of_getElem? (i := 26) (by decide +kernel), List.mem_of_getElem? (i := 681) (by decide +kernel), List.mem_of_getElem? (i := 682) (by decide +kernel)⟩
theorem lw_p55 : lw_okq (⟨"SkewedWays$Whole", "addToSet", "(I)V"⟩, 8) := ⟨⟨by decide +kernel, by decide +kernel⟩, List.mem_of_getElem? (i := 26) (by decide +kernel), List.mem_of_getElem? (i := 685) (by decide +kernel), List.mem_of_getElem? (i := 686) (by decide +kernel)⟩
theorem lw_p56 : lw_okq (⟨"SkewedWays$Whole", "collectFrom", "(LSkewedWays$Trace;)V"⟩, 8) := ⟨⟨by decide +kernel, by decide +kernel⟩, List.mem_of_getElem? (i := 26) (by decide +kernel), List.mem_of_getElem? (i := 693) (by decide +kernel), List.mem_of_getElem? (i := 694) (by decide +kernel)⟩
theorem lw_p57 : lw_okq (⟨"SkewedWays$Whole", "dropFromSet", "(I)V"⟩, 8) := ⟨⟨by decide +kernel, by decide +kernel⟩, List.mem_of_getElem? (i := 26) (by decide +kernel), List.mem_of_getElem? (i := 703) (by decide +kernel), List.mem_of_getElem? (i := 704) (by decide +kernel)⟩
theorem lw_p58 : lw_okq (⟨"SkewedWays$Store", "linesHeld", "()I"⟩, 14) := ⟨⟨by decide +kernel, by decide +kernel⟩, List.mem_of_getElem? (i := 32) (by decide +kernel), List.mem_of_getElem? (i := 711) (by decide +kernel), List.mem_of_getElem? (i := 712) (by decide +kernel)⟩
theorem lw_p59 : lw_okq (⟨"SkewedWays$Store", "linesPinned", "()I"⟩, 14) := ⟨⟨by decide +kernel, by decide +kernel⟩, List.mem_of_getElem? (i := 32) (by decide +kernel), List.mem_of_getElem? (i := 715) (by decide +kernel), List.mem_of_getElem? (i := 716) (by decide +kernel)⟩
theorem lw_p60 : lw_okq (⟨"SkewedWays$Store", "slotsOfWay", "()I"⟩, 14) := ⟨⟨by decide +kernel, by decide +kernel⟩, List.mem_of_getElem? (i := 32) (by decide +kernel), List.mem_of_getElem? (i := 732) (by decide +kernel), List.mem_of_getElem? (i := 733) (by decide +kernel)⟩
theorem lw_p61 : lw_okq (⟨"SkewedWays$Store", "areTwins", "(II)Z"⟩, 14) := ⟨⟨by decide +kernel, by decide +kernel⟩, List.mem_of_getElem? (i := 32) (by decide +kernel), List.mem_of_getElem? (i := 769) (by decide +kernel), List.mem_of_getElem? (i := 770) (by decide +kernel)⟩
theorem lw_p62 : lw_okq (⟨"SkewedWays$Store", "waysShared", "(II)I"⟩, 14) := ⟨⟨by decide +kernel, by decide +kernel⟩, List.mem_of_getElem? (i := 32) (by decide +kernel), List.mem_of_getElem? (i := 781) (by decide +kernel), List.mem_of_getElem? (i := 782) (by decide +kernel)⟩
theorem lw_p63 : lw_okq (⟨"SkewedWays$Worth", "layOut", "(LSkewedWays$Store;III)V"⟩, 2) := ⟨⟨by decide +kernel, by decide +kernel⟩, List.mem_of_getElem? (i := 190) (by decide +kernel), List.mem_of_getElem? (i := 795) (by decide +kernel), List.mem_of_getElem? (i := 796) (by decide +kernel)⟩
def lw_privs_4 : List (MethodName × Nat) := [(⟨"SkewedWays$Worth", "clearBelow", "(II)V"⟩, 2), (⟨"SkewedWays", "isMask", "(II)Z"⟩, 14), (⟨"SkewedWays$Worth", "rankOfTwo", "(LSkewedWays$Store;II)I"⟩, 2), (⟨"SkewedWays", "isTrace", "(I)Z"⟩, 14), (⟨"SkewedWays", "missesOn", "(LSkewedWays$Store;LSkewedWays$Trace;)I"⟩, 14), (⟨"SkewedWays$Whole", "takeBack", "()I"⟩, 8), (⟨"SkewedWays$Whole", "placeInSet", "(I)I"⟩, 8), (⟨"SkewedWays$Whole", "addToSet", "(I)V"⟩, 8), (⟨"SkewedWays$Whole", "collectFrom", "(LSkewedWays$Trace;)V"⟩, 8), (⟨"SkewedWays$Whole", "dropFromSet", "(I)V"⟩, 8), (⟨"SkewedWays$Store", "linesHeld", "()I"⟩, 14), (⟨"SkewedWays$Store", "linesPinned", "()I"⟩, 14), (⟨"SkewedWays$Store", "slotsOfWay", "()I"⟩, 14), (⟨"SkewedWays$Store", "areTwins", "(II)Z"⟩, 14), (⟨"SkewedWays$Store", "waysShared", "(II)I"⟩, 14), (⟨"SkewedWays$Worth", "layOut", "(LSkewedWays$Store;III)V"⟩, 2)]
theorem lw_r4 : ∀ q ∈ lw_privs_4, lw_okq q := List.forall_mem_cons.mpr ⟨lw_p48, List.forall_mem_cons.mpr ⟨lw_p49, List.forall_mem_cons.mpr ⟨lw_p50, List.forall_mem_cons.mpr ⟨lw_p51, List.forall_mem_cons.mpr ⟨lw_p52, List.forall_mem_cons.mpr ⟨lw_p53, List.forall_mem_cons.mpr ⟨lw_p54, List.forall_mem_cons.mpr ⟨lw_p55, List.forall_mem_cons.mpr ⟨lw_p56, List.forall_mem_cons.mpr ⟨lw_p57, List.forall_mem_cons.mpr ⟨lw_p58, List.forall_mem_cons.mpr ⟨lw_p59, List.forall_mem_cons.mpr ⟨lw_p60, List.forall_mem_cons.mpr ⟨lw_p61, List.forall_mem_cons.mpr ⟨lw_p62, List.forall_mem_cons.mpr ⟨lw_p63, fun _ h => absurd h List.not_mem_nil⟩⟩⟩⟩⟩⟩⟩⟩⟩⟩⟩⟩⟩⟩⟩⟩
theorem lw_p64 : lw_okq (⟨"SkewedWays$Worth", "slotsUsed", "()I"⟩, 2) := ⟨⟨by decide +kernel, by decide +kernel⟩, List.mem_of_getElem? (i := 190) (by decide +kernel), List.mem_of_getElem? (i := 801) (by decide +kernel), List.mem_of_getElem? (i := 802) (by decide +kernel)⟩
theorem lw_p65 : lw_okq (⟨"SkewedWays$Worth", "mostInOne", "()I"⟩, 2) := ⟨⟨by decide +kernel, by decide +kernel⟩, List.mem_of_getElem? (i := 190) (by decide +kernel), List.mem_of_getElem? (i := 805) (by decide +kernel), List.mem_of_getElem? (i := 806) (by decide +kernel)⟩
theorem lw_p66 : lw_okq (⟨"SkewedWays$Worth", "evenStrides", "(LSkewedWays$Store;I)I"⟩, 2) := ⟨⟨by decide +kernel, by decide +kernel⟩, List.mem_of_getElem? (i := 190) (by decide +kernel), List.mem_of_getElem? (i := 814) (by decide +kernel), List.mem_of_getElem? (i := 815) (by decide +kernel)⟩
theorem lw_p67 : lw_okq (⟨"SkewedWays$Worth", "isEven", "(LSkewedWays$Store;II)Z"⟩, 2) := ⟨⟨by decide +kernel, by decide +kernel⟩, List.mem_of_getElem? (i := 190) (by decide +kernel), List.mem_of_getElem? (i := 818) (by decide +kernel), List.mem_of_getElem? (i := 819) (by decide +kernel)⟩
theorem lw_p68 : lw_okq (⟨"SkewedWays$Worth", "isEvenInAll", "(LSkewedWays$Store;I)Z"⟩, 2) := ⟨⟨by decide +kernel, by decide +kernel⟩, List.mem_of_getElem? (i := 190) (by decide +kernel), List.mem_of_getElem? (i := 827) (by decide +kernel), List.mem_of_getElem? (i := 828) (by decide +kernel)⟩
theorem lw_p69 : lw_okq (⟨"SkewedWays$Worth", "slotsScattered", "(LSkewedWays$Store;III)I"⟩, 2) := ⟨⟨by decide +kernel, by decide +kernel⟩, List.mem_of_getElem? (i := 190) (by decide +kernel), List.mem_of_getElem? (i := 835) (by decide +kernel), List.mem_of_getElem? (i := 836) (by decide +kernel)⟩
theorem lw_p70 : lw_okq (⟨"SkewedWays$Worth", "worstStride", "(LSkewedWays$Store;II)I"⟩, 2) := ⟨⟨by decide +kernel, by decide +kernel⟩, List.mem_of_getElem? (i := 190) (by decide +kernel), List.mem_of_getElem? (i := 844) (by decide +kernel), List.mem_of_getElem? (i := 845) (by decide +kernel)⟩
theorem lw_p71 : lw_okq (⟨"SkewedWays$Worth", "evenIfFlipped", "(LSkewedWays$Store;III)I"⟩, 2) := ⟨⟨by decide +kernel, by decide +kernel⟩, List.mem_of_getElem? (i := 190) (by decide +kernel), List.mem_of_getElem? (i := 854) (by decide +kernel), List.mem_of_getElem? (i := 855) (by decide +kernel)⟩
theorem lw_p72 : lw_okq (⟨"SkewedWays$Worth", "bestFlipOf", "(LSkewedWays$Store;I)I"⟩, 2) := ⟨⟨by decide +kernel, by decide +kernel⟩, List.mem_of_getElem? (i := 190) (by decide +kernel), List.mem_of_getElem? (i := 863) (by decide +kernel), List.mem_of_getElem? (i := 864) (by decide +kernel)⟩
theorem lw_p73 : lw_okq (⟨"SkewedWays", "sweepTrial", "(III)V"⟩, 14) := ⟨⟨by decide +kernel, by decide +kernel⟩, List.mem_of_getElem? (i := 18) (by decide +kernel), List.mem_of_getElem? (i := 872) (by decide +kernel), List.mem_of_getElem? (i := 873) (by decide +kernel)⟩
theorem lw_p74 : lw_okq (⟨"SkewedWays$Seating", "clear", "()V"⟩, 6) := ⟨⟨by decide +kernel, by decide +kernel⟩, List.mem_of_getElem? (i := 203) (by decide +kernel), List.mem_of_getElem? (i := 893) (by decide +kernel), List.mem_of_getElem? (i := 894) (by decide +kernel)⟩
theorem lw_p75 : lw_okq (⟨"SkewedWays$Seating", "admit", "(LSkewedWays$Store;I)Z"⟩, 6) := ⟨⟨by decide +kernel, by decide +kernel⟩, List.mem_of_getElem? (i := 203) (by decide +kernel), List.mem_of_getElem? (i := 898) (by decide +kernel), List.mem_of_getElem? (i := 899) (by decide +kernel)⟩
theorem lw_p76 : lw_okq (⟨"SkewedWays$Seating", "shiftTo", "(I)V"⟩, 6) := ⟨⟨by decide +kernel, by decide +kernel⟩, List.mem_of_getElem? (i := 203) (by decide +kernel), List.mem_of_getElem? (i := 903) (by decide +kernel), List.mem_of_getElem? (i := 904) (by decide +kernel)⟩
theorem lw_p77 : lw_okq (⟨"SkewedWays$Worth", "crowdedSlot", "(LSkewedWays$Store;I[II)I"⟩, 2) := ⟨⟨by decide +kernel, by decide +kernel⟩, List.mem_of_getElem? (i := 190) (by decide +kernel), List.mem_of_getElem? (i := 911) (by decide +kernel), List.mem_of_getElem? (i := 912) (by decide +kernel)⟩
theorem lw_p78 : lw_okq (⟨"SkewedWays$Worth", "inSlot", "(I)I"⟩, 2) := ⟨⟨by decide +kernel, by decide +kernel⟩, List.mem_of_getElem? (i := 190) (by decide +kernel), List.mem_of_getElem? (i := 915) (by decide +kernel), List.mem_of_getElem? (i := 916) (by decide +kernel)⟩
theorem lw_p79 : lw_okq (⟨"SkewedWays$Worth", "fitPlainly", "(LSkewedWays$Store;[II)I"⟩, 2) := ⟨⟨by decide +kernel, by decide +kernel⟩, List.mem_of_getElem? (i := 190) (by decide +kernel), List.mem_of_getElem? (i := 931) (by decide +kernel), List.mem_of_getElem? (i := 932) (by decide +kernel)⟩
def lw_privs_5 : List (MethodName × Nat) := [(⟨"SkewedWays$Worth", "slotsUsed", "()I"⟩, 2), (⟨"SkewedWays$Worth", "mostInOne", "()I"⟩, 2), (⟨"SkewedWays$Worth", "evenStrides", "(LSkewedWays$Store;I)I"⟩, 2), (⟨"SkewedWays$Worth", "isEven", "(LSkewedWays$Store;II)Z"⟩, 2), (⟨"SkewedWays$Worth", "isEvenInAll", "(LSkewedWays$Store;I)Z"⟩, 2), (⟨"SkewedWays$Worth", "slotsScattered", "(LSkewedWays$Store;III)I"⟩, 2), (⟨"SkewedWays$Worth", "worstStride", "(LSkewedWays$Store;II)I"⟩, 2), (⟨"SkewedWays$Worth", "evenIfFlipped", "(LSkewedWays$Store;III)I"⟩, 2), (⟨"SkewedWays$Worth", "bestFlipOf", "(LSkewedWays$Store;I)I"⟩, 2), (⟨"SkewedWays", "sweepTrial", "(III)V"⟩, 14), (⟨"SkewedWays$Seating", "clear", "()V"⟩, 6), (⟨"SkewedWays$Seating", "admit", "(LSkewedWays$Store;I)Z"⟩, 6), (⟨"SkewedWays$Seating", "shiftTo", "(I)V"⟩, 6), (⟨"SkewedWays$Worth", "crowdedSlot", "(LSkewedWays$Store;I[II)I"⟩, 2), (⟨"SkewedWays$Worth", "inSlot", "(I)I"⟩, 2), (⟨"SkewedWays$Worth", "fitPlainly", "(LSkewedWays$Store;[II)I"⟩, 2)]
theorem lw_r5 : ∀ q ∈ lw_privs_5, lw_okq q := List.forall_mem_cons.mpr ⟨lw_p64, List.forall_mem_cons.mpr ⟨lw_p65, List.forall_mem_cons.mpr ⟨lw_p66, List.forall_mem_cons.mpr ⟨lw_p67, List.forall_mem_cons.mpr ⟨lw_p68, List.forall_mem_cons.mpr ⟨lw_p69, List.forall_mem_cons.mpr ⟨lw_p70, List.forall_mem_cons.mpr ⟨lw_p71, List.forall_mem_cons.mpr ⟨lw_p72, List.forall_mem_cons.mpr ⟨lw_p73, List.forall_mem_cons.mpr ⟨lw_p74, List.forall_mem_cons.mpr ⟨lw_p75, List.forall_mem_cons.mpr ⟨lw_p76, List.forall_mem_cons.mpr ⟨lw_p77, List.forall_mem_cons.mpr ⟨lw_p78, List.forall_mem_cons.mpr ⟨lw_p79, fun _ h => absurd h List.not_mem_nil⟩⟩⟩⟩⟩⟩⟩⟩⟩⟩⟩⟩⟩⟩⟩⟩
theorem lw_p80 : lw_okq (⟨"SkewedWays", "partIntoPieces", "()V"⟩, 14) := ⟨⟨by decide +kernel, by decide +kernel⟩, List.mem_of_getElem? (i := 18) (by decide +kernel), List.mem_of_getElem? (i := 940) (by decide +kernel), List.mem_of_getElem? (i := 941) (by decide +kernel)⟩
theorem lw_p81 : lw_okq (⟨"SkewedWays", "joinPieces", "(II)V"⟩, 14) := ⟨⟨by decide +kernel, by decide +kernel⟩, List.mem_of_getElem? (i := 18) (by decide +kernel), List.mem_of_getElem? (i := 944) (by decide +kernel), List.mem_of_getElem? (i := 945) (by decide +kernel)⟩
theorem lw_p82 : lw_okq (⟨"SkewedWays$Search", "lookUnlessHeld", "(LSkewedWays$Store;II)V"⟩, 4) := ⟨⟨by decide +kernel, by decide +kernel⟩, List.mem_of_getElem? (i := 165) (by decide +kernel), List.mem_of_getElem? (i := 956) (by decide +kernel), List.mem_of_getElem? (i := 957) (by decide +kernel)⟩
theorem lw_p83 : lw_okq (⟨"SkewedWays$Study", "mostUnlike", "(LSkewedWays$Trace;I)I"⟩, 5) := ⟨⟨by decide +kernel, by decide +kernel⟩, List.mem_of_getElem? (i := 229) (by decide +kernel), List.mem_of_getElem? (i := 987) (by decide +kernel), List.mem_of_getElem? (i := 988) (by decide +kernel)⟩
theorem lw_p84 : lw_okq (⟨"SkewedWays$Trace", "written", "()I"⟩, 3) := ⟨⟨by decide +kernel, by decide +kernel⟩, List.mem_of_getElem? (i := 106) (by decide +kernel), List.mem_of_getElem? (i := 997) (by decide +kernel), List.mem_of_getElem? (i := 998) (by decide +kernel)⟩
theorem lw_p85 : lw_okq (⟨"SkewedWays$Study", "hottestLine", "(LSkewedWays$Trace;)I"⟩, 5) := ⟨⟨by decide +kernel, by decide +kernel⟩, List.mem_of_getElem? (i := 229) (by decide +kernel), List.mem_of_getElem? (i := 1009) (by decide +kernel), List.mem_of_getElem? (i := 1010) (by decide +kernel)⟩
theorem lw_p86 : lw_okq (⟨"SkewedWays", "missesForetold", "(LSkewedWays$Trace;I)I"⟩, 14) := ⟨⟨by decide +kernel, by decide +kernel⟩, List.mem_of_getElem? (i := 18) (by decide +kernel), List.mem_of_getElem? (i := 1021) (by decide +kernel), List.mem_of_getElem? (i := 1022) (by decide +kernel)⟩
theorem lw_p87 : lw_okq (⟨"SkewedWays", "missesByFamily", "(LSkewedWays$Trace;I)I"⟩, 14) := ⟨⟨by decide +kernel, by decide +kernel⟩, List.mem_of_getElem? (i := 18) (by decide +kernel), List.mem_of_getElem? (i := 1033) (by decide +kernel), List.mem_of_getElem? (i := 1034) (by decide +kernel)⟩
theorem lw_p88 : lw_okq (⟨"SkewedWays$Study", "fewestMisses", "(LSkewedWays$Trace;I)I"⟩, 5) := ⟨⟨by decide +kernel, by decide +kernel⟩, List.mem_of_getElem? (i := 229) (by decide +kernel), List.mem_of_getElem? (i := 1041) (by decide +kernel), List.mem_of_getElem? (i := 1042) (by decide +kernel)⟩
theorem lw_p89 : lw_okq (⟨"SkewedWays$Study", "findNextUses", "(LSkewedWays$Trace;)V"⟩, 5) := ⟨⟨by decide +kernel, by decide +kernel⟩, List.mem_of_getElem? (i := 229) (by decide +kernel), List.mem_of_getElem? (i := 1045) (by decide +kernel), List.mem_of_getElem? (i := 1046) (by decide +kernel)⟩
theorem lw_p90 : lw_okq (⟨"SkewedWays$Study", "placeHolding", "(I)I"⟩, 5) := ⟨⟨by decide +kernel, by decide +kernel⟩, List.mem_of_getElem? (i := 229) (by decide +kernel), List.mem_of_getElem? (i := 1049) (by decide +kernel), List.mem_of_getElem? (i := 1050) (by decide +kernel)⟩
theorem lw_p91 : lw_okq (⟨"SkewedWays$Study", "placeToFill", "(I)I"⟩, 5) := ⟨⟨by decide +kernel, by decide +kernel⟩, List.mem_of_getElem? (i := 229) (by decide +kernel), List.mem_of_getElem? (i := 1053) (by decide +kernel), List.mem_of_getElem? (i := 1054) (by decide +kernel)⟩
theorem lw_p92 : lw_okq (⟨"SkewedWays$Study", "distanceAt", "(LSkewedWays$Trace;I)I"⟩, 5) := ⟨⟨by decide +kernel, by decide +kernel⟩, List.mem_of_getElem? (i := 229) (by decide +kernel), List.mem_of_getElem? (i := 1061) (by decide +kernel), List.mem_of_getElem? (i := 1062) (by decide +kernel)⟩
theorem lw_p93 : lw_okq (⟨"SkewedWays$Study", "missesByRecency", "(LSkewedWays$Trace;I)I"⟩, 5) := ⟨⟨by decide +kernel, by decide +kernel⟩, List.mem_of_getElem? (i := 229) (by decide +kernel), List.mem_of_getElem? (i := 1069) (by decide +kernel), List.mem_of_getElem? (i := 1070) (by decide +kernel)⟩
theorem lw_p94 : lw_okq (⟨"SkewedWaysModel", "layFamily", "(I)V"⟩, 31) := ⟨⟨by decide +kernel, by decide +kernel⟩, List.mem_of_getElem? (i := 1095) (by decide +kernel), List.mem_of_getElem? (i := 1101) (by decide +kernel), List.mem_of_getElem? (i := 1102) (by decide +kernel)⟩
theorem lw_p95 : lw_okq (⟨"SkewedWaysModel", "maskBy", "(III)I"⟩, 31) := ⟨⟨by decide +kernel, by decide +kernel⟩, List.mem_of_getElem? (i := 1095) (by decide +kernel), List.mem_of_getElem? (i := 1108) (by decide +kernel), List.mem_of_getElem? (i := 1109) (by decide +kernel)⟩
def lw_privs_6 : List (MethodName × Nat) := [(⟨"SkewedWays", "partIntoPieces", "()V"⟩, 14), (⟨"SkewedWays", "joinPieces", "(II)V"⟩, 14), (⟨"SkewedWays$Search", "lookUnlessHeld", "(LSkewedWays$Store;II)V"⟩, 4), (⟨"SkewedWays$Study", "mostUnlike", "(LSkewedWays$Trace;I)I"⟩, 5), (⟨"SkewedWays$Trace", "written", "()I"⟩, 3), (⟨"SkewedWays$Study", "hottestLine", "(LSkewedWays$Trace;)I"⟩, 5), (⟨"SkewedWays", "missesForetold", "(LSkewedWays$Trace;I)I"⟩, 14), (⟨"SkewedWays", "missesByFamily", "(LSkewedWays$Trace;I)I"⟩, 14), (⟨"SkewedWays$Study", "fewestMisses", "(LSkewedWays$Trace;I)I"⟩, 5), (⟨"SkewedWays$Study", "findNextUses", "(LSkewedWays$Trace;)V"⟩, 5), (⟨"SkewedWays$Study", "placeHolding", "(I)I"⟩, 5), (⟨"SkewedWays$Study", "placeToFill", "(I)I"⟩, 5), (⟨"SkewedWays$Study", "distanceAt", "(LSkewedWays$Trace;I)I"⟩, 5), (⟨"SkewedWays$Study", "missesByRecency", "(LSkewedWays$Trace;I)I"⟩, 5), (⟨"SkewedWaysModel", "layFamily", "(I)V"⟩, 31), (⟨"SkewedWaysModel", "maskBy", "(III)I"⟩, 31)]
theorem lw_r6 : ∀ q ∈ lw_privs_6, lw_okq q := List.forall_mem_cons.mpr ⟨lw_p80, List.forall_mem_cons.mpr ⟨lw_p81, List.forall_mem_cons.mpr ⟨lw_p82, List.forall_mem_cons.mpr ⟨lw_p83, List.forall_mem_cons.mpr ⟨lw_p84, List.forall_mem_cons.mpr ⟨lw_p85, List.forall_mem_cons.mpr ⟨lw_p86, List.forall_mem_cons.mpr ⟨lw_p87, List.forall_mem_cons.mpr ⟨lw_p88, List.forall_mem_cons.mpr ⟨lw_p89, List.forall_mem_cons.mpr ⟨lw_p90, List.forall_mem_cons.mpr ⟨lw_p91, List.forall_mem_cons.mpr ⟨lw_p92, List.forall_mem_cons.mpr ⟨lw_p93, List.forall_mem_cons.mpr ⟨lw_p94, List.forall_mem_cons.mpr ⟨lw_p95, fun _ h => absurd h List.not_mem_nil⟩⟩⟩⟩⟩⟩⟩⟩⟩⟩⟩⟩⟩⟩⟩⟩
theorem lw_p96 : lw_okq (⟨"SkewedWaysModel", "drawn", "()I"⟩, 31) := ⟨⟨by decide +kernel, by decide +kernel⟩, List.mem_of_getElem? (i := 1095) (by decide +kernel), List.mem_of_getElem? (i := 1112) (by decide +kernel), List.mem_of_getElem? (i := 1113) (by decide +kernel)⟩
theorem lw_p97 : lw_okq (⟨"SkewedWaysModel", "four", "(I)V"⟩, 31) := ⟨⟨by decide +kernel, by decide +kernel⟩, List.mem_of_getElem? (i := 1095) (by decide +kernel), List.mem_of_getElem? (i := 1218) (by decide +kernel), List.mem_of_getElem? (i := 1219) (by decide +kernel)⟩
theorem lw_p98 : lw_okq (⟨"SkewedWaysModel", "readText", "()I"⟩, 31) := ⟨⟨by decide +kernel, by decide +kernel⟩, List.mem_of_getElem? (i := 1095) (by decide +kernel), List.mem_of_getElem? (i := 1233) (by decide +kernel), List.mem_of_getElem? (i := 1234) (by decide +kernel)⟩
theorem lw_p99 : lw_okq (⟨"SkewedWaysModel", "nextToken", "()V"⟩, 31) := ⟨⟨by decide +kernel, by decide +kernel⟩, List.mem_of_getElem? (i := 1095) (by decide +kernel), List.mem_of_getElem? (i := 1237) (by decide +kernel), List.mem_of_getElem? (i := 1238) (by decide +kernel)⟩
theorem lw_p100 : lw_okq (⟨"SkewedWaysModel", "byteAt", "(I)I"⟩, 31) := ⟨⟨by decide +kernel, by decide +kernel⟩, List.mem_of_getElem? (i := 1095) (by decide +kernel), List.mem_of_getElem? (i := 1241) (by decide +kernel), List.mem_of_getElem? (i := 1242) (by decide +kernel)⟩
theorem lw_p101 : lw_okq (⟨"SkewedWaysModel", "item", "()I"⟩, 31) := ⟨⟨by decide +kernel, by decide +kernel⟩, List.mem_of_getElem? (i := 1095) (by decide +kernel), List.mem_of_getElem? (i := 1252) (by decide +kernel), List.mem_of_getElem? (i := 1253) (by decide +kernel)⟩
theorem lw_p102 : lw_okq (⟨"SkewedWaysModel", "askItem", "()I"⟩, 31) := ⟨⟨by decide +kernel, by decide +kernel⟩, List.mem_of_getElem? (i := 1095) (by decide +kernel), List.mem_of_getElem? (i := 1256) (by decide +kernel), List.mem_of_getElem? (i := 1257) (by decide +kernel)⟩
theorem lw_p103 : lw_okq (⟨"SkewedWaysModel", "numberIn", "(II)I"⟩, 31) := ⟨⟨by decide +kernel, by decide +kernel⟩, List.mem_of_getElem? (i := 1095) (by decide +kernel), List.mem_of_getElem? (i := 1260) (by decide +kernel), List.mem_of_getElem? (i := 1261) (by decide +kernel)⟩
theorem lw_p104 : lw_okq (⟨"SkewedWaysModel", "lay", "(II)V"⟩, 31) := ⟨⟨by decide +kernel, by decide +kernel⟩, List.mem_of_getElem? (i := 1095) (by decide +kernel), List.mem_of_getElem? (i := 1264) (by decide +kernel), List.mem_of_getElem? (i := 1265) (by decide +kernel)⟩
theorem lw_p105 : lw_okq (⟨"SkewedWaysModel", "writeItem", "()I"⟩, 31) := ⟨⟨by decide +kernel, by decide +kernel⟩, List.mem_of_getElem? (i := 1095) (by decide +kernel), List.mem_of_getElem? (i := 1268) (by decide +kernel), List.mem_of_getElem? (i := 1269) (by decide +kernel)⟩
theorem lw_p106 : lw_okq (⟨"SkewedWaysModel", "openItem", "()I"⟩, 31) := ⟨⟨by decide +kernel, by decide +kernel⟩, List.mem_of_getElem? (i := 1095) (by decide +kernel), List.mem_of_getElem? (i := 1272) (by decide +kernel), List.mem_of_getElem? (i := 1273) (by decide +kernel)⟩
theorem lw_p107 : lw_okq (⟨"SkewedWaysModel", "shutItem", "()I"⟩, 31) := ⟨⟨by decide +kernel, by decide +kernel⟩, List.mem_of_getElem? (i := 1095) (by decide +kernel), List.mem_of_getElem? (i := 1276) (by decide +kernel), List.mem_of_getElem? (i := 1277) (by decide +kernel)⟩
theorem lw_p108 : lw_okq (⟨"SkewedWaysModel", "keep", "()V"⟩, 31) := ⟨⟨by decide +kernel, by decide +kernel⟩, List.mem_of_getElem? (i := 1095) (by decide +kernel), List.mem_of_getElem? (i := 1298) (by decide +kernel), List.mem_of_getElem? (i := 1299) (by decide +kernel)⟩
theorem lw_p109 : lw_okq (⟨"SkewedWaysModel", "askNow", "(I)Z"⟩, 31) := ⟨⟨by decide +kernel, by decide +kernel⟩, List.mem_of_getElem? (i := 1095) (by decide +kernel), List.mem_of_getElem? (i := 1302) (by decide +kernel), List.mem_of_getElem? (i := 1303) (by decide +kernel)⟩
theorem lw_p110 : lw_okq (⟨"SkewedWaysModel", "placeWith", "(I)I"⟩, 31) := ⟨⟨by decide +kernel, by decide +kernel⟩, List.mem_of_getElem? (i := 1095) (by decide +kernel), List.mem_of_getElem? (i := 1306) (by decide +kernel), List.mem_of_getElem? (i := 1307) (by decide +kernel)⟩
theorem lw_p111 : lw_okq (⟨"SkewedWaysModel", "placeOf", "(II)I"⟩, 31) := ⟨⟨by decide +kernel, by decide +kernel⟩, List.mem_of_getElem? (i := 1095) (by decide +kernel), List.mem_of_getElem? (i := 1310) (by decide +kernel), List.mem_of_getElem? (i := 1311) (by decide +kernel)⟩
def lw_privs_7 : List (MethodName × Nat) := [(⟨"SkewedWaysModel", "drawn", "()I"⟩, 31), (⟨"SkewedWaysModel", "four", "(I)V"⟩, 31), (⟨"SkewedWaysModel", "readText", "()I"⟩, 31), (⟨"SkewedWaysModel", "nextToken", "()V"⟩, 31), (⟨"SkewedWaysModel", "byteAt", "(I)I"⟩, 31), (⟨"SkewedWaysModel", "item", "()I"⟩, 31), (⟨"SkewedWaysModel", "askItem", "()I"⟩, 31), (⟨"SkewedWaysModel", "numberIn", "(II)I"⟩, 31), (⟨"SkewedWaysModel", "lay", "(II)V"⟩, 31), (⟨"SkewedWaysModel", "writeItem", "()I"⟩, 31), (⟨"SkewedWaysModel", "openItem", "()I"⟩, 31), (⟨"SkewedWaysModel", "shutItem", "()I"⟩, 31), (⟨"SkewedWaysModel", "keep", "()V"⟩, 31), (⟨"SkewedWaysModel", "askNow", "(I)Z"⟩, 31), (⟨"SkewedWaysModel", "placeWith", "(I)I"⟩, 31), (⟨"SkewedWaysModel", "placeOf", "(II)I"⟩, 31)]
theorem lw_r7 : ∀ q ∈ lw_privs_7, lw_okq q := List.forall_mem_cons.mpr ⟨lw_p96, List.forall_mem_cons.mpr ⟨lw_p97, List.forall_mem_cons.mpr ⟨lw_p98, List.forall_mem_cons.mpr ⟨lw_p99, List.forall_mem_cons.mpr ⟨lw_p100, List.forall_mem_cons.mpr ⟨lw_p101, List.forall_mem_cons.mpr ⟨lw_p102, List.forall_mem_cons.mpr ⟨lw_p103, List.forall_mem_cons.mpr ⟨lw_p104, List.forall_mem_cons.mpr ⟨lw_p105, List.forall_mem_cons.mpr ⟨lw_p106, List.forall_mem_cons.mpr ⟨lw_p107, List.forall_mem_cons.mpr ⟨lw_p108, List.forall_mem_cons.mpr ⟨lw_p109, List.forall_mem_cons.mpr ⟨lw_p110, List.forall_mem_cons.mpr ⟨lw_p111, fun _ h => absurd h List.not_mem_nil⟩⟩⟩⟩⟩⟩⟩⟩⟩⟩⟩⟩⟩⟩⟩⟩
theorem lw_p112 : lw_okq (⟨"SkewedWaysModel", "indexOf", "(II)I"⟩, 31) := ⟨⟨by decide +kernel, by decide +kernel⟩, List.mem_of_getElem? (i := 1095) (by decide +kernel), List.mem_of_getElem? (i := 1314) (by decide +kernel), List.mem_of_getElem? (i := 1315) (by decide +kernel)⟩
theorem lw_p113 : lw_okq (⟨"SkewedWaysModel", "lineAt", "(I)I"⟩, 31) := ⟨⟨by decide +kernel, by decide +kernel⟩, List.mem_of_getElem? (i := 1095) (by decide +kernel), List.mem_of_getElem? (i := 1321) (by decide +kernel), List.mem_of_getElem? (i := 1322) (by decide +kernel)⟩
theorem lw_p114 : lw_okq (⟨"SkewedWaysModel", "layFound", "(II)V"⟩, 31) := ⟨⟨by decide +kernel, by decide +kernel⟩, List.mem_of_getElem? (i := 1095) (by decide +kernel), List.mem_of_getElem? (i := 1328) (by decide +kernel), List.mem_of_getElem? (i := 1329) (by decide +kernel)⟩
theorem lw_p115 : lw_okq (⟨"SkewedWaysModel", "find", "(II)V"⟩, 31) := ⟨⟨by decide +kernel, by decide +kernel⟩, List.mem_of_getElem? (i := 1095) (by decide +kernel), List.mem_of_getElem? (i := 1332) (by decide +kernel), List.mem_of_getElem? (i := 1333) (by decide +kernel)⟩
theorem lw_p116 : lw_okq (⟨"SkewedWaysModel", "comeIn", "(I)V"⟩, 31) := ⟨⟨by decide +kernel, by decide +kernel⟩, List.mem_of_getElem? (i := 1095) (by decide +kernel), List.mem_of_getElem? (i := 1336) (by decide +kernel), List.mem_of_getElem? (i := 1337) (by decide +kernel)⟩
theorem lw_p117 : lw_okq (⟨"SkewedWaysModel", "taken", "()I"⟩, 31) := ⟨⟨by decide +kernel, by decide +kernel⟩, List.mem_of_getElem? (i := 1095) (by decide +kernel), List.mem_of_getElem? (i := 1340) (by decide +kernel), List.mem_of_getElem? (i := 1341) (by decide +kernel)⟩
theorem lw_p118 : lw_okq (⟨"SkewedWaysModel", "goesBack", "(I)Z"⟩, 31) := ⟨⟨by decide +kernel, by decide +kernel⟩, List.mem_of_getElem? (i := 1095) (by decide +kernel), List.mem_of_getElem? (i := 1344) (by decide +kernel), List.mem_of_getElem? (i := 1345) (by decide +kernel)⟩
theorem lw_p119 : lw_okq (⟨"SkewedWaysModel", "layLine", "(II)V"⟩, 31) := ⟨⟨by decide +kernel, by decide +kernel⟩, List.mem_of_getElem? (i := 1095) (by decide +kernel), List.mem_of_getElem? (i := 1348) (by decide +kernel), List.mem_of_getElem? (i := 1349) (by decide +kernel)⟩
theorem lw_p120 : lw_okq (⟨"SkewedWaysModel", "writeDown", "(IIII)V"⟩, 31) := ⟨⟨by decide +kernel, by decide +kernel⟩, List.mem_of_getElem? (i := 1095) (by decide +kernel), List.mem_of_getElem? (i := 1352) (by decide +kernel), List.mem_of_getElem? (i := 1353) (by decide +kernel)⟩
theorem lw_p121 : lw_okq (⟨"SkewedWaysModel", "valueOf", "(I)I"⟩, 31) := ⟨⟨by decide +kernel, by decide +kernel⟩, List.mem_of_getElem? (i := 1095) (by decide +kernel), List.mem_of_getElem? (i := 1356) (by decide +kernel), List.mem_of_getElem? (i := 1357) (by decide +kernel)⟩
theorem lw_p122 : lw_okq (⟨"SkewedWaysModel", "writeNow", "(II)Z"⟩, 31) := ⟨⟨by decide +kernel, by decide +kernel⟩, List.mem_of_getElem? (i := 1095) (by decide +kernel), List.mem_of_getElem? (i := 1364) (by decide +kernel), List.mem_of_getElem? (i := 1365) (by decide +kernel)⟩
theorem lw_p123 : lw_okq (⟨"SkewedWaysModel", "isDirty", "(I)Z"⟩, 31) := ⟨⟨by decide +kernel, by decide +kernel⟩, List.mem_of_getElem? (i := 1095) (by decide +kernel), List.mem_of_getElem? (i := 1376) (by decide +kernel), List.mem_of_getElem? (i := 1377) (by decide +kernel)⟩
theorem lw_p124 : lw_okq (⟨"SkewedWaysModel", "isWay", "(I)Z"⟩, 31) := ⟨⟨by decide +kernel, by decide +kernel⟩, List.mem_of_getElem? (i := 1095) (by decide +kernel), List.mem_of_getElem? (i := 1392) (by decide +kernel), List.mem_of_getElem? (i := 1393) (by decide +kernel)⟩
theorem lw_p125 : lw_okq (⟨"SkewedWaysModel", "change", "(II)V"⟩, 31) := ⟨⟨by decide +kernel, by decide +kernel⟩, List.mem_of_getElem? (i := 1095) (by decide +kernel), List.mem_of_getElem? (i := 1396) (by decide +kernel), List.mem_of_getElem? (i := 1397) (by decide +kernel)⟩
theorem lw_p126 : lw_okq (⟨"SkewedWaysModel", "emptyNow", "()I"⟩, 31) := ⟨⟨by decide +kernel, by decide +kernel⟩, List.mem_of_getElem? (i := 1095) (by decide +kernel), List.mem_of_getElem? (i := 1404) (by decide +kernel), List.mem_of_getElem? (i := 1405) (by decide +kernel)⟩
theorem lw_p127 : lw_okq (⟨"SkewedWaysModel", "slotsAll", "()I"⟩, 31) := ⟨⟨by decide +kernel, by decide +kernel⟩, List.mem_of_getElem? (i := 1095) (by decide +kernel), List.mem_of_getElem? (i := 1412) (by decide +kernel), List.mem_of_getElem? (i := 1413) (by decide +kernel)⟩
def lw_privs_8 : List (MethodName × Nat) := [(⟨"SkewedWaysModel", "indexOf", "(II)I"⟩, 31), (⟨"SkewedWaysModel", "lineAt", "(I)I"⟩, 31), (⟨"SkewedWaysModel", "layFound", "(II)V"⟩, 31), (⟨"SkewedWaysModel", "find", "(II)V"⟩, 31), (⟨"SkewedWaysModel", "comeIn", "(I)V"⟩, 31), (⟨"SkewedWaysModel", "taken", "()I"⟩, 31), (⟨"SkewedWaysModel", "goesBack", "(I)Z"⟩, 31), (⟨"SkewedWaysModel", "layLine", "(II)V"⟩, 31), (⟨"SkewedWaysModel", "writeDown", "(IIII)V"⟩, 31), (⟨"SkewedWaysModel", "valueOf", "(I)I"⟩, 31), (⟨"SkewedWaysModel", "writeNow", "(II)Z"⟩, 31), (⟨"SkewedWaysModel", "isDirty", "(I)Z"⟩, 31), (⟨"SkewedWaysModel", "isWay", "(I)Z"⟩, 31), (⟨"SkewedWaysModel", "change", "(II)V"⟩, 31), (⟨"SkewedWaysModel", "emptyNow", "()I"⟩, 31), (⟨"SkewedWaysModel", "slotsAll", "()I"⟩, 31)]
theorem lw_r8 : ∀ q ∈ lw_privs_8, lw_okq q := List.forall_mem_cons.mpr ⟨lw_p112, List.forall_mem_cons.mpr ⟨lw_p113, List.forall_mem_cons.mpr ⟨lw_p114, List.forall_mem_cons.mpr ⟨lw_p115, List.forall_mem_cons.mpr ⟨lw_p116, List.forall_mem_cons.mpr ⟨lw_p117, List.forall_mem_cons.mpr ⟨lw_p118, List.forall_mem_cons.mpr ⟨lw_p119, List.forall_mem_cons.mpr ⟨lw_p120, List.forall_mem_cons.mpr ⟨lw_p121, List.forall_mem_cons.mpr ⟨lw_p122, List.forall_mem_cons.mpr ⟨lw_p123, List.forall_mem_cons.mpr ⟨lw_p124, List.forall_mem_cons.mpr ⟨lw_p125, List.forall_mem_cons.mpr ⟨lw_p126, List.forall_mem_cons.mpr ⟨lw_p127, fun _ h => absurd h List.not_mem_nil⟩⟩⟩⟩⟩⟩⟩⟩⟩⟩⟩⟩⟩⟩⟩⟩
theorem lw_p128 : lw_okq (⟨"SkewedWaysModel", "slotsOf", "()I"⟩, 31) := ⟨⟨by decide +kernel, by decide +kernel⟩, List.mem_of_getElem? (i := 1095) (by decide +kernel), List.mem_of_getElem? (i := 1416) (by decide +kernel), List.mem_of_getElem? (i := 1417) (by decide +kernel)⟩
theorem lw_p129 : lw_okq (⟨"SkewedWaysModel", "rankOf", "(I)I"⟩, 31) := ⟨⟨by decide +kernel, by decide +kernel⟩, List.mem_of_getElem? (i := 1095) (by decide +kernel), List.mem_of_getElem? (i := 1424) (by decide +kernel), List.mem_of_getElem? (i := 1425) (by decide +kernel)⟩
theorem lw_p130 : lw_okq (⟨"SkewedWaysModel", "isBit", "(II)Z"⟩, 31) := ⟨⟨by decide +kernel, by decide +kernel⟩, List.mem_of_getElem? (i := 1095) (by decide +kernel), List.mem_of_getElem? (i := 1432) (by decide +kernel), List.mem_of_getElem? (i := 1433) (by decide +kernel)⟩
theorem lw_p131 : lw_okq (⟨"SkewedWaysModel", "isTrace", "(I)Z"⟩, 31) := ⟨⟨by decide +kernel, by decide +kernel⟩, List.mem_of_getElem? (i := 1095) (by decide +kernel), List.mem_of_getElem? (i := 1444) (by decide +kernel), List.mem_of_getElem? (i := 1445) (by decide +kernel)⟩
theorem lw_p132 : lw_okq (⟨"SkewedWaysModel", "runNow", "(I)I"⟩, 31) := ⟨⟨by decide +kernel, by decide +kernel⟩, List.mem_of_getElem? (i := 1095) (by decide +kernel), List.mem_of_getElem? (i := 1448) (by decide +kernel), List.mem_of_getElem? (i := 1449) (by decide +kernel)⟩
theorem lw_p133 : lw_okq (⟨"SkewedWaysModel", "lengthOf", "(I)I"⟩, 31) := ⟨⟨by decide +kernel, by decide +kernel⟩, List.mem_of_getElem? (i := 1095) (by decide +kernel), List.mem_of_getElem? (i := 1452) (by decide +kernel), List.mem_of_getElem? (i := 1453) (by decide +kernel)⟩
theorem lw_p134 : lw_okq (⟨"SkewedWaysModel", "valueIn", "(II)I"⟩, 31) := ⟨⟨by decide +kernel, by decide +kernel⟩, List.mem_of_getElem? (i := 1095) (by decide +kernel), List.mem_of_getElem? (i := 1456) (by decide +kernel), List.mem_of_getElem? (i := 1457) (by decide +kernel)⟩
theorem lw_p135 : lw_okq (⟨"SkewedWaysModel", "lineOf", "(II)I"⟩, 31) := ⟨⟨by decide +kernel, by decide +kernel⟩, List.mem_of_getElem? (i := 1095) (by decide +kernel), List.mem_of_getElem? (i := 1460) (by decide +kernel), List.mem_of_getElem? (i := 1461) (by decide +kernel)⟩
theorem lw_p136 : lw_okq (⟨"SkewedWaysModel", "gatheredAt", "(I)I"⟩, 31) := ⟨⟨by decide +kernel, by decide +kernel⟩, List.mem_of_getElem? (i := 1095) (by decide +kernel), List.mem_of_getElem? (i := 1472) (by decide +kernel), List.mem_of_getElem? (i := 1473) (by decide +kernel)⟩
theorem lw_p137 : lw_okq (⟨"SkewedWaysModel", "inSlots", "()I"⟩, 31) := ⟨⟨by decide +kernel, by decide +kernel⟩, List.mem_of_getElem? (i := 1095) (by decide +kernel), List.mem_of_getElem? (i := 1493) (by decide +kernel), List.mem_of_getElem? (i := 1494) (by decide +kernel)⟩
theorem lw_p138 : lw_okq (⟨"SkewedWaysModel", "pinned", "()I"⟩, 31) := ⟨⟨by decide +kernel, by decide +kernel⟩, List.mem_of_getElem? (i := 1095) (by decide +kernel), List.mem_of_getElem? (i := 1497) (by decide +kernel), List.mem_of_getElem? (i := 1498) (by decide +kernel)⟩
theorem lw_p139 : lw_okq (⟨"SkewedWaysModel", "togetherIn", "(II)I"⟩, 31) := ⟨⟨by decide +kernel, by decide +kernel⟩, List.mem_of_getElem? (i := 1095) (by decide +kernel), List.mem_of_getElem? (i := 1545) (by decide +kernel), List.mem_of_getElem? (i := 1546) (by decide +kernel)⟩
theorem lw_p140 : lw_okq (⟨"SkewedWaysModel", "areTwins", "(II)Z"⟩, 31) := ⟨⟨by decide +kernel, by decide +kernel⟩, List.mem_of_getElem? (i := 1095) (by decide +kernel), List.mem_of_getElem? (i := 1561) (by decide +kernel), List.mem_of_getElem? (i := 1562) (by decide +kernel)⟩
theorem lw_p141 : lw_okq (⟨"SkewedWaysModel", "isStride", "(II)Z"⟩, 31) := ⟨⟨by decide +kernel, by decide +kernel⟩, List.mem_of_getElem? (i := 1095) (by decide +kernel), List.mem_of_getElem? (i := 1573) (by decide +kernel), List.mem_of_getElem? (i := 1574) (by decide +kernel)⟩
theorem lw_p142 : lw_okq (⟨"SkewedWaysModel", "laySpread", "(III)V"⟩, 31) := ⟨⟨by decide +kernel, by decide +kernel⟩, List.mem_of_getElem? (i := 1095) (by decide +kernel), List.mem_of_getElem? (i := 1577) (by decide +kernel), List.mem_of_getElem? (i := 1578) (by decide +kernel)⟩
theorem lw_p143 : lw_okq (⟨"SkewedWaysModel", "evenOf", "(I)I"⟩, 31) := ⟨⟨by decide +kernel, by decide +kernel⟩, List.mem_of_getElem? (i := 1095) (by decide +kernel), List.mem_of_getElem? (i := 1585) (by decide +kernel), List.mem_of_getElem? (i := 1586) (by decide +kernel)⟩
def lw_privs_9 : List (MethodName × Nat) := [(⟨"SkewedWaysModel", "slotsOf", "()I"⟩, 31), (⟨"SkewedWaysModel", "rankOf", "(I)I"⟩, 31), (⟨"SkewedWaysModel", "isBit", "(II)Z"⟩, 31), (⟨"SkewedWaysModel", "isTrace", "(I)Z"⟩, 31), (⟨"SkewedWaysModel", "runNow", "(I)I"⟩, 31), (⟨"SkewedWaysModel", "lengthOf", "(I)I"⟩, 31), (⟨"SkewedWaysModel", "valueIn", "(II)I"⟩, 31), (⟨"SkewedWaysModel", "lineOf", "(II)I"⟩, 31), (⟨"SkewedWaysModel", "gatheredAt", "(I)I"⟩, 31), (⟨"SkewedWaysModel", "inSlots", "()I"⟩, 31), (⟨"SkewedWaysModel", "pinned", "()I"⟩, 31), (⟨"SkewedWaysModel", "togetherIn", "(II)I"⟩, 31), (⟨"SkewedWaysModel", "areTwins", "(II)Z"⟩, 31), (⟨"SkewedWaysModel", "isStride", "(II)Z"⟩, 31), (⟨"SkewedWaysModel", "laySpread", "(III)V"⟩, 31), (⟨"SkewedWaysModel", "evenOf", "(I)I"⟩, 31)]
theorem lw_r9 : ∀ q ∈ lw_privs_9, lw_okq q := List.forall_mem_cons.mpr ⟨lw_p128, List.forall_mem_cons.mpr ⟨lw_p129, List.forall_mem_cons.mpr ⟨lw_p130, List.forall_mem_cons.mpr ⟨lw_p131, List.forall_mem_cons.mpr ⟨lw_p132, List.forall_mem_cons.mpr ⟨lw_p133, List.forall_mem_cons.mpr ⟨lw_p134, List.forall_mem_cons.mpr ⟨lw_p135, List.forall_mem_cons.mpr ⟨lw_p136, List.forall_mem_cons.mpr ⟨lw_p137, List.forall_mem_cons.mpr ⟨lw_p138, List.forall_mem_cons.mpr ⟨lw_p139, List.forall_mem_cons.mpr ⟨lw_p140, List.forall_mem_cons.mpr ⟨lw_p141, List.forall_mem_cons.mpr ⟨lw_p142, List.forall_mem_cons.mpr ⟨lw_p143, fun _ h => absurd h List.not_mem_nil⟩⟩⟩⟩⟩⟩⟩⟩⟩⟩⟩⟩⟩⟩⟩⟩
theorem lw_p144 : lw_okq (⟨"SkewedWaysModel", "isEven", "(II)Z"⟩, 31) := ⟨⟨by decide +kernel, by decide +kernel⟩, List.mem_of_getElem? (i := 1095) (by decide +kernel), List.mem_of_getElem? (i := 1589) (by decide +kernel), List.mem_of_getElem? (i := 1590) (by decide +kernel)⟩
theorem lw_p145 : lw_okq (⟨"SkewedWaysModel", "flippedBy", "(III)I"⟩, 31) := ⟨⟨by decide +kernel, by decide +kernel⟩, List.mem_of_getElem? (i := 1095) (by decide +kernel), List.mem_of_getElem? (i := 1609) (by decide +kernel), List.mem_of_getElem? (i := 1610) (by decide +kernel)⟩
theorem lw_p146 : lw_okq (⟨"SkewedWaysModel", "layFitted", "()V"⟩, 31) := ⟨⟨by decide +kernel, by decide +kernel⟩, List.mem_of_getElem? (i := 1095) (by decide +kernel), List.mem_of_getElem? (i := 1621) (by decide +kernel), List.mem_of_getElem? (i := 1622) (by decide +kernel)⟩
theorem lw_p147 : lw_okq (⟨"SkewedWaysModel", "fits", "(I)Z"⟩, 31) := ⟨⟨by decide +kernel, by decide +kernel⟩, List.mem_of_getElem? (i := 1095) (by decide +kernel), List.mem_of_getElem? (i := 1625) (by decide +kernel), List.mem_of_getElem? (i := 1626) (by decide +kernel)⟩
theorem lw_p148 : lw_okq (⟨"SkewedWaysModel", "goOn", "(I)V"⟩, 31) := ⟨⟨by decide +kernel, by decide +kernel⟩, List.mem_of_getElem? (i := 1095) (by decide +kernel), List.mem_of_getElem? (i := 1629) (by decide +kernel), List.mem_of_getElem? (i := 1630) (by decide +kernel)⟩
theorem lw_p149 : lw_okq (⟨"SkewedWaysModel", "putAside", "()V"⟩, 31) := ⟨⟨by decide +kernel, by decide +kernel⟩, List.mem_of_getElem? (i := 1095) (by decide +kernel), List.mem_of_getElem? (i := 1645) (by decide +kernel), List.mem_of_getElem? (i := 1646) (by decide +kernel)⟩
theorem lw_p150 : lw_okq (⟨"SkewedWaysModel", "bringBack", "()V"⟩, 31) := ⟨⟨by decide +kernel, by decide +kernel⟩, List.mem_of_getElem? (i := 1095) (by decide +kernel), List.mem_of_getElem? (i := 1650) (by decide +kernel), List.mem_of_getElem? (i := 1651) (by decide +kernel)⟩
theorem lw_p151 : lw_okq (⟨"SkewedWaysModel", "pieceOf", "(I)I"⟩, 31) := ⟨⟨by decide +kernel, by decide +kernel⟩, List.mem_of_getElem? (i := 1095) (by decide +kernel), List.mem_of_getElem? (i := 1658) (by decide +kernel), List.mem_of_getElem? (i := 1659) (by decide +kernel)⟩
theorem lw_p152 : lw_okq (⟨"SkewedWaysModel", "latest", "(II)I"⟩, 31) := ⟨⟨by decide +kernel, by decide +kernel⟩, List.mem_of_getElem? (i := 1095) (by decide +kernel), List.mem_of_getElem? (i := 1694) (by decide +kernel), List.mem_of_getElem? (i := 1695) (by decide +kernel)⟩
theorem lw_p153 : lw_okq (⟨"SkewedWaysModel", "timesOf", "(II)I"⟩, 31) := ⟨⟨by decide +kernel, by decide +kernel⟩, List.mem_of_getElem? (i := 1095) (by decide +kernel), List.mem_of_getElem? (i := 1710) (by decide +kernel), List.mem_of_getElem? (i := 1711) (by decide +kernel)⟩
theorem lw_p154 : lw_okq (⟨"SkewedWaysModel", "missesBy", "(III)I"⟩, 31) := ⟨⟨by decide +kernel, by decide +kernel⟩, List.mem_of_getElem? (i := 1095) (by decide +kernel), List.mem_of_getElem? (i := 1722) (by decide +kernel), List.mem_of_getElem? (i := 1723) (by decide +kernel)⟩
theorem lw_p155 : lw_okq (⟨"SkewedWaysModel", "sweepNow", "(III)I"⟩, 31) := ⟨⟨by decide +kernel, by decide +kernel⟩, List.mem_of_getElem? (i := 1095) (by decide +kernel), List.mem_of_getElem? (i := 1733) (by decide +kernel), List.mem_of_getElem? (i := 1734) (by decide +kernel)⟩
theorem lw_p156 : lw_okq (⟨"SkewedWaysModel", "missesWith", "(IIZ)I"⟩, 31) := ⟨⟨by decide +kernel, by decide +kernel⟩, List.mem_of_getElem? (i := 1095) (by decide +kernel), List.mem_of_getElem? (i := 1753) (by decide +kernel), List.mem_of_getElem? (i := 1754) (by decide +kernel)⟩
theorem lw_p157 : lw_okq (⟨"SkewedWaysModel", "isStored", "(I)Z"⟩, 31) := ⟨⟨by decide +kernel, by decide +kernel⟩, List.mem_of_getElem? (i := 1095) (by decide +kernel), List.mem_of_getElem? (i := 1757) (by decide +kernel), List.mem_of_getElem? (i := 1758) (by decide +kernel)⟩
theorem lw_p158 : lw_okq (⟨"SkewedWaysModel", "nextOf", "(III)I"⟩, 31) := ⟨⟨by decide +kernel, by decide +kernel⟩, List.mem_of_getElem? (i := 1095) (by decide +kernel), List.mem_of_getElem? (i := 1761) (by decide +kernel), List.mem_of_getElem? (i := 1762) (by decide +kernel)⟩
theorem lw_p159 : lw_okq (⟨"SkewedWaysModel", "latestOf", "(III)I"⟩, 31) := ⟨⟨by decide +kernel, by decide +kernel⟩, List.mem_of_getElem? (i := 1095) (by decide +kernel), List.mem_of_getElem? (i := 1765) (by decide +kernel), List.mem_of_getElem? (i := 1766) (by decide +kernel)⟩
def lw_privs_10 : List (MethodName × Nat) := [(⟨"SkewedWaysModel", "isEven", "(II)Z"⟩, 31), (⟨"SkewedWaysModel", "flippedBy", "(III)I"⟩, 31), (⟨"SkewedWaysModel", "layFitted", "()V"⟩, 31), (⟨"SkewedWaysModel", "fits", "(I)Z"⟩, 31), (⟨"SkewedWaysModel", "goOn", "(I)V"⟩, 31), (⟨"SkewedWaysModel", "putAside", "()V"⟩, 31), (⟨"SkewedWaysModel", "bringBack", "()V"⟩, 31), (⟨"SkewedWaysModel", "pieceOf", "(I)I"⟩, 31), (⟨"SkewedWaysModel", "latest", "(II)I"⟩, 31), (⟨"SkewedWaysModel", "timesOf", "(II)I"⟩, 31), (⟨"SkewedWaysModel", "missesBy", "(III)I"⟩, 31), (⟨"SkewedWaysModel", "sweepNow", "(III)I"⟩, 31), (⟨"SkewedWaysModel", "missesWith", "(IIZ)I"⟩, 31), (⟨"SkewedWaysModel", "isStored", "(I)Z"⟩, 31), (⟨"SkewedWaysModel", "nextOf", "(III)I"⟩, 31), (⟨"SkewedWaysModel", "latestOf", "(III)I"⟩, 31)]
theorem lw_r10 : ∀ q ∈ lw_privs_10, lw_okq q := List.forall_mem_cons.mpr ⟨lw_p144, List.forall_mem_cons.mpr ⟨lw_p145, List.forall_mem_cons.mpr ⟨lw_p146, List.forall_mem_cons.mpr ⟨lw_p147, List.forall_mem_cons.mpr ⟨lw_p148, List.forall_mem_cons.mpr ⟨lw_p149, List.forall_mem_cons.mpr ⟨lw_p150, List.forall_mem_cons.mpr ⟨lw_p151, List.forall_mem_cons.mpr ⟨lw_p152, List.forall_mem_cons.mpr ⟨lw_p153, List.forall_mem_cons.mpr ⟨lw_p154, List.forall_mem_cons.mpr ⟨lw_p155, List.forall_mem_cons.mpr ⟨lw_p156, List.forall_mem_cons.mpr ⟨lw_p157, List.forall_mem_cons.mpr ⟨lw_p158, List.forall_mem_cons.mpr ⟨lw_p159, fun _ h => absurd h List.not_mem_nil⟩⟩⟩⟩⟩⟩⟩⟩⟩⟩⟩⟩⟩⟩⟩⟩
def lw_privs : List (MethodName × Nat) := lw_privs_1 ++ (lw_privs_2 ++ (lw_privs_3 ++ (lw_privs_4 ++ (lw_privs_5 ++ (lw_privs_6 ++ (lw_privs_7 ++ (lw_privs_8 ++ (lw_privs_9 ++ (lw_privs_10)))))))))
def lw_tbl : List Cond := k2_sels lw_privs ++ tables_1
theorem lw_privs_ok : ∀ q ∈ lw_privs, lw_okq q := by
  show ∀ q ∈ lw_privs_1 ++ (lw_privs_2 ++ (lw_privs_3 ++ (lw_privs_4 ++ (lw_privs_5 ++ (lw_privs_6 ++ (lw_privs_7 ++ (lw_privs_8 ++ (lw_privs_9 ++ (lw_privs_10))))))))), lw_okq q
  exact List.forall_mem_append.mpr ⟨lw_r1, List.forall_mem_append.mpr ⟨lw_r2, List.forall_mem_append.mpr ⟨lw_r3, List.forall_mem_append.mpr ⟨lw_r4, List.forall_mem_append.mpr ⟨lw_r5, List.forall_mem_append.mpr ⟨lw_r6, List.forall_mem_append.mpr ⟨lw_r7, List.forall_mem_append.mpr ⟨lw_r8, List.forall_mem_append.mpr ⟨lw_r9, lw_r10⟩⟩⟩⟩⟩⟩⟩⟩⟩
/-- the streams that the claim lets the run draw from -/
abbrev lw_cs : List Choice := [Jvm.Choice.named "NaN.bits"]
theorem lw_bits : nanBits ∈ lw_cs := by first | decide | exact List.mem_cons_self | simp [lw_cs, nanBits]
-- ===== end of PART A; then your names; then what follows =====
end
section
def RX0 : String := "SkewedWays$Reader"
def TX0 : u_T := fun k => match k with
  | 0 => ("SkewedWays$Reader", "starts", "[I", true)
  | 1 => ("SkewedWays$Reader", "open", "I", false)
  | 2 => ("SkewedWays$Reader", "due", "I", false)
  | 3 => ("SkewedWays$Reader", "number", "I", false)
  | 4 => ("SkewedWays$Reader", "numberAt", "I", false)
  | 5 => ("SkewedWays$Reader", "line", "I", false)
  | 6 => ("SkewedWays$Reader", "stride", "I", false)
  | 7 => ("SkewedWays$Reader", "tooLong", "Z", false)
  | 8 => ("SkewedWays$Reader", "fault", "I", false)
  | _ => ("SkewedWays$Reader", "place", "I", false)
def tyX0 : Nat → FieldType := fun k => match k with
  | 0 => .array .int
  | 1 => .int
  | 2 => .int
  | 3 => .int
  | 4 => .int
  | 5 => .int
  | 6 => .int
  | 7 => .boolean
  | 8 => .int
  | _ => .int
abbrev wsX00 : List Cond := u_ws RX0 TX0 10
theorem nmX0 : ∀ a, a < 10 → ∀ b, b < 10 → a ≠ b → (TX0 a).2.1 ≠ (TX0 b).2.1 := by decide +kernel
theorem tyX0_ok : ∀ k, k < 10 → parseFieldDescriptor (TX0 k).2.2.1 = some (tyX0 k) := by decide +kernel
abbrev cX0_init : ByteArray := prog_2_method_1_code
def yX0_init : MethodName := ⟨RX0, "<init>", "()V"⟩
abbrev cX0_read : ByteArray := prog_2_method_2_code
def yX0_read : MethodName := ⟨RX0, "read", "([IILSkewedWays$Trace;)V"⟩
abbrev cX0_isDigit : ByteArray := prog_2_method_3_code
def yX0_isDigit : MethodName := ⟨RX0, "isDigit", "(I)Z"⟩
abbrev cX0_takeDigit : ByteArray := prog_2_method_4_code
def yX0_takeDigit : MethodName := ⟨RX0, "takeDigit", "(II)V"⟩
abbrev cX0_endNumber : ByteArray := prog_2_method_5_code
def yX0_endNumber : MethodName := ⟨RX0, "endNumber", "(LSkewedWays$Trace;)V"⟩
abbrev cX0_fail : ByteArray := prog_2_method_6_code
def yX0_fail : MethodName := ⟨RX0, "fail", "(II)V"⟩
abbrev cX0_takeEnd : ByteArray := prog_2_method_7_code
def yX0_takeEnd : MethodName := ⟨RX0, "takeEnd", "(I)V"⟩
abbrev cX0_mayItemCome : ByteArray := prog_2_method_8_code
def yX0_mayItemCome : MethodName := ⟨RX0, "mayItemCome", "()Z"⟩
abbrev cX0_takeSign : ByteArray := prog_2_method_9_code
def yX0_takeSign : MethodName := ⟨RX0, "takeSign", "(IILSkewedWays$Trace;)V"⟩
abbrev cX0_openLoop : ByteArray := prog_2_method_10_code
def yX0_openLoop : MethodName := ⟨RX0, "openLoop", "(ILSkewedWays$Trace;)V"⟩
abbrev cX0_takeNumber : ByteArray := prog_2_method_11_code
def yX0_takeNumber : MethodName := ⟨RX0, "takeNumber", "(LSkewedWays$Trace;)V"⟩
abbrev cX0_isWithin : ByteArray := prog_2_method_12_code
def yX0_isWithin : MethodName := ⟨RX0, "isWithin", "(II)Z"⟩
abbrev cX0_emit : ByteArray := prog_2_method_13_code
def yX0_emit : MethodName := ⟨RX0, "emit", "(LSkewedWays$Trace;II)V"⟩
abbrev cX0_emitStrides : ByteArray := prog_2_method_14_code
def yX0_emitStrides : MethodName := ⟨RX0, "emitStrides", "(LSkewedWays$Trace;I)V"⟩
abbrev cX0_closeLoop : ByteArray := prog_2_method_15_code
def yX0_closeLoop : MethodName := ⟨RX0, "closeLoop", "(LSkewedWays$Trace;I)V"⟩
def RX1 : String := "SkewedWays$Search"
def TX1 : u_T := fun k => match k with
  | 0 => ("SkewedWays$Search", "places", "[I", true)
  | 1 => ("SkewedWays$Search", "origins", "[I", true)
  | 2 => ("SkewedWays$Search", "known", "[I", true)
  | _ => ("SkewedWays$Search", "count", "I", false)
def tyX1 : Nat → FieldType := fun k => match k with
  | 0 => .array .int
  | 1 => .array .int
  | 2 => .array .int
  | _ => .int
abbrev wsX10 : List Cond := u_ws RX1 TX1 4
theorem nmX1 : ∀ a, a < 4 → ∀ b, b < 4 → a ≠ b → (TX1 a).2.1 ≠ (TX1 b).2.1 := by decide +kernel
theorem tyX1_ok : ∀ k, k < 4 → parseFieldDescriptor (TX1 k).2.2.1 = some (tyX1 k) := by decide +kernel
abbrev cX1_init : ByteArray := prog_3_method_1_code
def yX1_init : MethodName := ⟨RX1, "<init>", "()V"⟩
abbrev cX1_lookUnlessHeld : ByteArray := prog_3_method_2_code
def yX1_lookUnlessHeld : MethodName := ⟨RX1, "lookUnlessHeld", "(LSkewedWays$Store;II)V"⟩
abbrev cX1_look : ByteArray := prog_3_method_3_code
def yX1_look : MethodName := ⟨RX1, "look", "(LSkewedWays$Store;II)V"⟩
abbrev cX1_addSlotsOf : ByteArray := prog_3_method_4_code
def yX1_addSlotsOf : MethodName := ⟨RX1, "addSlotsOf", "(LSkewedWays$Store;III)V"⟩
abbrev cX1_choose : ByteArray := prog_3_method_5_code
def yX1_choose : MethodName := ⟨RX1, "choose", "(LSkewedWays$Store;)I"⟩
abbrev cX1_topOf : ByteArray := prog_3_method_6_code
def yX1_topOf : MethodName := ⟨RX1, "topOf", "(I)I"⟩
def RX2 : String := "SkewedWays$Seating"
def TX2 : u_T := fun k => match k with
  | 0 => ("SkewedWays$Seating", "guests", "[I", true)
  | 1 => ("SkewedWays$Seating", "seats", "[I", true)
  | 2 => ("SkewedWays$Seating", "owners", "[I", true)
  | 3 => ("SkewedWays$Seating", "reachedBy", "[I", true)
  | 4 => ("SkewedWays$Seating", "queue", "[I", true)
  | _ => ("SkewedWays$Seating", "seated", "I", false)
def tyX2 : Nat → FieldType := fun k => match k with
  | 0 => .array .int
  | 1 => .array .int
  | 2 => .array .int
  | 3 => .array .int
  | 4 => .array .int
  | _ => .int
abbrev wsX20 : List Cond := u_ws RX2 TX2 6
theorem nmX2 : ∀ a, a < 6 → ∀ b, b < 6 → a ≠ b → (TX2 a).2.1 ≠ (TX2 b).2.1 := by decide +kernel
theorem tyX2_ok : ∀ k, k < 6 → parseFieldDescriptor (TX2 k).2.2.1 = some (tyX2 k) := by decide +kernel
abbrev cX2_init : ByteArray := prog_4_method_1_code
def yX2_init : MethodName := ⟨RX2, "<init>", "()V"⟩
abbrev cX2_clear : ByteArray := prog_4_method_2_code
def yX2_clear : MethodName := ⟨RX2, "clear", "()V"⟩
abbrev cX2_admit : ByteArray := prog_4_method_3_code
def yX2_admit : MethodName := ⟨RX2, "admit", "(LSkewedWays$Store;I)Z"⟩
abbrev cX2_shiftTo : ByteArray := prog_4_method_4_code
def yX2_shiftTo : MethodName := ⟨RX2, "shiftTo", "(I)V"⟩
def RX3 : String := "SkewedWays$Store"
def TX3 : u_T := fun k => match k with
  | 0 => ("SkewedWays$Store", "ways", "I", false)
  | 1 => ("SkewedWays$Store", "bits", "I", false)
  | 2 => ("SkewedWays$Store", "depth", "I", false)
  | 3 => ("SkewedWays$Store", "drawn", "I", false)
  | 4 => ("SkewedWays$Store", "booked", "I", false)
  | 5 => ("SkewedWays$Store", "masks", "[I", true)
  | 6 => ("SkewedWays$Store", "counted", "[I", true)
  | 7 => ("SkewedWays$Store", "book", "[I", true)
  | 8 => ("SkewedWays$Store", "memory", "[I", true)
  | 9 => ("SkewedWays$Store", "lines", "[I", true)
  | 10 => ("SkewedWays$Store", "values", "[I", true)
  | 11 => ("SkewedWays$Store", "dirty", "[I", true)
  | 12 => ("SkewedWays$Store", "ages", "[I", true)
  | _ => ("SkewedWays$Store", "pinned", "[I", true)
def tyX3 : Nat → FieldType := fun k => match k with
  | 0 => .int
  | 1 => .int
  | 2 => .int
  | 3 => .int
  | 4 => .int
  | 5 => .array .int
  | 6 => .array .int
  | 7 => .array .int
  | 8 => .array .int
  | 9 => .array .int
  | 10 => .array .int
  | 11 => .array .int
  | 12 => .array .int
  | _ => .array .int
abbrev wsX30 : List Cond := u_ws RX3 TX3 14
theorem nmX3 : ∀ a, a < 14 → ∀ b, b < 14 → a ≠ b → (TX3 a).2.1 ≠ (TX3 b).2.1 := by decide +kernel
theorem tyX3_ok : ∀ k, k < 14 → parseFieldDescriptor (TX3 k).2.2.1 = some (tyX3 k) := by decide +kernel
abbrev cX3_init : ByteArray := prog_5_method_1_code
def yX3_init : MethodName := ⟨RX3, "<init>", "()V"⟩
abbrev cX3_begin : ByteArray := prog_5_method_2_code
def yX3_begin : MethodName := ⟨RX3, "begin", "()V"⟩
abbrev cX3_takeStore : ByteArray := prog_5_method_3_code
def yX3_takeStore : MethodName := ⟨RX3, "takeStore", "(LSkewedWays$Store;)V"⟩
abbrev cX3_takeRow : ByteArray := prog_5_method_4_code
def yX3_takeRow : MethodName := ⟨RX3, "takeRow", "([I[I)V"⟩
abbrev cX3_slotsOfWay : ByteArray := prog_5_method_5_code
def yX3_slotsOfWay : MethodName := ⟨RX3, "slotsOfWay", "()I"⟩
abbrev cX3_slotsInAll : ByteArray := prog_5_method_6_code
def yX3_slotsInAll : MethodName := ⟨RX3, "slotsInAll", "()I"⟩
abbrev cX3_linesHeld : ByteArray := prog_5_method_7_code
def yX3_linesHeld : MethodName := ⟨RX3, "linesHeld", "()I"⟩
abbrev cX3_linesPinned : ByteArray := prog_5_method_8_code
def yX3_linesPinned : MethodName := ⟨RX3, "linesPinned", "()I"⟩
abbrev cX3_indexOf : ByteArray := prog_5_method_9_code
def yX3_indexOf : MethodName := ⟨RX3, "indexOf", "(II)I"⟩
abbrev cX3_placeIn : ByteArray := prog_5_method_10_code
def yX3_placeIn : MethodName := ⟨RX3, "placeIn", "(II)I"⟩
abbrev cX3_placeOf : ByteArray := prog_5_method_11_code
def yX3_placeOf : MethodName := ⟨RX3, "placeOf", "(I)I"⟩
abbrev cX3_waysShared : ByteArray := prog_5_method_12_code
def yX3_waysShared : MethodName := ⟨RX3, "waysShared", "(II)I"⟩
abbrev cX3_areTwins : ByteArray := prog_5_method_13_code
def yX3_areTwins : MethodName := ⟨RX3, "areTwins", "(II)Z"⟩
abbrev cX3_setFamily : ByteArray := prog_5_method_14_code
def yX3_setFamily : MethodName := ⟨RX3, "setFamily", "(I)V"⟩
abbrev cX3_maskOfFamily : ByteArray := prog_5_method_15_code
def yX3_maskOfFamily : MethodName := ⟨RX3, "maskOfFamily", "(III)I"⟩
abbrev cX3_valueOf : ByteArray := prog_5_method_16_code
def yX3_valueOf : MethodName := ⟨RX3, "valueOf", "(I)I"⟩
abbrev cX3_come : ByteArray := prog_5_method_17_code
def yX3_come : MethodName := ⟨RX3, "come", "(ILSkewedWays$Search;)I"⟩
abbrev cX3_put : ByteArray := prog_5_method_18_code
def yX3_put : MethodName := ⟨RX3, "put", "(III)V"⟩
abbrev cX3_growOlder : ByteArray := prog_5_method_19_code
def yX3_growOlder : MethodName := ⟨RX3, "growOlder", "(LSkewedWays$Search;)V"⟩
abbrev cX3_moveOn : ByteArray := prog_5_method_20_code
def yX3_moveOn : MethodName := ⟨RX3, "moveOn", "(LSkewedWays$Search;I)I"⟩
abbrev cX3_moveLine : ByteArray := prog_5_method_21_code
def yX3_moveLine : MethodName := ⟨RX3, "moveLine", "(II)V"⟩
abbrev cX3_settle : ByteArray := prog_5_method_22_code
def yX3_settle : MethodName := ⟨RX3, "settle", "(II)V"⟩
abbrev cX3_note : ByteArray := prog_5_method_23_code
def yX3_note : MethodName := ⟨RX3, "note", "(IIII)V"⟩
abbrev cX3_bringBack : ByteArray := prog_5_method_24_code
def yX3_bringBack : MethodName := ⟨RX3, "bringBack", "(I)I"⟩
abbrev cX3_makeEmpty : ByteArray := prog_5_method_25_code
def yX3_makeEmpty : MethodName := ⟨RX3, "makeEmpty", "(I)V"⟩
abbrev cX3_emptyAll : ByteArray := prog_5_method_26_code
def yX3_emptyAll : MethodName := ⟨RX3, "emptyAll", "()I"⟩
abbrev cX3_coolAll : ByteArray := prog_5_method_27_code
def yX3_coolAll : MethodName := ⟨RX3, "coolAll", "()I"⟩
abbrev cX3_tradeWays : ByteArray := prog_5_method_28_code
def yX3_tradeWays : MethodName := ⟨RX3, "tradeWays", "(II)V"⟩
abbrev cX3_tradeParts : ByteArray := prog_5_method_29_code
def yX3_tradeParts : MethodName := ⟨RX3, "tradeParts", "([IIII)V"⟩
def RX4 : String := "SkewedWays$Study"
def TX4 : u_T := fun k => match k with
  | 0 => ("SkewedWays$Study", "tally", "[I", true)
  | 1 => ("SkewedWays$Study", "nextUse", "[I", true)
  | 2 => ("SkewedWays$Study", "held", "[I", true)
  | 3 => ("SkewedWays$Study", "heldUntil", "[I", true)
  | _ => ("SkewedWays$Study", "holding", "I", false)
def tyX4 : Nat → FieldType := fun k => match k with
  | 0 => .array .int
  | 1 => .array .int
  | 2 => .array .int
  | 3 => .array .int
  | _ => .int
abbrev wsX40 : List Cond := u_ws RX4 TX4 5
theorem nmX4 : ∀ a, a < 5 → ∀ b, b < 5 → a ≠ b → (TX4 a).2.1 ≠ (TX4 b).2.1 := by decide +kernel
theorem tyX4_ok : ∀ k, k < 5 → parseFieldDescriptor (TX4 k).2.2.1 = some (tyX4 k) := by decide +kernel
abbrev cX4_init : ByteArray := prog_6_method_1_code
def yX4_init : MethodName := ⟨RX4, "<init>", "()V"⟩
abbrev cX4_mostUnlike : ByteArray := prog_6_method_2_code
def yX4_mostUnlike : MethodName := ⟨RX4, "mostUnlike", "(LSkewedWays$Trace;I)I"⟩
abbrev cX4_hottestLine : ByteArray := prog_6_method_3_code
def yX4_hottestLine : MethodName := ⟨RX4, "hottestLine", "(LSkewedWays$Trace;)I"⟩
abbrev cX4_distanceAt : ByteArray := prog_6_method_4_code
def yX4_distanceAt : MethodName := ⟨RX4, "distanceAt", "(LSkewedWays$Trace;I)I"⟩
abbrev cX4_placeHolding : ByteArray := prog_6_method_5_code
def yX4_placeHolding : MethodName := ⟨RX4, "placeHolding", "(I)I"⟩
abbrev cX4_missesByRecency : ByteArray := prog_6_method_6_code
def yX4_missesByRecency : MethodName := ⟨RX4, "missesByRecency", "(LSkewedWays$Trace;I)I"⟩
abbrev cX4_fewestMisses : ByteArray := prog_6_method_7_code
def yX4_fewestMisses : MethodName := ⟨RX4, "fewestMisses", "(LSkewedWays$Trace;I)I"⟩
abbrev cX4_findNextUses : ByteArray := prog_6_method_8_code
def yX4_findNextUses : MethodName := ⟨RX4, "findNextUses", "(LSkewedWays$Trace;)V"⟩
abbrev cX4_placeToFill : ByteArray := prog_6_method_9_code
def yX4_placeToFill : MethodName := ⟨RX4, "placeToFill", "(I)I"⟩
def RX5 : String := "SkewedWays$Trace"
def TX5 : u_T := fun k => match k with
  | 0 => ("SkewedWays$Trace", "lines", "[I", true)
  | 1 => ("SkewedWays$Trace", "values", "[I", true)
  | _ => ("SkewedWays$Trace", "size", "I", false)
def tyX5 : Nat → FieldType := fun k => match k with
  | 0 => .array .int
  | 1 => .array .int
  | _ => .int
abbrev wsX50 : List Cond := u_ws RX5 TX5 3
theorem nmX5 : ∀ a, a < 3 → ∀ b, b < 3 → a ≠ b → (TX5 a).2.1 ≠ (TX5 b).2.1 := by decide +kernel
theorem tyX5_ok : ∀ k, k < 3 → parseFieldDescriptor (TX5 k).2.2.1 = some (tyX5 k) := by decide +kernel
abbrev cX5_init : ByteArray := prog_7_method_1_code
def yX5_init : MethodName := ⟨RX5, "<init>", "()V"⟩
abbrev cX5_takeTrace : ByteArray := prog_7_method_2_code
def yX5_takeTrace : MethodName := ⟨RX5, "takeTrace", "(LSkewedWays$Trace;)V"⟩
abbrev cX5_add : ByteArray := prog_7_method_3_code
def yX5_add : MethodName := ⟨RX5, "add", "(II)V"⟩
abbrev cX5_written : ByteArray := prog_7_method_4_code
def yX5_written : MethodName := ⟨RX5, "written", "()I"⟩
def RX6 : String := "SkewedWays$Whole"
def TX6 : u_T := fun k => match k with
  | 0 => ("SkewedWays$Whole", "store", "LSkewedWays$Store;", true)
  | 1 => ("SkewedWays$Whole", "steps", "[LSkewedWays$Store;", true)
  | 2 => ("SkewedWays$Whole", "traces", "[LSkewedWays$Trace;", true)
  | 3 => ("SkewedWays$Whole", "set", "[I", true)
  | 4 => ("SkewedWays$Whole", "eldest", "I", false)
  | 5 => ("SkewedWays$Whole", "count", "I", false)
  | 6 => ("SkewedWays$Whole", "traced", "I", false)
  | _ => ("SkewedWays$Whole", "members", "I", false)
def tyX6 : Nat → FieldType := fun k => match k with
  | 0 => .object "SkewedWays$Store"
  | 1 => .array (.object "SkewedWays$Store")
  | 2 => .array (.object "SkewedWays$Trace")
  | 3 => .array .int
  | 4 => .int
  | 5 => .int
  | 6 => .int
  | _ => .int
abbrev wsX60 : List Cond := u_ws RX6 TX6 8
theorem nmX6 : ∀ a, a < 8 → ∀ b, b < 8 → a ≠ b → (TX6 a).2.1 ≠ (TX6 b).2.1 := by decide +kernel
theorem tyX6_ok : ∀ k, k < 8 → parseFieldDescriptor (TX6 k).2.2.1 = some (tyX6 k) := by decide +kernel
abbrev cX6_init : ByteArray := prog_8_method_1_code
def yX6_init : MethodName := ⟨RX6, "<init>", "()V"⟩
abbrev cX6_takeAll : ByteArray := prog_8_method_2_code
def yX6_takeAll : MethodName := ⟨RX6, "takeAll", "(LSkewedWays$Whole;)V"⟩
abbrev cX6_remember : ByteArray := prog_8_method_3_code
def yX6_remember : MethodName := ⟨RX6, "remember", "()V"⟩
abbrev cX6_takeBack : ByteArray := prog_8_method_4_code
def yX6_takeBack : MethodName := ⟨RX6, "takeBack", "()I"⟩
abbrev cX6_placeInSet : ByteArray := prog_8_method_5_code
def yX6_placeInSet : MethodName := ⟨RX6, "placeInSet", "(I)I"⟩
abbrev cX6_addToSet : ByteArray := prog_8_method_6_code
def yX6_addToSet : MethodName := ⟨RX6, "addToSet", "(I)V"⟩
abbrev cX6_dropFromSet : ByteArray := prog_8_method_7_code
def yX6_dropFromSet : MethodName := ⟨RX6, "dropFromSet", "(I)V"⟩
abbrev cX6_collectFrom : ByteArray := prog_8_method_8_code
def yX6_collectFrom : MethodName := ⟨RX6, "collectFrom", "(LSkewedWays$Trace;)V"⟩
def RX7 : String := "SkewedWays$Worth"
def TX7 : u_T := fun k => match k with
  | 0 => ("SkewedWays$Worth", "rows", "[I", true)
  | _ => ("SkewedWays$Worth", "tally", "[I", true)
def tyX7 : Nat → FieldType := fun k => match k with
  | 0 => .array .int
  | _ => .array .int
abbrev wsX70 : List Cond := u_ws RX7 TX7 2
theorem nmX7 : ∀ a, a < 2 → ∀ b, b < 2 → a ≠ b → (TX7 a).2.1 ≠ (TX7 b).2.1 := by decide +kernel
theorem tyX7_ok : ∀ k, k < 2 → parseFieldDescriptor (TX7 k).2.2.1 = some (tyX7 k) := by decide +kernel
abbrev cX7_init : ByteArray := prog_9_method_1_code
def yX7_init : MethodName := ⟨RX7, "<init>", "()V"⟩
abbrev cX7_rankOfAll : ByteArray := prog_9_method_2_code
def yX7_rankOfAll : MethodName := ⟨RX7, "rankOfAll", "(LSkewedWays$Store;)I"⟩
abbrev cX7_rankOfTwo : ByteArray := prog_9_method_3_code
def yX7_rankOfTwo : MethodName := ⟨RX7, "rankOfTwo", "(LSkewedWays$Store;II)I"⟩
abbrev cX7_addMasks : ByteArray := prog_9_method_4_code
def yX7_addMasks : MethodName := ⟨RX7, "addMasks", "(LSkewedWays$Store;II)I"⟩
abbrev cX7_rankOfRows : ByteArray := prog_9_method_5_code
def yX7_rankOfRows : MethodName := ⟨RX7, "rankOfRows", "(I)I"⟩
abbrev cX7_clearBelow : ByteArray := prog_9_method_6_code
def yX7_clearBelow : MethodName := ⟨RX7, "clearBelow", "(II)V"⟩
abbrev cX7_layOut : ByteArray := prog_9_method_7_code
def yX7_layOut : MethodName := ⟨RX7, "layOut", "(LSkewedWays$Store;III)V"⟩
abbrev cX7_slotsUsed : ByteArray := prog_9_method_8_code
def yX7_slotsUsed : MethodName := ⟨RX7, "slotsUsed", "()I"⟩
abbrev cX7_mostInOne : ByteArray := prog_9_method_9_code
def yX7_mostInOne : MethodName := ⟨RX7, "mostInOne", "()I"⟩
abbrev cX7_inSlot : ByteArray := prog_9_method_10_code
def yX7_inSlot : MethodName := ⟨RX7, "inSlot", "(I)I"⟩
abbrev cX7_isEven : ByteArray := prog_9_method_11_code
def yX7_isEven : MethodName := ⟨RX7, "isEven", "(LSkewedWays$Store;II)Z"⟩
abbrev cX7_isEvenInAll : ByteArray := prog_9_method_12_code
def yX7_isEvenInAll : MethodName := ⟨RX7, "isEvenInAll", "(LSkewedWays$Store;I)Z"⟩
abbrev cX7_evenStrides : ByteArray := prog_9_method_13_code
def yX7_evenStrides : MethodName := ⟨RX7, "evenStrides", "(LSkewedWays$Store;I)I"⟩
abbrev cX7_slotsScattered : ByteArray := prog_9_method_14_code
def yX7_slotsScattered : MethodName := ⟨RX7, "slotsScattered", "(LSkewedWays$Store;III)I"⟩
abbrev cX7_worstStride : ByteArray := prog_9_method_15_code
def yX7_worstStride : MethodName := ⟨RX7, "worstStride", "(LSkewedWays$Store;II)I"⟩
abbrev cX7_evenIfFlipped : ByteArray := prog_9_method_16_code
def yX7_evenIfFlipped : MethodName := ⟨RX7, "evenIfFlipped", "(LSkewedWays$Store;III)I"⟩
abbrev cX7_bestFlipOf : ByteArray := prog_9_method_17_code
def yX7_bestFlipOf : MethodName := ⟨RX7, "bestFlipOf", "(LSkewedWays$Store;I)I"⟩
abbrev cX7_crowdedSlot : ByteArray := prog_9_method_18_code
def yX7_crowdedSlot : MethodName := ⟨RX7, "crowdedSlot", "(LSkewedWays$Store;I[II)I"⟩
abbrev cX7_fitPlainly : ByteArray := prog_9_method_19_code
def yX7_fitPlainly : MethodName := ⟨RX7, "fitPlainly", "(LSkewedWays$Store;[II)I"⟩
def RX8 : String := "SkewedWays"
def TX8 : u_T := fun k => match k with
  | 0 => ("SkewedWays", "now", "LSkewedWays$Whole;", true)
  | 1 => ("SkewedWays", "kept", "LSkewedWays$Whole;", true)
  | 2 => ("SkewedWays", "trial", "LSkewedWays$Store;", true)
  | 3 => ("SkewedWays", "search", "LSkewedWays$Search;", true)
  | 4 => ("SkewedWays", "worth", "LSkewedWays$Worth;", true)
  | 5 => ("SkewedWays", "seating", "LSkewedWays$Seating;", true)
  | 6 => ("SkewedWays", "study", "LSkewedWays$Study;", true)
  | 7 => ("SkewedWays", "reader", "LSkewedWays$Reader;", true)
  | 8 => ("SkewedWays", "draft", "LSkewedWays$Trace;", true)
  | 9 => ("SkewedWays", "groups", "[I", true)
  | 10 => ("SkewedWays", "tape", "[I", true)
  | 11 => ("SkewedWays", "taped", "I", false)
  | 12 => ("SkewedWays", "lastFault", "I", false)
  | _ => ("SkewedWays", "lastPlace", "I", false)
def tyX8 : Nat → FieldType := fun k => match k with
  | 0 => .object "SkewedWays$Whole"
  | 1 => .object "SkewedWays$Whole"
  | 2 => .object "SkewedWays$Store"
  | 3 => .object "SkewedWays$Search"
  | 4 => .object "SkewedWays$Worth"
  | 5 => .object "SkewedWays$Seating"
  | 6 => .object "SkewedWays$Study"
  | 7 => .object "SkewedWays$Reader"
  | 8 => .object "SkewedWays$Trace"
  | 9 => .array .int
  | 10 => .array .int
  | 11 => .int
  | 12 => .int
  | _ => .int
abbrev wsX80 : List Cond := u_ws RX8 TX8 14
theorem nmX8 : ∀ a, a < 14 → ∀ b, b < 14 → a ≠ b → (TX8 a).2.1 ≠ (TX8 b).2.1 := by decide +kernel
theorem tyX8_ok : ∀ k, k < 14 → parseFieldDescriptor (TX8 k).2.2.1 = some (tyX8 k) := by decide +kernel
abbrev cX8_init : ByteArray := prog_1_method_1_code
def yX8_init : MethodName := ⟨RX8, "<init>", "()V"⟩
abbrev cX8_feed : ByteArray := prog_1_method_2_code
def yX8_feed : MethodName := ⟨RX8, "feed", "(IIIII)I"⟩
abbrev cX8_feedFour : ByteArray := prog_1_method_3_code
def yX8_feedFour : MethodName := ⟨RX8, "feedFour", "(I)V"⟩
abbrev cX8_end : ByteArray := prog_1_method_4_code
def yX8_end : MethodName := ⟨RX8, "end", "(I)I"⟩
abbrev cX8_text : ByteArray := prog_1_method_5_code
def yX8_text : MethodName := ⟨RX8, "text", "()I"⟩
abbrev cX8_fault : ByteArray := prog_1_method_6_code
def yX8_fault : MethodName := ⟨RX8, "fault", "(I)I"⟩
abbrev cX8_ask : ByteArray := prog_1_method_7_code
def yX8_ask : MethodName := ⟨RX8, "ask", "(I)I"⟩
abbrev cX8_write : ByteArray := prog_1_method_8_code
def yX8_write : MethodName := ⟨RX8, "write", "(II)Z"⟩
abbrev cX8_pin : ByteArray := prog_1_method_9_code
def yX8_pin : MethodName := ⟨RX8, "pin", "(IZ)Z"⟩
abbrev cX8_clean : ByteArray := prog_1_method_10_code
def yX8_clean : MethodName := ⟨RX8, "clean", "(I)I"⟩
abbrev cX8_leave : ByteArray := prog_1_method_11_code
def yX8_leave : MethodName := ⟨RX8, "leave", "(I)I"⟩
abbrev cX8_cool : ByteArray := prog_1_method_12_code
def yX8_cool : MethodName := ⟨RX8, "cool", "()I"⟩
abbrev cX8_trade : ByteArray := prog_1_method_13_code
def yX8_trade : MethodName := ⟨RX8, "trade", "(II)Z"⟩
abbrev cX8_empty : ByteArray := prog_1_method_14_code
def yX8_empty : MethodName := ⟨RX8, "empty", "()I"⟩
abbrev cX8_shape : ByteArray := prog_1_method_15_code
def yX8_shape : MethodName := ⟨RX8, "shape", "(II)I"⟩
abbrev cX8_family : ByteArray := prog_1_method_16_code
def yX8_family : MethodName := ⟨RX8, "family", "(I)I"⟩
abbrev cX8_mask : ByteArray := prog_1_method_17_code
def yX8_mask : MethodName := ⟨RX8, "mask", "(III)I"⟩
abbrev cX8_depth : ByteArray := prog_1_method_18_code
def yX8_depth : MethodName := ⟨RX8, "depth", "(I)Z"⟩
abbrev cX8_run : ByteArray := prog_1_method_19_code
def yX8_run : MethodName := ⟨RX8, "run", "(I)I"⟩
abbrev cX8_undo : ByteArray := prog_1_method_20_code
def yX8_undo : MethodName := ⟨RX8, "undo", "()I"⟩
abbrev cX8_tell : ByteArray := prog_1_method_21_code
def yX8_tell : MethodName := ⟨RX8, "tell", "(I)Z"⟩
abbrev cX8_gather : ByteArray := prog_1_method_22_code
def yX8_gather : MethodName := ⟨RX8, "gather", "(I)I"⟩
abbrev cX8_collect : ByteArray := prog_1_method_23_code
def yX8_collect : MethodName := ⟨RX8, "collect", "(I)I"⟩
abbrev cX8_scatter : ByteArray := prog_1_method_24_code
def yX8_scatter : MethodName := ⟨RX8, "scatter", "(I)Z"⟩
abbrev cX8_is : ByteArray := prog_1_method_25_code
def yX8_is : MethodName := ⟨RX8, "is", "(I)I"⟩
abbrev cX8_masked : ByteArray := prog_1_method_26_code
def yX8_masked : MethodName := ⟨RX8, "masked", "(II)I"⟩
abbrev cX8_index : ByteArray := prog_1_method_27_code
def yX8_index : MethodName := ⟨RX8, "index", "(II)I"⟩
abbrev cX8_slot : ByteArray := prog_1_method_28_code
def yX8_slot : MethodName := ⟨RX8, "slot", "(III)I"⟩
abbrev cX8_where : ByteArray := prog_1_method_29_code
def yX8_where : MethodName := ⟨RX8, "where", "(I)I"⟩
abbrev cX8_memory : ByteArray := prog_1_method_30_code
def yX8_memory : MethodName := ⟨RX8, "memory", "(I)I"⟩
abbrev cX8_value : ByteArray := prog_1_method_31_code
def yX8_value : MethodName := ⟨RX8, "value", "(I)I"⟩
abbrev cX8_aged : ByteArray := prog_1_method_32_code
def yX8_aged : MethodName := ⟨RX8, "aged", "(I)I"⟩
abbrev cX8_book : ByteArray := prog_1_method_33_code
def yX8_book : MethodName := ⟨RX8, "book", "(II)I"⟩
abbrev cX8_stale : ByteArray := prog_1_method_34_code
def yX8_stale : MethodName := ⟨RX8, "stale", "()I"⟩
abbrev cX8_rank : ByteArray := prog_1_method_35_code
def yX8_rank : MethodName := ⟨RX8, "rank", "(II)I"⟩
abbrev cX8_twins : ByteArray := prog_1_method_36_code
def yX8_twins : MethodName := ⟨RX8, "twins", "(I)I"⟩
abbrev cX8_twin : ByteArray := prog_1_method_37_code
def yX8_twin : MethodName := ⟨RX8, "twin", "(II)I"⟩
abbrev cX8_together : ByteArray := prog_1_method_38_code
def yX8_together : MethodName := ⟨RX8, "together", "(II)I"⟩
abbrev cX8_spread : ByteArray := prog_1_method_39_code
def yX8_spread : MethodName := ⟨RX8, "spread", "(IIII)I"⟩
abbrev cX8_even : ByteArray := prog_1_method_40_code
def yX8_even : MethodName := ⟨RX8, "even", "(I)I"⟩
abbrev cX8_evenAll : ByteArray := prog_1_method_41_code
def yX8_evenAll : MethodName := ⟨RX8, "evenAll", "()I"⟩
abbrev cX8_scattered : ByteArray := prog_1_method_42_code
def yX8_scattered : MethodName := ⟨RX8, "scattered", "(III)I"⟩
abbrev cX8_worst : ByteArray := prog_1_method_43_code
def yX8_worst : MethodName := ⟨RX8, "worst", "(II)I"⟩
abbrev cX8_flipped : ByteArray := prog_1_method_44_code
def yX8_flipped : MethodName := ⟨RX8, "flipped", "(III)I"⟩
abbrev cX8_bestFlip : ByteArray := prog_1_method_45_code
def yX8_bestFlip : MethodName := ⟨RX8, "bestFlip", "(I)I"⟩
abbrev cX8_sweep : ByteArray := prog_1_method_46_code
def yX8_sweep : MethodName := ⟨RX8, "sweep", "(III)I"⟩
abbrev cX8_holds : ByteArray := prog_1_method_47_code
def yX8_holds : MethodName := ⟨RX8, "holds", "(II)I"⟩
abbrev cX8_sweepTrial : ByteArray := prog_1_method_48_code
def yX8_sweepTrial : MethodName := ⟨RX8, "sweepTrial", "(III)V"⟩
abbrev cX8_pairs : ByteArray := prog_1_method_49_code
def yX8_pairs : MethodName := ⟨RX8, "pairs", "(I)I"⟩
abbrev cX8_shares : ByteArray := prog_1_method_50_code
def yX8_shares : MethodName := ⟨RX8, "shares", "(I)I"⟩
abbrev cX8_room : ByteArray := prog_1_method_51_code
def yX8_room : MethodName := ⟨RX8, "room", "(I)I"⟩
abbrev cX8_crowd : ByteArray := prog_1_method_52_code
def yX8_crowd : MethodName := ⟨RX8, "crowd", "(IZ)I"⟩
abbrev cX8_gathered : ByteArray := prog_1_method_53_code
def yX8_gathered : MethodName := ⟨RX8, "gathered", "(I)I"⟩
abbrev cX8_fitting : ByteArray := prog_1_method_54_code
def yX8_fitting : MethodName := ⟨RX8, "fitting", "()I"⟩
abbrev cX8_fittingPlainly : ByteArray := prog_1_method_55_code
def yX8_fittingPlainly : MethodName := ⟨RX8, "fittingPlainly", "()I"⟩
abbrev cX8_pieces : ByteArray := prog_1_method_56_code
def yX8_pieces : MethodName := ⟨RX8, "pieces", "()I"⟩
abbrev cX8_piece : ByteArray := prog_1_method_57_code
def yX8_piece : MethodName := ⟨RX8, "piece", "(I)I"⟩
abbrev cX8_partIntoPieces : ByteArray := prog_1_method_58_code
def yX8_partIntoPieces : MethodName := ⟨RX8, "partIntoPieces", "()V"⟩
abbrev cX8_joinPieces : ByteArray := prog_1_method_59_code
def yX8_joinPieces : MethodName := ⟨RX8, "joinPieces", "(II)V"⟩
abbrev cX8_reach : ByteArray := prog_1_method_60_code
def yX8_reach : MethodName := ⟨RX8, "reach", "(II)I"⟩
abbrev cX8_candidate : ByteArray := prog_1_method_61_code
def yX8_candidate : MethodName := ⟨RX8, "candidate", "(II)I"⟩
abbrev cX8_victim : ByteArray := prog_1_method_62_code
def yX8_victim : MethodName := ⟨RX8, "victim", "(I)I"⟩
abbrev cX8_moved : ByteArray := prog_1_method_63_code
def yX8_moved : MethodName := ⟨RX8, "moved", "(II)I"⟩
abbrev cX8_length : ByteArray := prog_1_method_64_code
def yX8_length : MethodName := ⟨RX8, "length", "(I)I"⟩
abbrev cX8_step : ByteArray := prog_1_method_65_code
def yX8_step : MethodName := ⟨RX8, "step", "(II)I"⟩
abbrev cX8_wide : ByteArray := prog_1_method_66_code
def yX8_wide : MethodName := ⟨RX8, "wide", "(I)I"⟩
abbrev cX8_writes : ByteArray := prog_1_method_67_code
def yX8_writes : MethodName := ⟨RX8, "writes", "(I)I"⟩
abbrev cX8_working : ByteArray := prog_1_method_68_code
def yX8_working : MethodName := ⟨RX8, "working", "(II)I"⟩
abbrev cX8_hottest : ByteArray := prog_1_method_69_code
def yX8_hottest : MethodName := ⟨RX8, "hottest", "(IZ)I"⟩
abbrev cX8_hits : ByteArray := prog_1_method_70_code
def yX8_hits : MethodName := ⟨RX8, "hits", "(I)I"⟩
abbrev cX8_misses : ByteArray := prog_1_method_71_code
def yX8_misses : MethodName := ⟨RX8, "misses", "(II)I"⟩
abbrev cX8_deepest : ByteArray := prog_1_method_72_code
def yX8_deepest : MethodName := ⟨RX8, "deepest", "(I)I"⟩
abbrev cX8_suited : ByteArray := prog_1_method_73_code
def yX8_suited : MethodName := ⟨RX8, "suited", "(I)I"⟩
abbrev cX8_ideal : ByteArray := prog_1_method_74_code
def yX8_ideal : MethodName := ⟨RX8, "ideal", "(I)I"⟩
abbrev cX8_distance : ByteArray := prog_1_method_75_code
def yX8_distance : MethodName := ⟨RX8, "distance", "(II)I"⟩
abbrev cX8_recent : ByteArray := prog_1_method_76_code
def yX8_recent : MethodName := ⟨RX8, "recent", "(II)I"⟩
abbrev cX8_conflicts : ByteArray := prog_1_method_77_code
def yX8_conflicts : MethodName := ⟨RX8, "conflicts", "(I)I"⟩
abbrev cX8_missesForetold : ByteArray := prog_1_method_78_code
def yX8_missesForetold : MethodName := ⟨RX8, "missesForetold", "(LSkewedWays$Trace;I)I"⟩
abbrev cX8_missesByFamily : ByteArray := prog_1_method_79_code
def yX8_missesByFamily : MethodName := ⟨RX8, "missesByFamily", "(LSkewedWays$Trace;I)I"⟩
abbrev cX8_missesOn : ByteArray := prog_1_method_80_code
def yX8_missesOn : MethodName := ⟨RX8, "missesOn", "(LSkewedWays$Store;LSkewedWays$Trace;)I"⟩
abbrev cX8_ratio : ByteArray := prog_1_method_81_code
def yX8_ratio : MethodName := ⟨RX8, "ratio", "()J"⟩
abbrev cX8_image : ByteArray := prog_1_method_82_code
def yX8_image : MethodName := ⟨RX8, "image", "()I"⟩
abbrev cX8_back : ByteArray := prog_1_method_83_code
def yX8_back : MethodName := ⟨RX8, "back", "()I"⟩
abbrev cX8_about : ByteArray := prog_1_method_84_code
def yX8_about : MethodName := ⟨RX8, "about", "(I)I"⟩
abbrev cX8_isLine : ByteArray := prog_1_method_85_code
def yX8_isLine : MethodName := ⟨RX8, "isLine", "(I)Z"⟩
abbrev cX8_isDepth : ByteArray := prog_1_method_86_code
def yX8_isDepth : MethodName := ⟨RX8, "isDepth", "(I)Z"⟩
abbrev cX8_isStride : ByteArray := prog_1_method_87_code
def yX8_isStride : MethodName := ⟨RX8, "isStride", "(I)Z"⟩
abbrev cX8_isSwept : ByteArray := prog_1_method_88_code
def yX8_isSwept : MethodName := ⟨RX8, "isSwept", "(I)Z"⟩
abbrev cX8_isWay : ByteArray := prog_1_method_89_code
def yX8_isWay : MethodName := ⟨RX8, "isWay", "(I)Z"⟩
abbrev cX8_isMask : ByteArray := prog_1_method_90_code
def yX8_isMask : MethodName := ⟨RX8, "isMask", "(II)Z"⟩
abbrev cX8_isTrace : ByteArray := prog_1_method_91_code
def yX8_isTrace : MethodName := ⟨RX8, "isTrace", "(I)Z"⟩
abbrev cX8_placeHeld : ByteArray := prog_1_method_92_code
def yX8_placeHeld : MethodName := ⟨RX8, "placeHeld", "(I)I"⟩
abbrev cX8_maskAt : ByteArray := prog_1_method_93_code
def yX8_maskAt : MethodName := ⟨RX8, "maskAt", "(II)I"⟩
def RX9 : String := "SkewedWaysModel"
def TX9 : u_T := fun k => match k with
  | 0 => ("SkewedWaysModel", "a", "[I", true)
  | 1 => ("SkewedWaysModel", "image", "[I", true)
  | 2 => ("SkewedWaysModel", "texts", "[I", true)
  | 3 => ("SkewedWaysModel", "tape", "[I", true)
  | 4 => ("SkewedWaysModel", "taped", "I", false)
  | 5 => ("SkewedWaysModel", "fault", "I", false)
  | 6 => ("SkewedWaysModel", "faultPlace", "I", false)
  | 7 => ("SkewedWaysModel", "at", "I", false)
  | 8 => ("SkewedWaysModel", "place", "I", false)
  | 9 => ("SkewedWaysModel", "token", "I", false)
  | 10 => ("SkewedWaysModel", "number", "I", false)
  | 11 => ("SkewedWaysModel", "text0", "I", false)
  | 12 => ("SkewedWaysModel", "isLong", "Z", false)
  | 13 => ("SkewedWaysModel", "begins", "[I", true)
  | 14 => ("SkewedWaysModel", "opens", "I", false)
  | 15 => ("SkewedWaysModel", "found", "[I", true)
  | 16 => ("SkewedWaysModel", "foundFrom", "[I", true)
  | 17 => ("SkewedWaysModel", "isFound", "[Z", true)
  | 18 => ("SkewedWaysModel", "founds", "I", false)
  | 19 => ("SkewedWaysModel", "sums", "[I", true)
  | 20 => ("SkewedWaysModel", "aside", "[I", true)
  | 21 => ("SkewedWaysModel", "crowd", "[I", true)
  | 22 => ("SkewedWaysModel", "crowds", "I", false)
  | 23 => ("SkewedWaysModel", "crowdMost", "I", false)
  | 24 => ("SkewedWaysModel", "fitted", "[I", true)
  | 25 => ("SkewedWaysModel", "held", "[I", true)
  | 26 => ("SkewedWaysModel", "lookedFrom", "[I", true)
  | 27 => ("SkewedWaysModel", "cameBy", "[I", true)
  | 28 => ("SkewedWaysModel", "waiting", "[I", true)
  | 29 => ("SkewedWaysModel", "store", "[I", true)
  | _ => ("SkewedWaysModel", "stored", "I", false)
def tyX9 : Nat → FieldType := fun k => match k with
  | 0 => .array .int
  | 1 => .array .int
  | 2 => .array .int
  | 3 => .array .int
  | 4 => .int
  | 5 => .int
  | 6 => .int
  | 7 => .int
  | 8 => .int
  | 9 => .int
  | 10 => .int
  | 11 => .int
  | 12 => .boolean
  | 13 => .array .int
  | 14 => .int
  | 15 => .array .int
  | 16 => .array .int
  | 17 => .array .boolean
  | 18 => .int
  | 19 => .array .int
  | 20 => .array .int
  | 21 => .array .int
  | 22 => .int
  | 23 => .int
  | 24 => .array .int
  | 25 => .array .int
  | 26 => .array .int
  | 27 => .array .int
  | 28 => .array .int
  | 29 => .array .int
  | _ => .int
abbrev wsX90 : List Cond := u_ws RX9 TX9 31
theorem nmX9 : ∀ a, a < 31 → ∀ b, b < 31 → a ≠ b → (TX9 a).2.1 ≠ (TX9 b).2.1 := by decide +kernel
theorem tyX9_ok : ∀ k, k < 31 → parseFieldDescriptor (TX9 k).2.2.1 = some (tyX9 k) := by decide +kernel
abbrev cX9_init : ByteArray := prog_11_method_1_code
def yX9_init : MethodName := ⟨RX9, "<init>", "()V"⟩
abbrev cX9_copy : ByteArray := prog_11_method_2_code
def yX9_copy : MethodName := ⟨RX9, "copy", "([I[I)V"⟩
abbrev cX9_isIn : ByteArray := prog_11_method_3_code
def yX9_isIn : MethodName := ⟨RX9, "isIn", "(III)Z"⟩
abbrev cX9_isLine : ByteArray := prog_11_method_4_code
def yX9_isLine : MethodName := ⟨RX9, "isLine", "(I)Z"⟩
abbrev cX9_isWay : ByteArray := prog_11_method_5_code
def yX9_isWay : MethodName := ⟨RX9, "isWay", "(I)Z"⟩
abbrev cX9_slotsOf : ByteArray := prog_11_method_6_code
def yX9_slotsOf : MethodName := ⟨RX9, "slotsOf", "()I"⟩
abbrev cX9_slotsAll : ByteArray := prog_11_method_7_code
def yX9_slotsAll : MethodName := ⟨RX9, "slotsAll", "()I"⟩
abbrev cX9_many : ByteArray := prog_11_method_8_code
def yX9_many : MethodName := ⟨RX9, "many", "(I)I"⟩
abbrev cX9_maskAt : ByteArray := prog_11_method_9_code
def yX9_maskAt : MethodName := ⟨RX9, "maskAt", "(II)I"⟩
abbrev cX9_indexOf : ByteArray := prog_11_method_10_code
def yX9_indexOf : MethodName := ⟨RX9, "indexOf", "(II)I"⟩
abbrev cX9_at : ByteArray := prog_11_method_11_code
def yX9_at : MethodName := ⟨RX9, "at", "(I)I"⟩
abbrev cX9_placeOf : ByteArray := prog_11_method_12_code
def yX9_placeOf : MethodName := ⟨RX9, "placeOf", "(II)I"⟩
abbrev cX9_lineAt : ByteArray := prog_11_method_13_code
def yX9_lineAt : MethodName := ⟨RX9, "lineAt", "(I)I"⟩
abbrev cX9_placeWith : ByteArray := prog_11_method_14_code
def yX9_placeWith : MethodName := ⟨RX9, "placeWith", "(I)I"⟩
abbrev cX9_four : ByteArray := prog_11_method_15_code
def yX9_four : MethodName := ⟨RX9, "four", "(I)V"⟩
abbrev cX9_feed : ByteArray := prog_11_method_16_code
def yX9_feed : MethodName := ⟨RX9, "feed", "(IIIII)I"⟩
abbrev cX9_end : ByteArray := prog_11_method_17_code
def yX9_end : MethodName := ⟨RX9, "end", "(I)I"⟩
abbrev cX9_byteAt : ByteArray := prog_11_method_18_code
def yX9_byteAt : MethodName := ⟨RX9, "byteAt", "(I)I"⟩
abbrev cX9_isFigure : ByteArray := prog_11_method_19_code
def yX9_isFigure : MethodName := ⟨RX9, "isFigure", "(I)Z"⟩
abbrev cX9_isSign : ByteArray := prog_11_method_20_code
def yX9_isSign : MethodName := ⟨RX9, "isSign", "(I)Z"⟩
abbrev cX9_nextToken : ByteArray := prog_11_method_21_code
def yX9_nextToken : MethodName := ⟨RX9, "nextToken", "()V"⟩
abbrev cX9_lay : ByteArray := prog_11_method_22_code
def yX9_lay : MethodName := ⟨RX9, "lay", "(II)V"⟩
abbrev cX9_numberIn : ByteArray := prog_11_method_23_code
def yX9_numberIn : MethodName := ⟨RX9, "numberIn", "(II)I"⟩
abbrev cX9_askItem : ByteArray := prog_11_method_24_code
def yX9_askItem : MethodName := ⟨RX9, "askItem", "()I"⟩
abbrev cX9_writeItem : ByteArray := prog_11_method_25_code
def yX9_writeItem : MethodName := ⟨RX9, "writeItem", "()I"⟩
abbrev cX9_openItem : ByteArray := prog_11_method_26_code
def yX9_openItem : MethodName := ⟨RX9, "openItem", "()I"⟩
abbrev cX9_shutItem : ByteArray := prog_11_method_27_code
def yX9_shutItem : MethodName := ⟨RX9, "shutItem", "()I"⟩
abbrev cX9_item : ByteArray := prog_11_method_28_code
def yX9_item : MethodName := ⟨RX9, "item", "()I"⟩
abbrev cX9_readText : ByteArray := prog_11_method_29_code
def yX9_readText : MethodName := ⟨RX9, "readText", "()I"⟩
abbrev cX9_text : ByteArray := prog_11_method_30_code
def yX9_text : MethodName := ⟨RX9, "text", "()I"⟩
abbrev cX9_fault : ByteArray := prog_11_method_31_code
def yX9_fault : MethodName := ⟨RX9, "fault", "(I)I"⟩
abbrev cX9_find : ByteArray := prog_11_method_32_code
def yX9_find : MethodName := ⟨RX9, "find", "(II)V"⟩
abbrev cX9_layFound : ByteArray := prog_11_method_33_code
def yX9_layFound : MethodName := ⟨RX9, "layFound", "(II)V"⟩
abbrev cX9_taken : ByteArray := prog_11_method_34_code
def yX9_taken : MethodName := ⟨RX9, "taken", "()I"⟩
abbrev cX9_writeDown : ByteArray := prog_11_method_35_code
def yX9_writeDown : MethodName := ⟨RX9, "writeDown", "(IIII)V"⟩
abbrev cX9_goesBack : ByteArray := prog_11_method_36_code
def yX9_goesBack : MethodName := ⟨RX9, "goesBack", "(I)Z"⟩
abbrev cX9_layLine : ByteArray := prog_11_method_37_code
def yX9_layLine : MethodName := ⟨RX9, "layLine", "(II)V"⟩
abbrev cX9_comeIn : ByteArray := prog_11_method_38_code
def yX9_comeIn : MethodName := ⟨RX9, "comeIn", "(I)V"⟩
abbrev cX9_askNow : ByteArray := prog_11_method_39_code
def yX9_askNow : MethodName := ⟨RX9, "askNow", "(I)Z"⟩
abbrev cX9_writeNow : ByteArray := prog_11_method_40_code
def yX9_writeNow : MethodName := ⟨RX9, "writeNow", "(II)Z"⟩
abbrev cX9_emptyNow : ByteArray := prog_11_method_41_code
def yX9_emptyNow : MethodName := ⟨RX9, "emptyNow", "()I"⟩
abbrev cX9_drawn : ByteArray := prog_11_method_42_code
def yX9_drawn : MethodName := ⟨RX9, "drawn", "()I"⟩
abbrev cX9_maskBy : ByteArray := prog_11_method_43_code
def yX9_maskBy : MethodName := ⟨RX9, "maskBy", "(III)I"⟩
abbrev cX9_layFamily : ByteArray := prog_11_method_44_code
def yX9_layFamily : MethodName := ⟨RX9, "layFamily", "(I)V"⟩
abbrev cX9_rankOf : ByteArray := prog_11_method_45_code
def yX9_rankOf : MethodName := ⟨RX9, "rankOf", "(I)I"⟩
abbrev cX9_putAside : ByteArray := prog_11_method_46_code
def yX9_putAside : MethodName := ⟨RX9, "putAside", "()V"⟩
abbrev cX9_bringBack : ByteArray := prog_11_method_47_code
def yX9_bringBack : MethodName := ⟨RX9, "bringBack", "()V"⟩
abbrev cX9_stepAt : ByteArray := prog_11_method_48_code
def yX9_stepAt : MethodName := ⟨RX9, "stepAt", "(II)I"⟩
abbrev cX9_keep : ByteArray := prog_11_method_49_code
def yX9_keep : MethodName := ⟨RX9, "keep", "()V"⟩
abbrev cX9_undo : ByteArray := prog_11_method_50_code
def yX9_undo : MethodName := ⟨RX9, "undo", "()I"⟩
abbrev cX9_ask : ByteArray := prog_11_method_51_code
def yX9_ask : MethodName := ⟨RX9, "ask", "(I)I"⟩
abbrev cX9_write : ByteArray := prog_11_method_52_code
def yX9_write : MethodName := ⟨RX9, "write", "(II)Z"⟩
abbrev cX9_pin : ByteArray := prog_11_method_53_code
def yX9_pin : MethodName := ⟨RX9, "pin", "(IZ)Z"⟩
abbrev cX9_isDirty : ByteArray := prog_11_method_54_code
def yX9_isDirty : MethodName := ⟨RX9, "isDirty", "(I)Z"⟩
abbrev cX9_clean : ByteArray := prog_11_method_55_code
def yX9_clean : MethodName := ⟨RX9, "clean", "(I)I"⟩
abbrev cX9_leave : ByteArray := prog_11_method_56_code
def yX9_leave : MethodName := ⟨RX9, "leave", "(I)I"⟩
abbrev cX9_cool : ByteArray := prog_11_method_57_code
def yX9_cool : MethodName := ⟨RX9, "cool", "()I"⟩
abbrev cX9_change : ByteArray := prog_11_method_58_code
def yX9_change : MethodName := ⟨RX9, "change", "(II)V"⟩
abbrev cX9_trade : ByteArray := prog_11_method_59_code
def yX9_trade : MethodName := ⟨RX9, "trade", "(II)Z"⟩
abbrev cX9_empty : ByteArray := prog_11_method_60_code
def yX9_empty : MethodName := ⟨RX9, "empty", "()I"⟩
abbrev cX9_shape : ByteArray := prog_11_method_61_code
def yX9_shape : MethodName := ⟨RX9, "shape", "(II)I"⟩
abbrev cX9_family : ByteArray := prog_11_method_62_code
def yX9_family : MethodName := ⟨RX9, "family", "(I)I"⟩
abbrev cX9_isBit : ByteArray := prog_11_method_63_code
def yX9_isBit : MethodName := ⟨RX9, "isBit", "(II)Z"⟩
abbrev cX9_mask : ByteArray := prog_11_method_64_code
def yX9_mask : MethodName := ⟨RX9, "mask", "(III)I"⟩
abbrev cX9_depth : ByteArray := prog_11_method_65_code
def yX9_depth : MethodName := ⟨RX9, "depth", "(I)Z"⟩
abbrev cX9_isTrace : ByteArray := prog_11_method_66_code
def yX9_isTrace : MethodName := ⟨RX9, "isTrace", "(I)Z"⟩
abbrev cX9_lengthOf : ByteArray := prog_11_method_67_code
def yX9_lengthOf : MethodName := ⟨RX9, "lengthOf", "(I)I"⟩
abbrev cX9_lineOf : ByteArray := prog_11_method_68_code
def yX9_lineOf : MethodName := ⟨RX9, "lineOf", "(II)I"⟩
abbrev cX9_valueIn : ByteArray := prog_11_method_69_code
def yX9_valueIn : MethodName := ⟨RX9, "valueIn", "(II)I"⟩
abbrev cX9_runNow : ByteArray := prog_11_method_70_code
def yX9_runNow : MethodName := ⟨RX9, "runNow", "(I)I"⟩
abbrev cX9_run : ByteArray := prog_11_method_71_code
def yX9_run : MethodName := ⟨RX9, "run", "(I)I"⟩
abbrev cX9_tell : ByteArray := prog_11_method_72_code
def yX9_tell : MethodName := ⟨RX9, "tell", "(I)Z"⟩
abbrev cX9_gatheredAt : ByteArray := prog_11_method_73_code
def yX9_gatheredAt : MethodName := ⟨RX9, "gatheredAt", "(I)I"⟩
abbrev cX9_gather : ByteArray := prog_11_method_74_code
def yX9_gather : MethodName := ⟨RX9, "gather", "(I)I"⟩
abbrev cX9_scatter : ByteArray := prog_11_method_75_code
def yX9_scatter : MethodName := ⟨RX9, "scatter", "(I)Z"⟩
abbrev cX9_collect : ByteArray := prog_11_method_76_code
def yX9_collect : MethodName := ⟨RX9, "collect", "(I)I"⟩
abbrev cX9_gathered : ByteArray := prog_11_method_77_code
def yX9_gathered : MethodName := ⟨RX9, "gathered", "(I)I"⟩
abbrev cX9_inSlots : ByteArray := prog_11_method_78_code
def yX9_inSlots : MethodName := ⟨RX9, "inSlots", "()I"⟩
abbrev cX9_pinned : ByteArray := prog_11_method_79_code
def yX9_pinned : MethodName := ⟨RX9, "pinned", "()I"⟩
abbrev cX9_is : ByteArray := prog_11_method_80_code
def yX9_is : MethodName := ⟨RX9, "is", "(I)I"⟩
abbrev cX9_masked : ByteArray := prog_11_method_81_code
def yX9_masked : MethodName := ⟨RX9, "masked", "(II)I"⟩
abbrev cX9_index : ByteArray := prog_11_method_82_code
def yX9_index : MethodName := ⟨RX9, "index", "(II)I"⟩
abbrev cX9_slot : ByteArray := prog_11_method_83_code
def yX9_slot : MethodName := ⟨RX9, "slot", "(III)I"⟩
abbrev cX9_where : ByteArray := prog_11_method_84_code
def yX9_where : MethodName := ⟨RX9, "where", "(I)I"⟩
abbrev cX9_memory : ByteArray := prog_11_method_85_code
def yX9_memory : MethodName := ⟨RX9, "memory", "(I)I"⟩
abbrev cX9_valueOf : ByteArray := prog_11_method_86_code
def yX9_valueOf : MethodName := ⟨RX9, "valueOf", "(I)I"⟩
abbrev cX9_value : ByteArray := prog_11_method_87_code
def yX9_value : MethodName := ⟨RX9, "value", "(I)I"⟩
abbrev cX9_aged : ByteArray := prog_11_method_88_code
def yX9_aged : MethodName := ⟨RX9, "aged", "(I)I"⟩
abbrev cX9_book : ByteArray := prog_11_method_89_code
def yX9_book : MethodName := ⟨RX9, "book", "(II)I"⟩
abbrev cX9_stale : ByteArray := prog_11_method_90_code
def yX9_stale : MethodName := ⟨RX9, "stale", "()I"⟩
abbrev cX9_rank : ByteArray := prog_11_method_91_code
def yX9_rank : MethodName := ⟨RX9, "rank", "(II)I"⟩
abbrev cX9_togetherIn : ByteArray := prog_11_method_92_code
def yX9_togetherIn : MethodName := ⟨RX9, "togetherIn", "(II)I"⟩
abbrev cX9_twins : ByteArray := prog_11_method_93_code
def yX9_twins : MethodName := ⟨RX9, "twins", "(I)I"⟩
abbrev cX9_twin : ByteArray := prog_11_method_94_code
def yX9_twin : MethodName := ⟨RX9, "twin", "(II)I"⟩
abbrev cX9_together : ByteArray := prog_11_method_95_code
def yX9_together : MethodName := ⟨RX9, "together", "(II)I"⟩
abbrev cX9_areTwins : ByteArray := prog_11_method_96_code
def yX9_areTwins : MethodName := ⟨RX9, "areTwins", "(II)Z"⟩
abbrev cX9_pairs : ByteArray := prog_11_method_97_code
def yX9_pairs : MethodName := ⟨RX9, "pairs", "(I)I"⟩
abbrev cX9_shares : ByteArray := prog_11_method_98_code
def yX9_shares : MethodName := ⟨RX9, "shares", "(I)I"⟩
abbrev cX9_laySpread : ByteArray := prog_11_method_99_code
def yX9_laySpread : MethodName := ⟨RX9, "laySpread", "(III)V"⟩
abbrev cX9_isStride : ByteArray := prog_11_method_100_code
def yX9_isStride : MethodName := ⟨RX9, "isStride", "(II)Z"⟩
abbrev cX9_spread : ByteArray := prog_11_method_101_code
def yX9_spread : MethodName := ⟨RX9, "spread", "(IIII)I"⟩
abbrev cX9_isEven : ByteArray := prog_11_method_102_code
def yX9_isEven : MethodName := ⟨RX9, "isEven", "(II)Z"⟩
abbrev cX9_evenOf : ByteArray := prog_11_method_103_code
def yX9_evenOf : MethodName := ⟨RX9, "evenOf", "(I)I"⟩
abbrev cX9_even : ByteArray := prog_11_method_104_code
def yX9_even : MethodName := ⟨RX9, "even", "(I)I"⟩
abbrev cX9_evenAll : ByteArray := prog_11_method_105_code
def yX9_evenAll : MethodName := ⟨RX9, "evenAll", "()I"⟩
abbrev cX9_scattered : ByteArray := prog_11_method_106_code
def yX9_scattered : MethodName := ⟨RX9, "scattered", "(III)I"⟩
abbrev cX9_worst : ByteArray := prog_11_method_107_code
def yX9_worst : MethodName := ⟨RX9, "worst", "(II)I"⟩
abbrev cX9_flippedBy : ByteArray := prog_11_method_108_code
def yX9_flippedBy : MethodName := ⟨RX9, "flippedBy", "(III)I"⟩
abbrev cX9_flipped : ByteArray := prog_11_method_109_code
def yX9_flipped : MethodName := ⟨RX9, "flipped", "(III)I"⟩
abbrev cX9_bestFlip : ByteArray := prog_11_method_110_code
def yX9_bestFlip : MethodName := ⟨RX9, "bestFlip", "(I)I"⟩
abbrev cX9_fits : ByteArray := prog_11_method_111_code
def yX9_fits : MethodName := ⟨RX9, "fits", "(I)Z"⟩
abbrev cX9_goOn : ByteArray := prog_11_method_112_code
def yX9_goOn : MethodName := ⟨RX9, "goOn", "(I)V"⟩
abbrev cX9_layFitted : ByteArray := prog_11_method_113_code
def yX9_layFitted : MethodName := ⟨RX9, "layFitted", "()V"⟩
abbrev cX9_fitting : ByteArray := prog_11_method_114_code
def yX9_fitting : MethodName := ⟨RX9, "fitting", "()I"⟩
abbrev cX9_room : ByteArray := prog_11_method_115_code
def yX9_room : MethodName := ⟨RX9, "room", "(I)I"⟩
abbrev cX9_crowd : ByteArray := prog_11_method_116_code
def yX9_crowd : MethodName := ⟨RX9, "crowd", "(IZ)I"⟩
abbrev cX9_fittingPlainly : ByteArray := prog_11_method_117_code
def yX9_fittingPlainly : MethodName := ⟨RX9, "fittingPlainly", "()I"⟩
abbrev cX9_pieceOf : ByteArray := prog_11_method_118_code
def yX9_pieceOf : MethodName := ⟨RX9, "pieceOf", "(I)I"⟩
abbrev cX9_pieces : ByteArray := prog_11_method_119_code
def yX9_pieces : MethodName := ⟨RX9, "pieces", "()I"⟩
abbrev cX9_piece : ByteArray := prog_11_method_120_code
def yX9_piece : MethodName := ⟨RX9, "piece", "(I)I"⟩
abbrev cX9_reach : ByteArray := prog_11_method_121_code
def yX9_reach : MethodName := ⟨RX9, "reach", "(II)I"⟩
abbrev cX9_candidate : ByteArray := prog_11_method_122_code
def yX9_candidate : MethodName := ⟨RX9, "candidate", "(II)I"⟩
abbrev cX9_victim : ByteArray := prog_11_method_123_code
def yX9_victim : MethodName := ⟨RX9, "victim", "(I)I"⟩
abbrev cX9_moved : ByteArray := prog_11_method_124_code
def yX9_moved : MethodName := ⟨RX9, "moved", "(II)I"⟩
abbrev cX9_length : ByteArray := prog_11_method_125_code
def yX9_length : MethodName := ⟨RX9, "length", "(I)I"⟩
abbrev cX9_step : ByteArray := prog_11_method_126_code
def yX9_step : MethodName := ⟨RX9, "step", "(II)I"⟩
abbrev cX9_latest : ByteArray := prog_11_method_127_code
def yX9_latest : MethodName := ⟨RX9, "latest", "(II)I"⟩
abbrev cX9_wide : ByteArray := prog_11_method_128_code
def yX9_wide : MethodName := ⟨RX9, "wide", "(I)I"⟩
abbrev cX9_writes : ByteArray := prog_11_method_129_code
def yX9_writes : MethodName := ⟨RX9, "writes", "(I)I"⟩
abbrev cX9_working : ByteArray := prog_11_method_130_code
def yX9_working : MethodName := ⟨RX9, "working", "(II)I"⟩
abbrev cX9_timesOf : ByteArray := prog_11_method_131_code
def yX9_timesOf : MethodName := ⟨RX9, "timesOf", "(II)I"⟩
abbrev cX9_hottest : ByteArray := prog_11_method_132_code
def yX9_hottest : MethodName := ⟨RX9, "hottest", "(IZ)I"⟩
abbrev cX9_hits : ByteArray := prog_11_method_133_code
def yX9_hits : MethodName := ⟨RX9, "hits", "(I)I"⟩
abbrev cX9_missesBy : ByteArray := prog_11_method_134_code
def yX9_missesBy : MethodName := ⟨RX9, "missesBy", "(III)I"⟩
abbrev cX9_misses : ByteArray := prog_11_method_135_code
def yX9_misses : MethodName := ⟨RX9, "misses", "(II)I"⟩
abbrev cX9_sweepNow : ByteArray := prog_11_method_136_code
def yX9_sweepNow : MethodName := ⟨RX9, "sweepNow", "(III)I"⟩
abbrev cX9_isSwept : ByteArray := prog_11_method_137_code
def yX9_isSwept : MethodName := ⟨RX9, "isSwept", "(II)Z"⟩
abbrev cX9_sweep : ByteArray := prog_11_method_138_code
def yX9_sweep : MethodName := ⟨RX9, "sweep", "(III)I"⟩
abbrev cX9_holds : ByteArray := prog_11_method_139_code
def yX9_holds : MethodName := ⟨RX9, "holds", "(II)I"⟩
abbrev cX9_deepest : ByteArray := prog_11_method_140_code
def yX9_deepest : MethodName := ⟨RX9, "deepest", "(I)I"⟩
abbrev cX9_suited : ByteArray := prog_11_method_141_code
def yX9_suited : MethodName := ⟨RX9, "suited", "(I)I"⟩
abbrev cX9_nextOf : ByteArray := prog_11_method_142_code
def yX9_nextOf : MethodName := ⟨RX9, "nextOf", "(III)I"⟩
abbrev cX9_latestOf : ByteArray := prog_11_method_143_code
def yX9_latestOf : MethodName := ⟨RX9, "latestOf", "(III)I"⟩
abbrev cX9_isStored : ByteArray := prog_11_method_144_code
def yX9_isStored : MethodName := ⟨RX9, "isStored", "(I)Z"⟩
abbrev cX9_missesWith : ByteArray := prog_11_method_145_code
def yX9_missesWith : MethodName := ⟨RX9, "missesWith", "(IIZ)I"⟩
abbrev cX9_ideal : ByteArray := prog_11_method_146_code
def yX9_ideal : MethodName := ⟨RX9, "ideal", "(I)I"⟩
abbrev cX9_distance : ByteArray := prog_11_method_147_code
def yX9_distance : MethodName := ⟨RX9, "distance", "(II)I"⟩
abbrev cX9_recent : ByteArray := prog_11_method_148_code
def yX9_recent : MethodName := ⟨RX9, "recent", "(II)I"⟩
abbrev cX9_conflicts : ByteArray := prog_11_method_149_code
def yX9_conflicts : MethodName := ⟨RX9, "conflicts", "(I)I"⟩
abbrev cX9_ratio : ByteArray := prog_11_method_150_code
def yX9_ratio : MethodName := ⟨RX9, "ratio", "()J"⟩
abbrev cX9_image : ByteArray := prog_11_method_151_code
def yX9_image : MethodName := ⟨RX9, "image", "()I"⟩
abbrev cX9_back : ByteArray := prog_11_method_152_code
def yX9_back : MethodName := ⟨RX9, "back", "()I"⟩
abbrev cX9_about : ByteArray := prog_11_method_153_code
def yX9_about : MethodName := ⟨RX9, "about", "(I)I"⟩
def RJxe99ae : String := "java/lang/Double"
abbrev cJxe99ae_isNaN_b9ae7 : ByteArray := prog_12_method_6_code
def yJxe99ae_isNaN_b9ae7 : MethodName := ⟨RJxe99ae, "isNaN", "(D)Z"⟩
abbrev cJxe99ae_doubleToLongBits_ccdee : ByteArray := prog_12_method_23_code
def yJxe99ae_doubleToLongBits_ccdee : MethodName := ⟨RJxe99ae, "doubleToLongBits", "(D)J"⟩
def RJ6 : String := "java/lang/Integer"
def TJ6 : u_T := fun k => match k with
  | _ => ("", "", "", false)
def tyJ6 : Nat → FieldType := fun k => match k with
  | _ => .int
abbrev wsJ60 : List Cond := u_ws RJ6 TJ6 0
theorem nmJ6 : ∀ a, a < 0 → ∀ b, b < 0 → a ≠ b → (TJ6 a).2.1 ≠ (TJ6 b).2.1 := by decide +kernel
theorem tyJ6_ok : ∀ k, k < 0 → parseFieldDescriptor (TJ6 k).2.2.1 = some (tyJ6 k) := by decide +kernel
abbrev cJ6_bitCount_0f7a4 : ByteArray := prog_13_method_49_code
def yJ6_bitCount_0f7a4 : MethodName := ⟨RJ6, "bitCount", "(I)I"⟩
def RJ9 : String := "java/lang/Math"
def TJ9 : u_T := fun k => match k with
  | _ => ("", "", "", false)
def tyJ9 : Nat → FieldType := fun k => match k with
  | _ => .int
abbrev wsJ90 : List Cond := u_ws RJ9 TJ9 0
theorem nmJ9 : ∀ a, a < 0 → ∀ b, b < 0 → a ≠ b → (TJ9 a).2.1 ≠ (TJ9 b).2.1 := by decide +kernel
theorem tyJ9_ok : ∀ k, k < 0 → parseFieldDescriptor (TJ9 k).2.2.1 = some (tyJ9 k) := by decide +kernel
abbrev cJ9_max_7cf53 : ByteArray := prog_14_method_65_code
def yJ9_max_7cf53 : MethodName := ⟨RJ9, "max", "(II)I"⟩
abbrev cJ9_min_7cf53 : ByteArray := prog_14_method_69_code
def yJ9_min_7cf53 : MethodName := ⟨RJ9, "min", "(II)I"⟩
def RJ10 : String := "java/lang/System"
def TJ10 : u_T := fun k => match k with
  | _ => ("", "", "", false)
def tyJ10 : Nat → FieldType := fun k => match k with
  | _ => .int
abbrev wsJ100 : List Cond := u_ws RJ10 TJ10 0
theorem nmJ10 : ∀ a, a < 0 → ∀ b, b < 0 → a ≠ b → (TJ10 a).2.1 ≠ (TJ10 b).2.1 := by decide +kernel
theorem tyJ10_ok : ∀ k, k < 0 → parseFieldDescriptor (TJ10 k).2.2.1 = some (tyJ10 k) := by decide +kernel
def RJ7 : String := "java/util/Arrays"
def TJ7 : u_T := fun k => match k with
  | _ => ("", "", "", false)
def tyJ7 : Nat → FieldType := fun k => match k with
  | _ => .int
abbrev wsJ70 : List Cond := u_ws RJ7 TJ7 0
theorem nmJ7 : ∀ a, a < 0 → ∀ b, b < 0 → a ≠ b → (TJ7 a).2.1 ≠ (TJ7 b).2.1 := by decide +kernel
theorem tyJ7_ok : ∀ k, k < 0 → parseFieldDescriptor (TJ7 k).2.2.1 = some (tyJ7 k) := by decide +kernel
abbrev cJ7_fill_53178 : ByteArray := prog_17_method_103_code
def yJ7_fill_53178 : MethodName := ⟨RJ7, "fill", "([II)V"⟩
def RL : String := "SkewedWaysLaw"
abbrev cL_law : ByteArray := code
def yL_law : MethodName := ⟨RL, "law", "([I)Z"⟩
abbrev vwCl : List vw_C := [(RX0, TX0, 10), (RX1, TX1, 4), (RX2, TX2, 6), (RX3, TX3, 14), (RX4, TX4, 5), (RX5, TX5, 3), (RX6, TX6, 8), (RX7, TX7, 2), (RX8, TX8, 14), (RX9, TX9, 31)]
end
section
/-! The abstract layer: a memory of numbers by (kind, number of the object, place), a judgement gw over it, one rule an instruction. -/
def gIsNest : Cond → Bool
  | .fieldLinkNest .. => true
  | .methodLinkNest .. => true
  | _ => false
def gU : List Cond := lw_tbl.filter goodWord
def gNL : List Cond := tables_1.filter gIsNest
theorem gU_mem {w : Cond} (h : w ∈ lw_tbl) (g : goodWord w = true) : w ∈ gU := List.mem_filter.mpr ⟨h, g⟩
theorem gNL_mem {w : Cond} (h : w ∈ tables_1) (g : gIsNest w = true) : w ∈ gNL := List.mem_filter.mpr ⟨h, g⟩
theorem gU_good {c c0 : Cond} (hc : c ∈ gU) : GoodIn (c0 :: gU) (c :: gU) := by
  intro w hw
  have h1 : w ∈ gU := by
    rcases List.mem_cons.mp hw with h | h
    · rw [h]; exact hc
    · exact h
  exact ⟨List.mem_cons_of_mem _ h1, good_of_word (List.mem_filter.mp h1).2⟩
def gNW (U : State) : Prop := ∀ w ∈ gNL, va_Nw w U
theorem gNW_warm {s U : State} (hW : s.WarmedH U.vm) (h : gNW s) : gNW U := by
  intro w hw
  have h1 := h w hw
  have h2 := (List.mem_filter.mp hw).2
  cases w <;> first | exact va_Nw.warmF hW h1 | exact va_Nw.warmM hW h1 | cases h2
theorem gNW_same {s U : State} (hv : s.vm = U.vm) (h : gNW s) : gNW U := by
  intro w hw
  have h1 := h w hw
  have h2 := (List.mem_filter.mp hw).2
  cases w <;> first | exact va_Nw.same rfl hv h1 | cases h2
def grm (h : Nat) : Room := { frames := h, cells := 0, slots := 0, locals := 36 * h }
abbrev gM : Type := Nat → Nat → Nat → Int32
abbrev gV : Type := Int32 ⊕ (Nat × Nat)
abbrev gE : Type := va_G × (Nat → ClassId) × (Nat → Nat → Nat) × (Nat → Nat)
def gup (σ : gM) (t k i : Nat) (v : Int32) : gM := fun t' k' i' => if t' = t ∧ k' = k ∧ i' = i then v else σ t' k' i'
def gcp (σ : gM) (t0 k0 t1 k1 sp dp n : Nat) : gM := fun t k => if t = t1 ∧ k = k1 then va_cpy (σ t0 k0) (σ t1 k1) sp dp n else σ t k

def glen (t : Nat) : Nat := match t with
  | 16 => 4
  | 25 => 16
  | 26 => 6
  | 27 => 96
  | 28 => 1024
  | 34 => 1024
  | 35 => 600
  | 38 => 600
  | 39 => 600
  | 40 => 32
  | 41 => 20
  | 42 => 4
  | 43 => 16
  | 44 => 16
  | 45 => 32
  | 46 => 300
  | 47 => 30843
  | 48 => 30843
  | 49 => 4804
  | 50 => 300
  | 51 => 4
  | 55 => 10
  | 56 => 1467
  | 57 => 16
  | _ => 64
def gnf (t : Nat) : Nat := match t with
  | 0 => 10
  | 1 => 4
  | 2 => 6
  | 3 => 14
  | 4 => 5
  | 5 => 3
  | 6 => 8
  | 7 => 2
  | 8 => 14
  | 9 => 31
  | _ => 0
def gref (t j k : Nat) : Option (Nat × Nat) := match t, j with
  | 0, 0 => some (16, k)
  | 1, 0 => some (17, k)
  | 1, 1 => some (18, k)
  | 1, 2 => some (19, k)
  | 2, 0 => some (20, k)
  | 2, 1 => some (21, k)
  | 2, 2 => some (22, k)
  | 2, 3 => some (23, k)
  | 2, 4 => some (24, k)
  | 3, 5 => some (25, k)
  | 3, 6 => some (26, k)
  | 3, 7 => some (27, k)
  | 3, 8 => some (28, k)
  | 3, 9 => some (29, k)
  | 3, 10 => some (30, k)
  | 3, 11 => some (31, k)
  | 3, 12 => some (32, k)
  | 3, 13 => some (33, k)
  | 4, 0 => some (34, k)
  | 4, 1 => some (35, k)
  | 4, 2 => some (36, k)
  | 4, 3 => some (37, k)
  | 5, 0 => some (38, k)
  | 5, 1 => some (39, k)
  | 6, 0 => some (3, 21 * k)
  | 6, 1 => some (41, k)
  | 6, 2 => some (42, k)
  | 6, 3 => some (40, k)
  | 7, 0 => some (43, k)
  | 7, 1 => some (44, k)
  | 8, 0 => some (6, 0)
  | 8, 1 => some (6, 1)
  | 8, 2 => some (3, 42)
  | 8, 3 => some (1, 0)
  | 8, 4 => some (7, 0)
  | 8, 5 => some (2, 0)
  | 8, 6 => some (4, 0)
  | 8, 7 => some (0, 0)
  | 8, 8 => some (5, 8)
  | 8, 9 => some (45, 0)
  | 8, 10 => some (46, 0)
  | 9, 0 => some (47, k)
  | 9, 1 => some (48, k)
  | 9, 2 => some (49, k)
  | 9, 3 => some (50, k)
  | 9, 13 => some (51, k)
  | 9, 15 => some (52, k)
  | 9, 16 => some (53, k)
  | 9, 17 => some (54, k)
  | 9, 19 => some (55, k)
  | 9, 20 => some (56, k)
  | 9, 21 => some (57, k)
  | 9, 24 => some (58, k)
  | 9, 25 => some (59, k)
  | 9, 26 => some (60, k)
  | 9, 27 => some (61, k)
  | 9, 28 => some (62, k)
  | 9, 29 => some (63, k)
  | _, _ => none
def garef (t k i : Nat) : Nat × Nat := match t with
  | 41 => (3, 21 * k + 1 + i)
  | _ => (5, 4 * k + i)
def gcX (t : Nat) : Nat := match t with
  | 0 => 1
  | 1 => 1
  | 2 => 1
  | 3 => 43
  | 4 => 1
  | 5 => 9
  | 6 => 2
  | 7 => 1
  | 8 => 1
  | 16 => 1
  | 17 => 1
  | 18 => 1
  | 19 => 1
  | 20 => 1
  | 21 => 1
  | 22 => 1
  | 23 => 1
  | 24 => 1
  | 25 => 43
  | 26 => 43
  | 27 => 43
  | 28 => 43
  | 29 => 43
  | 30 => 43
  | 31 => 43
  | 32 => 43
  | 33 => 43
  | 34 => 1
  | 35 => 1
  | 36 => 1
  | 37 => 1
  | 38 => 9
  | 39 => 9
  | 40 => 2
  | 41 => 2
  | 42 => 2
  | 43 => 1
  | 44 => 1
  | 45 => 1
  | 46 => 1
  | _ => 0
def gcM (t : Nat) : Nat := match t with
  | 9 => 1
  | 47 => 1
  | 48 => 1
  | 49 => 1
  | 50 => 1
  | 51 => 1
  | 52 => 1
  | 53 => 1
  | 54 => 1
  | 55 => 1
  | 56 => 1
  | 57 => 1
  | 58 => 1
  | 59 => 1
  | 60 => 1
  | 61 => 1
  | 62 => 1
  | 63 => 1
  | _ => 0
def gcls (t : Nat) : Nat := if t = 54 then 1 else if t = 41 then 2 else if t = 42 then 3 else 0
def gia (t : Nat) : Bool := decide (10 ≤ t) && (t != 41) && (t != 42) && (t != 54)
def gin (E : gE) (q : Nat × Nat) : Prop := q.1 < 64 ∧ q.2 < E.2.2.2 q.1
def gok (E : gE) : gV → Prop
  | .inl _ => True
  | .inr q => gin E q
def gv (E : gE) : gV → Value
  | .inl x => .int x
  | .inr q => .ref (E.2.2.1 q.1 q.2)
def gfv (σ : gM) (t k j : Nat) : gV := match gref t j k with
  | some q => .inr q
  | none => .inl (σ t k j)
def gcell (E : gE) (σ : gM) (t k : Nat) : va_E :=
  if t < 10 then .inr (t, (List.range (gnf t)).map (fun j => gv E (gfv σ t k j)))
  else if t = 41 ∨ t = 42 then .inl (E.2.1 (gcls t), glen t, .inr (.inr (.inr (.inr (fun i => some (E.2.2.1 (garef t k i).1 (garef t k i).2))))))
  else .inl (E.2.1 (gcls t), glen t, .inl (σ t k))
def gtys (E : gE) : List (ClassId × FieldType) := [(E.2.1 0, .int), (E.2.1 1, .boolean), (E.2.1 2, .object "SkewedWays$Store"), (E.2.1 3, .object "SkewedWays$Trace")]
def gpl (cnt : Nat → Nat) : List (Nat × Nat) := (List.range 64).flatMap (fun t => (List.range (cnt t)).map (fun k => (t, k)))
def gW (E : gE) (σ : gM) : va_W := (gpl E.2.2.2).map (fun q => (E.2.2.1 q.1 q.2, gcell E σ q.1 q.2))
def gA (E : gE) : Nat → Prop := fun a => ∃ q, gin E q ∧ a = E.2.2.1 q.1 q.2
def gEok (E : gE) : Prop := (∀ σ, va_D (gA E) (gW E σ)) ∧ (∀ t k j q, t < 10 → gin E (t, k) → gref t j k = some q → gin E q) ∧ (∀ k i, gin E (41, k) → i < 20 → gin E (3, 21 * k + 1 + i)) ∧ (∀ k i, gin E (42, k) → i < 4 → gin E (5, 4 * k + i))
theorem gpl_mem {cnt : Nat → Nat} {q : Nat × Nat} : q ∈ gpl cnt ↔ q.1 < 64 ∧ q.2 < cnt q.1 := by
  obtain ⟨a, b⟩ := q
  simp only [gpl, List.mem_flatMap, List.mem_range, List.mem_map, Prod.mk.injEq]
  constructor
  · rintro ⟨t, h1, k, h2, rfl, rfl⟩
    exact ⟨h1, h2⟩
  · rintro ⟨h1, h2⟩
    exact ⟨a, h1, b, h2, rfl, rfl⟩
theorem gpl_at {E : gE} {q : Nat × Nat} (h : gin E q) : ∃ q0 : Nat, (gpl E.2.2.2)[q0]? = some q := List.getElem?_of_mem (gpl_mem.mpr h)
theorem gW_get {E : gE} {σ : gM} {q0 : Nat} {q : Nat × Nat} (h : (gpl E.2.2.2)[q0]? = some q) : (gW E σ)[q0]? = some (E.2.2.1 q.1 q.2, gcell E σ q.1 q.2) := by
  simp [gW, h]
theorem gcell_congr {E : gE} {σ σ' : gM} {t k : Nat} (h : σ t k = σ' t k) : gcell E σ t k = gcell E σ' t k := by
  unfold gcell gfv
  rw [h]
theorem gW_set {E : gE} (hE : gEok E) {σ σ' : gM} {q0 t k : Nat} (h : (gpl E.2.2.2)[q0]? = some (t, k)) (hs : ∀ t' k', ¬ (t' = t ∧ k' = k) → σ t' k' = σ' t' k') {e : va_E} (he : e = gcell E σ' t k) : (gW E σ).set q0 (E.2.2.1 t k, e) = gW E σ' := by
  subst he
  have hl : q0 < (gW E σ).length := (List.getElem?_eq_some_iff.mp (gW_get (σ := σ) h)).1
  apply List.ext_getElem?
  intro i
  by_cases hi : i = q0
  · subst hi
    rw [List.getElem?_set_self hl, gW_get h]
  · rw [List.getElem?_set_ne (Ne.symm hi)]
    cases hq : (gpl E.2.2.2)[i]? with
    | none => simp [gW, hq]
    | some q =>
      rw [gW_get hq, gW_get hq]
      have hne : ¬ (q.1 = t ∧ q.2 = k) := by
        rintro ⟨h1, h2⟩
        refine hi ((hE.1 σ).1 i q0 _ _ (gW_get hq) (gW_get h) ?_)
        show E.2.2.1 q.1 q.2 = E.2.2.1 t k
        rw [h1, h2]
      rw [gcell_congr (hs q.1 q.2 hne)]
def gRn (t : Nat) : String := match t with
  | 0 => RX0 | 1 => RX1 | 2 => RX2 | 3 => RX3 | 4 => RX4 | 5 => RX5 | 6 => RX6 | 7 => RX7 | 8 => RX8 | _ => RX9
def gTn (t : Nat) : u_T := match t with
  | 0 => TX0 | 1 => TX1 | 2 => TX2 | 3 => TX3 | 4 => TX4 | 5 => TX5 | 6 => TX6 | 7 => TX7 | 8 => TX8 | _ => TX9
def gty (t : Nat) : Nat → FieldType := match t with
  | 0 => tyX0 | 1 => tyX1 | 2 => tyX2 | 3 => tyX3 | 4 => tyX4 | 5 => tyX5 | 6 => tyX6 | 7 => tyX7 | 8 => tyX8 | _ => tyX9
theorem gcases {P : Nat → Prop} (h0 : P 0) (h1 : P 1) (h2 : P 2) (h3 : P 3) (h4 : P 4) (h5 : P 5) (h6 : P 6) (h7 : P 7) (h8 : P 8) (h9 : P 9) {t : Nat} (ht : t < 10) : P t := by
  rcases (show t = 0 ∨ t = 1 ∨ t = 2 ∨ t = 3 ∨ t = 4 ∨ t = 5 ∨ t = 6 ∨ t = 7 ∨ t = 8 ∨ t = 9 by omega) with rfl | rfl | rfl | rfl | rfl | rfl | rfl | rfl | rfl | rfl <;> assumption
theorem gcl {t : Nat} (ht : t < 10) : vwCl[t]? = some (gRn t, gTn t, gnf t) := gcases (P := fun t => vwCl[t]? = some (gRn t, gTn t, gnf t)) rfl rfl rfl rfl rfl rfl rfl rfl rfl rfl ht
theorem gty_ok {t : Nat} (ht : t < 10) : ∀ k, k < gnf t → parseFieldDescriptor (gTn t k).2.2.1 = some (gty t k) := gcases (P := fun t => ∀ k, k < gnf t → parseFieldDescriptor (gTn t k).2.2.1 = some (gty t k)) tyX0_ok tyX1_ok tyX2_ok tyX3_ok tyX4_ok tyX5_ok tyX6_ok tyX7_ok tyX8_ok tyX9_ok ht
theorem gnm_ok {t : Nat} (ht : t < 10) : ∀ a, a < gnf t → ∀ b, b < gnf t → a ≠ b → (gTn t a).2.1 ≠ (gTn t b).2.1 := gcases (P := fun t => ∀ a, a < gnf t → ∀ b, b < gnf t → a ≠ b → (gTn t a).2.1 ≠ (gTn t b).2.1) nmX0 nmX1 nmX2 nmX3 nmX4 nmX5 nmX6 nmX7 nmX8 nmX9 ht
theorem gu0 {ws : List Cond} (h : ∀ w ∈ ws, w ∈ lw_tbl ∧ goodWord w = true) : ∀ w ∈ ws, w ∈ gU := fun w hw => gU_mem (h w hw).1 (h w hw).2
theorem gu_0 : ∀ w ∈ u_ws RX0 TX0 10, w ∈ lw_tbl ∧ goodWord w = true := by decide +kernel
theorem gu_1 : ∀ w ∈ u_ws RX1 TX1 4, w ∈ lw_tbl ∧ goodWord w = true := by decide +kernel
theorem gu_2 : ∀ w ∈ u_ws RX2 TX2 6, w ∈ lw_tbl ∧ goodWord w = true := by decide +kernel
theorem gu_3 : ∀ w ∈ u_ws RX3 TX3 14, w ∈ lw_tbl ∧ goodWord w = true := by decide +kernel
theorem gu_4 : ∀ w ∈ u_ws RX4 TX4 5, w ∈ lw_tbl ∧ goodWord w = true := by decide +kernel
theorem gu_5 : ∀ w ∈ u_ws RX5 TX5 3, w ∈ lw_tbl ∧ goodWord w = true := by decide +kernel
theorem gu_6 : ∀ w ∈ u_ws RX6 TX6 8, w ∈ lw_tbl ∧ goodWord w = true := by decide +kernel
theorem gu_7 : ∀ w ∈ u_ws RX7 TX7 2, w ∈ lw_tbl ∧ goodWord w = true := by decide +kernel
theorem gu_8 : ∀ w ∈ u_ws RX8 TX8 14, w ∈ lw_tbl ∧ goodWord w = true := by decide +kernel
theorem gu_9 : ∀ w ∈ u_ws RX9 TX9 31, w ∈ lw_tbl ∧ goodWord w = true := by decide +kernel
theorem gUin {t : Nat} (ht : t < 10) : ∀ w ∈ u_ws (gRn t) (gTn t) (gnf t), w ∈ gU := gcases (P := fun t => ∀ w ∈ u_ws (gRn t) (gTn t) (gnf t), w ∈ gU) (gu0 gu_0) (gu0 gu_1) (gu0 gu_2) (gu0 gu_3) (gu0 gu_4) (gu0 gu_5) (gu0 gu_6) (gu0 gu_7) (gu0 gu_8) (gu0 gu_9) ht
/-- the locals, by places; none: not known -/
def glst (E : gE) : Nat → List (Option gV) → List (Nat × Value)
  | _, [] => []
  | i, none :: r => glst E (i + 1) r
  | i, some v :: r => (i, gv E v) :: glst E (i + 1) r
def glv (E : gE) (ls : Array Slot) (nL : Nat) (lv : List (Option gV)) : Prop := ls.size = nL ∧ lv_wf ls ∧ ∀ (k : Nat) (v : gV), lv[k]? = some (some v) → ls[k]? = some (.val (gv E v))
theorem glst_mem (E : gE) : ∀ (lv : List (Option gV)) (i : Nat) (q : Nat × Value), q ∈ glst E i lv ↔ ∃ (k : Nat) (v : gV), lv[k]? = some (some v) ∧ q = (i + k, gv E v) := by
  intro lv
  induction lv with
  | nil => intro i q; simp [glst]
  | cons a r ih =>
    intro i q
    have key : (∃ (k : Nat) (v : gV), r[k]? = some (some v) ∧ q = (i + 1 + k, gv E v)) ↔ ∃ (k : Nat) (v : gV), (a :: r)[k + 1]? = some (some v) ∧ q = (i + (k + 1), gv E v) := by
      constructor
      · rintro ⟨k, v, h1, h2⟩; exact ⟨k, v, by simpa using h1, by rw [h2]; congr 1; omega⟩
      · rintro ⟨k, v, h1, h2⟩; exact ⟨k, v, by simpa using h1, by rw [h2]; congr 1; omega⟩
    cases a with
    | none =>
      simp only [glst, ih (i + 1) q, key]
      constructor
      · rintro ⟨k, v, h⟩; exact ⟨k + 1, v, h⟩
      · rintro ⟨k, v, h1, h2⟩
        cases k with
        | zero => simp at h1
        | succ k => exact ⟨k, v, h1, h2⟩
    | some w =>
      simp only [glst, List.mem_cons, ih (i + 1) q, key]
      constructor
      · rintro (h | ⟨k, v, h⟩)
        · exact ⟨0, w, rfl, h⟩
        · exact ⟨k + 1, v, h⟩
      · rintro ⟨k, v, h1, h2⟩
        cases k with
        | zero => simp at h1; exact Or.inl (by rw [h1]; exact h2)
        | succ k => exact Or.inr ⟨k, v, h1, h2⟩
theorem glst_at {E : gE} {lv : List (Option gV)} {i : Nat} {v : gV} (h : lv[i]? = some (some v)) : ∃ j : Nat, (glst E 0 lv)[j]? = some (i, gv E v) := List.getElem?_of_mem ((glst_mem E lv 0 _).mpr ⟨i, v, h, by simp⟩)
theorem glv_has {E : gE} {ls : Array Slot} {nL : Nat} {lv : List (Option gV)} (h : glv E ls nL lv) : lv_has ls nL (glst E 0 lv) := by
  refine ⟨h.1, h.2.1, fun q hq => ?_⟩
  obtain ⟨k, v, h1, rfl⟩ := (glst_mem E lv 0 q).mp hq
  simpa using h.2.2 k v h1
theorem gv_cat (E : gE) (v : gV) : (gv E v).category = 1 := by cases v <;> rfl
theorem glv_set {E : gE} {ls ls' : Array Slot} {nL i : Nat} {lv : List (Option gV)} {v : gV} (h : glv E ls nL lv) (h' : lv_has ls' nL ((i, gv E v) :: (glst E 0 lv).filter (fun q => !(q.1 == i) && !(q.1 + 1 == i && q.2.category == 2)))) : glv E ls' nL (lv.set i (some v)) := by
  refine ⟨h'.1, h'.2.1, fun k w hw => ?_⟩
  by_cases hk : k = i
  · subst hk
    have hl : k < lv.length := by
      have := (List.getElem?_eq_some_iff.mp hw).1
      simpa using this
    rw [List.getElem?_set_self hl] at hw
    cases hw
    exact h'.2.2 (k, gv E v) List.mem_cons_self
  · rw [List.getElem?_set_ne (Ne.symm hk)] at hw
    refine h'.2.2 (k, gv E w) (List.mem_cons_of_mem _ (List.mem_filter.mpr ⟨(glst_mem E lv 0 _).mpr ⟨k, w, hw, by simp⟩, ?_⟩))
    simp [hk, gv_cat]
theorem glv_ok {E : gE} {lv : List (Option gV)} {i : Nat} {v : gV} (h : ∀ w, some w ∈ lv → gok E w) (hv : gok E v) : ∀ w, some w ∈ lv.set i (some v) → gok E w := by
  intro w hw
  rcases List.mem_or_eq_of_mem_set hw with h1 | h1
  · exact h w h1
  · cases h1; exact hv
abbrev gX : Type := Program × Launch × Env × Nat × State × MethodId × Array Value × List Frame × Method × Code × gE × Nat
/-- a method's end: its answer, its world; nothing else is changed -/
def gQc (E : gE) (ov : Option Value) (σ' : gM) : Array Value → State → Outcome → State → Prop := fun _ st oc t => oc = .returned ov ∧ va_P E.1 vwCl (gW E σ') t.heap ∧ va_K E.1 vwCl (gtys E) t ∧ va_F (gA E) st t
/-- from here the machine comes to the end that o foretells (if it foretells one) -/
def gw (X : gX) {ρ : Type} (enc : ρ → Option Value) (pc : Nat) (lv : List (Option gV)) (st : List gV) (σ : gM) (o : Option (ρ × gM)) : Prop := match X with
  | (p, l, e, h, s, m, args, below, meth, c, E, nL) => (∀ v ∈ st, gok E v) → (∀ v, some v ∈ lv → gok E v) → ∀ r, o = some r → ∀ (H : Heap) (locs : List Loc) (ls : Array Slot), va_P E.1 vwCl (gW E σ) H → va_S (gA E) s.heap H locs → glv E ls nL lv → W p l e (grm h) s m args below meth c H locs 0 0 (MQ below (gQc E (enc r.1) r.2) args s 0 0 (gA E)) (F0 m pc ls (st.map (gv E)))
def gC (X : gX) (own : String) (cc : ByteArray) (h nL : Nat) (ret : Option FieldType) : Prop := match X with
  | (p, _, _, h', s, m, args, _, meth, c, E, nL') => h' = h ∧ nL' = nL ∧ p.tables.exec = Jvm.exec ∧ c.code = cc ∧ c.maxLocals = nL' ∧ s.vm.findClass own = some m.cls ∧ (∀ w ∈ gU, w.before args s = true) ∧ gNW s ∧ va_K E.1 vwCl (gtys E) s ∧ gEok E ∧ meth.locks = false ∧ meth.sig.returnType = ret
theorem gw_none {X : gX} {ρ : Type} {enc : ρ → Option Value} {pc : Nat} {lv : List (Option gV)} {st : List gV} {σ : gM} : gw X enc pc lv st σ none := by
  obtain ⟨p, l, e, h', s, m, args, below, meth, c, E, nL'⟩ := X
  intro _ _ r ho
  cases ho
def gLet {α β : Type} (x : α) (k : α → β) : β := k x
def gRem (x y : Int32) : Int32 := x - x / y * y
def gUshr (x y : Int32) : Int32 := (x.toUInt32 >>> (y.toUInt32 &&& Int32.toUInt32 31)).toInt32
def gMax (x y : Int32) : Int32 := if x < y then y else x
def gMin (x y : Int32) : Int32 := if y < x then y else x
def bI (b : Bool) : Int32 := if b then 1 else 0
def eI : Int32 → Option Value := fun x => some (.int x)
def eB : Bool → Option Value := fun b => some (.int (bI b))
def eU : Unit → Option Value := fun _ => none

theorem r_iadd {X : gX} {own : String} {cc : ByteArray} {h nL : Nat} {ret : Option FieldType} (C : gC X own cc h nL ret) {ρ : Type} {enc : ρ → Option Value} {pc : Nat} {lv : List (Option gV)} {st : List gV} {σ : gM} {o : Option (ρ × gM)} {x y : Int32} (hd : decode cc pc = .ok (.iadd, 1)) (k : gw X enc (pc + 1) lv (.inl (x + y) :: st) σ o) : gw X enc pc lv (.inl y :: .inl x :: st) σ o := by
  obtain ⟨p, l, e, h', s, m, args, below, meth, c, E, nL'⟩ := X
  obtain ⟨rfl, rfl, hx, hb, hml, hown, hts, hN, hK, hE, hlk, hrt⟩ := C
  intro hst hlv r ho H locs ls hP hS hl
  exact lv_iadd hx hb hd (k (List.forall_mem_cons.mpr ⟨trivial, (List.forall_mem_cons.mp (List.forall_mem_cons.mp hst).2).2⟩) hlv r ho H locs ls hP hS hl)
theorem r_isub {X : gX} {own : String} {cc : ByteArray} {h nL : Nat} {ret : Option FieldType} (C : gC X own cc h nL ret) {ρ : Type} {enc : ρ → Option Value} {pc : Nat} {lv : List (Option gV)} {st : List gV} {σ : gM} {o : Option (ρ × gM)} {x y : Int32} (hd : decode cc pc = .ok (.isub, 1)) (k : gw X enc (pc + 1) lv (.inl (x - y) :: st) σ o) : gw X enc pc lv (.inl y :: .inl x :: st) σ o := by
  obtain ⟨p, l, e, h', s, m, args, below, meth, c, E, nL'⟩ := X
  obtain ⟨rfl, rfl, hx, hb, hml, hown, hts, hN, hK, hE, hlk, hrt⟩ := C
  intro hst hlv r ho H locs ls hP hS hl
  exact lv_isub hx hb hd (k (List.forall_mem_cons.mpr ⟨trivial, (List.forall_mem_cons.mp (List.forall_mem_cons.mp hst).2).2⟩) hlv r ho H locs ls hP hS hl)
theorem r_imul {X : gX} {own : String} {cc : ByteArray} {h nL : Nat} {ret : Option FieldType} (C : gC X own cc h nL ret) {ρ : Type} {enc : ρ → Option Value} {pc : Nat} {lv : List (Option gV)} {st : List gV} {σ : gM} {o : Option (ρ × gM)} {x y : Int32} (hd : decode cc pc = .ok (.imul, 1)) (k : gw X enc (pc + 1) lv (.inl (x * y) :: st) σ o) : gw X enc pc lv (.inl y :: .inl x :: st) σ o := by
  obtain ⟨p, l, e, h', s, m, args, below, meth, c, E, nL'⟩ := X
  obtain ⟨rfl, rfl, hx, hb, hml, hown, hts, hN, hK, hE, hlk, hrt⟩ := C
  intro hst hlv r ho H locs ls hP hS hl
  exact lv_imul hx hb hd (k (List.forall_mem_cons.mpr ⟨trivial, (List.forall_mem_cons.mp (List.forall_mem_cons.mp hst).2).2⟩) hlv r ho H locs ls hP hS hl)
theorem r_iand {X : gX} {own : String} {cc : ByteArray} {h nL : Nat} {ret : Option FieldType} (C : gC X own cc h nL ret) {ρ : Type} {enc : ρ → Option Value} {pc : Nat} {lv : List (Option gV)} {st : List gV} {σ : gM} {o : Option (ρ × gM)} {x y : Int32} (hd : decode cc pc = .ok (.iand, 1)) (k : gw X enc (pc + 1) lv (.inl (x &&& y) :: st) σ o) : gw X enc pc lv (.inl y :: .inl x :: st) σ o := by
  obtain ⟨p, l, e, h', s, m, args, below, meth, c, E, nL'⟩ := X
  obtain ⟨rfl, rfl, hx, hb, hml, hown, hts, hN, hK, hE, hlk, hrt⟩ := C
  intro hst hlv r ho H locs ls hP hS hl
  exact lv_iand hx hb hd (k (List.forall_mem_cons.mpr ⟨trivial, (List.forall_mem_cons.mp (List.forall_mem_cons.mp hst).2).2⟩) hlv r ho H locs ls hP hS hl)
theorem r_ior {X : gX} {own : String} {cc : ByteArray} {h nL : Nat} {ret : Option FieldType} (C : gC X own cc h nL ret) {ρ : Type} {enc : ρ → Option Value} {pc : Nat} {lv : List (Option gV)} {st : List gV} {σ : gM} {o : Option (ρ × gM)} {x y : Int32} (hd : decode cc pc = .ok (.ior, 1)) (k : gw X enc (pc + 1) lv (.inl (x ||| y) :: st) σ o) : gw X enc pc lv (.inl y :: .inl x :: st) σ o := by
  obtain ⟨p, l, e, h', s, m, args, below, meth, c, E, nL'⟩ := X
  obtain ⟨rfl, rfl, hx, hb, hml, hown, hts, hN, hK, hE, hlk, hrt⟩ := C
  intro hst hlv r ho H locs ls hP hS hl
  exact lv_ior hx hb hd (k (List.forall_mem_cons.mpr ⟨trivial, (List.forall_mem_cons.mp (List.forall_mem_cons.mp hst).2).2⟩) hlv r ho H locs ls hP hS hl)
theorem r_ixor {X : gX} {own : String} {cc : ByteArray} {h nL : Nat} {ret : Option FieldType} (C : gC X own cc h nL ret) {ρ : Type} {enc : ρ → Option Value} {pc : Nat} {lv : List (Option gV)} {st : List gV} {σ : gM} {o : Option (ρ × gM)} {x y : Int32} (hd : decode cc pc = .ok (.ixor, 1)) (k : gw X enc (pc + 1) lv (.inl (x ^^^ y) :: st) σ o) : gw X enc pc lv (.inl y :: .inl x :: st) σ o := by
  obtain ⟨p, l, e, h', s, m, args, below, meth, c, E, nL'⟩ := X
  obtain ⟨rfl, rfl, hx, hb, hml, hown, hts, hN, hK, hE, hlk, hrt⟩ := C
  intro hst hlv r ho H locs ls hP hS hl
  exact lv_ixor hx hb hd (k (List.forall_mem_cons.mpr ⟨trivial, (List.forall_mem_cons.mp (List.forall_mem_cons.mp hst).2).2⟩) hlv r ho H locs ls hP hS hl)
theorem r_ishl {X : gX} {own : String} {cc : ByteArray} {h nL : Nat} {ret : Option FieldType} (C : gC X own cc h nL ret) {ρ : Type} {enc : ρ → Option Value} {pc : Nat} {lv : List (Option gV)} {st : List gV} {σ : gM} {o : Option (ρ × gM)} {x y : Int32} (hd : decode cc pc = .ok (.ishl, 1)) (k : gw X enc (pc + 1) lv (.inl (x <<< (y &&& 31)) :: st) σ o) : gw X enc pc lv (.inl y :: .inl x :: st) σ o := by
  obtain ⟨p, l, e, h', s, m, args, below, meth, c, E, nL'⟩ := X
  obtain ⟨rfl, rfl, hx, hb, hml, hown, hts, hN, hK, hE, hlk, hrt⟩ := C
  intro hst hlv r ho H locs ls hP hS hl
  exact lv_ishl hx hb hd (k (List.forall_mem_cons.mpr ⟨trivial, (List.forall_mem_cons.mp (List.forall_mem_cons.mp hst).2).2⟩) hlv r ho H locs ls hP hS hl)
theorem r_ishr {X : gX} {own : String} {cc : ByteArray} {h nL : Nat} {ret : Option FieldType} (C : gC X own cc h nL ret) {ρ : Type} {enc : ρ → Option Value} {pc : Nat} {lv : List (Option gV)} {st : List gV} {σ : gM} {o : Option (ρ × gM)} {x y : Int32} (hd : decode cc pc = .ok (.ishr, 1)) (k : gw X enc (pc + 1) lv (.inl (x >>> (y &&& 31)) :: st) σ o) : gw X enc pc lv (.inl y :: .inl x :: st) σ o := by
  obtain ⟨p, l, e, h', s, m, args, below, meth, c, E, nL'⟩ := X
  obtain ⟨rfl, rfl, hx, hb, hml, hown, hts, hN, hK, hE, hlk, hrt⟩ := C
  intro hst hlv r ho H locs ls hP hS hl
  exact lv_ishr hx hb hd (k (List.forall_mem_cons.mpr ⟨trivial, (List.forall_mem_cons.mp (List.forall_mem_cons.mp hst).2).2⟩) hlv r ho H locs ls hP hS hl)
theorem r_idiv {X : gX} {own : String} {cc : ByteArray} {h nL : Nat} {ret : Option FieldType} (C : gC X own cc h nL ret) {ρ : Type} {enc : ρ → Option Value} {pc : Nat} {lv : List (Option gV)} {st : List gV} {σ : gM} {o : Option (ρ × gM)} {x y : Int32} (hd : decode cc pc = .ok (.idiv, 1)) (hne : ¬ y = 0) (k : gw X enc (pc + 1) lv (.inl (x / y) :: st) σ o) : gw X enc pc lv (.inl y :: .inl x :: st) σ o := by
  obtain ⟨p, l, e, h', s, m, args, below, meth, c, E, nL'⟩ := X
  obtain ⟨rfl, rfl, hx, hb, hml, hown, hts, hN, hK, hE, hlk, hrt⟩ := C
  intro hst hlv r ho H locs ls hP hS hl
  exact lv_idiv hx hb hd hne (k (List.forall_mem_cons.mpr ⟨trivial, (List.forall_mem_cons.mp (List.forall_mem_cons.mp hst).2).2⟩) hlv r ho H locs ls hP hS hl)
theorem r_irem {X : gX} {own : String} {cc : ByteArray} {h nL : Nat} {ret : Option FieldType} (C : gC X own cc h nL ret) {ρ : Type} {enc : ρ → Option Value} {pc : Nat} {lv : List (Option gV)} {st : List gV} {σ : gM} {o : Option (ρ × gM)} {x y : Int32} (hd : decode cc pc = .ok (.irem, 1)) (hne : ¬ y = 0) (k : gw X enc (pc + 1) lv (.inl (gRem x y) :: st) σ o) : gw X enc pc lv (.inl y :: .inl x :: st) σ o := by
  obtain ⟨p, l, e, h', s, m, args, below, meth, c, E, nL'⟩ := X
  obtain ⟨rfl, rfl, hx, hb, hml, hown, hts, hN, hK, hE, hlk, hrt⟩ := C
  intro hst hlv r ho H locs ls hP hS hl
  exact lv_irem hx hb hd hne (k (List.forall_mem_cons.mpr ⟨trivial, (List.forall_mem_cons.mp (List.forall_mem_cons.mp hst).2).2⟩) hlv r ho H locs ls hP hS hl)
theorem r_iremN {X : gX} {own : String} {cc : ByteArray} {h nL : Nat} {ret : Option FieldType} (C : gC X own cc h nL ret) {ρ : Type} {enc : ρ → Option Value} {pc : Nat} {lv : List (Option gV)} {st : List gV} {σ : gM} {o : Option (ρ × gM)} {x y : Int32} (hd : decode cc pc = .ok (.irem, 1)) (k : gw X enc (pc + 1) lv (.inl (gRem x y) :: st) σ o) : gw X enc pc lv (.inl y :: .inl x :: st) σ (if y = 0 then none else o) := by
  by_cases hy : y = 0
  · rw [if_pos hy]
    exact gw_none
  · rw [if_neg hy]
    exact r_irem C hd hy k
theorem r_iushr {X : gX} {own : String} {cc : ByteArray} {h nL : Nat} {ret : Option FieldType} (C : gC X own cc h nL ret) {ρ : Type} {enc : ρ → Option Value} {pc : Nat} {lv : List (Option gV)} {st : List gV} {σ : gM} {o : Option (ρ × gM)} {x y : Int32} (hd : decode cc pc = .ok (.iushr, 1)) (k : gw X enc (pc + 1) lv (.inl (gUshr x y) :: st) σ o) : gw X enc pc lv (.inl y :: .inl x :: st) σ o := by
  obtain ⟨p, l, e, h', s, m, args, below, meth, c, E, nL'⟩ := X
  obtain ⟨rfl, rfl, hx, hb, hml, hown, hts, hN, hK, hE, hlk, hrt⟩ := C
  intro hst hlv r ho H locs ls hP hS hl
  exact lv_iushr hx hb hd rfl (k (List.forall_mem_cons.mpr ⟨trivial, (List.forall_mem_cons.mp (List.forall_mem_cons.mp hst).2).2⟩) hlv r ho H locs ls hP hS hl)
theorem r_ineg {X : gX} {own : String} {cc : ByteArray} {h nL : Nat} {ret : Option FieldType} (C : gC X own cc h nL ret) {ρ : Type} {enc : ρ → Option Value} {pc : Nat} {lv : List (Option gV)} {st : List gV} {σ : gM} {o : Option (ρ × gM)} {x : Int32} (hd : decode cc pc = .ok (.ineg, 1)) (k : gw X enc (pc + 1) lv (.inl (-x) :: st) σ o) : gw X enc pc lv (.inl x :: st) σ o := by
  obtain ⟨p, l, e, h', s, m, args, below, meth, c, E, nL'⟩ := X
  obtain ⟨rfl, rfl, hx, hb, hml, hown, hts, hN, hK, hE, hlk, hrt⟩ := C
  intro hst hlv r ho H locs ls hP hS hl
  exact lv_ineg hx hb hd (k (List.forall_mem_cons.mpr ⟨trivial, (List.forall_mem_cons.mp hst).2⟩) hlv r ho H locs ls hP hS hl)
theorem r_iconst {X : gX} {own : String} {cc : ByteArray} {h nL : Nat} {ret : Option FieldType} (C : gC X own cc h nL ret) {ρ : Type} {enc : ρ → Option Value} {pc : Nat} {lv : List (Option gV)} {st : List gV} {σ : gM} {o : Option (ρ × gM)} {n : Int} {v : Int32} (hd : decode cc pc = .ok (.iconst n, 1)) (hv : Int32.ofInt n = v) (k : gw X enc (pc + 1) lv (.inl v :: st) σ o) : gw X enc pc lv st σ o := by
  obtain ⟨p, l, e, h', s, m, args, below, meth, c, E, nL'⟩ := X
  obtain ⟨rfl, rfl, hx, hb, hml, hown, hts, hN, hK, hE, hlk, hrt⟩ := C
  intro hst hlv r ho H locs ls hP hS hl
  exact lv_iconst hx hb hd hv (k (List.forall_mem_cons.mpr ⟨trivial, hst⟩) hlv r ho H locs ls hP hS hl)
theorem r_bipush {X : gX} {own : String} {cc : ByteArray} {h nL : Nat} {ret : Option FieldType} (C : gC X own cc h nL ret) {ρ : Type} {enc : ρ → Option Value} {pc : Nat} {lv : List (Option gV)} {st : List gV} {σ : gM} {o : Option (ρ × gM)} {n : Int} {v : Int32} (hd : decode cc pc = .ok (.bipush n, 2)) (hv : (Int8.ofInt n).toInt32 = v) (k : gw X enc (pc + 2) lv (.inl v :: st) σ o) : gw X enc pc lv st σ o := by
  obtain ⟨p, l, e, h', s, m, args, below, meth, c, E, nL'⟩ := X
  obtain ⟨rfl, rfl, hx, hb, hml, hown, hts, hN, hK, hE, hlk, hrt⟩ := C
  intro hst hlv r ho H locs ls hP hS hl
  exact lv_bipush hx hb hd hv (k (List.forall_mem_cons.mpr ⟨trivial, hst⟩) hlv r ho H locs ls hP hS hl)
theorem r_sipush {X : gX} {own : String} {cc : ByteArray} {h nL : Nat} {ret : Option FieldType} (C : gC X own cc h nL ret) {ρ : Type} {enc : ρ → Option Value} {pc : Nat} {lv : List (Option gV)} {st : List gV} {σ : gM} {o : Option (ρ × gM)} {n : Int} {v : Int32} (hd : decode cc pc = .ok (.sipush n, 3)) (hv : (Int16.ofInt n).toInt32 = v) (k : gw X enc (pc + 3) lv (.inl v :: st) σ o) : gw X enc pc lv st σ o := by
  obtain ⟨p, l, e, h', s, m, args, below, meth, c, E, nL'⟩ := X
  obtain ⟨rfl, rfl, hx, hb, hml, hown, hts, hN, hK, hE, hlk, hrt⟩ := C
  intro hst hlv r ho H locs ls hP hS hl
  exact lv_sipush hx hb hd hv (k (List.forall_mem_cons.mpr ⟨trivial, hst⟩) hlv r ho H locs ls hP hS hl)
theorem r_ldc {X : gX} {own : String} {cc : ByteArray} {h nL : Nat} {ret : Option FieldType} (C : gC X own cc h nL ret) {ρ : Type} {enc : ρ → Option Value} {pc : Nat} {lv : List (Option gV)} {st : List gV} {σ : gM} {o : Option (ρ × gM)} {index : Nat} {v : Int32} (hw : Cond.constant own index v ∈ gU) (hd : decode cc pc = .ok (.ldc index, 2)) (k : gw X enc (pc + 2) lv (.inl v :: st) σ o) : gw X enc pc lv st σ o := by
  obtain ⟨p, l, e, h', s, m, args, below, meth, c, E, nL'⟩ := X
  obtain ⟨rfl, rfl, hx, hb, hml, hown, hts, hN, hK, hE, hlk, hrt⟩ := C
  intro hst hlv r ho H locs ls hP hS hl
  exact lv_ldc hx hb hown (hts _ hw) hd (k (List.forall_mem_cons.mpr ⟨trivial, hst⟩) hlv r ho H locs ls hP hS hl)
theorem r_ldcw {X : gX} {own : String} {cc : ByteArray} {h nL : Nat} {ret : Option FieldType} (C : gC X own cc h nL ret) {ρ : Type} {enc : ρ → Option Value} {pc : Nat} {lv : List (Option gV)} {st : List gV} {σ : gM} {o : Option (ρ × gM)} {index : Nat} {v : Int32} (hw : Cond.constant own index v ∈ gU) (hd : decode cc pc = .ok (.ldc_w index, 3)) (k : gw X enc (pc + 3) lv (.inl v :: st) σ o) : gw X enc pc lv st σ o := by
  obtain ⟨p, l, e, h', s, m, args, below, meth, c, E, nL'⟩ := X
  obtain ⟨rfl, rfl, hx, hb, hml, hown, hts, hN, hK, hE, hlk, hrt⟩ := C
  intro hst hlv r ho H locs ls hP hS hl
  exact lv_ldcw hx hb hown (hts _ hw) hd (k (List.forall_mem_cons.mpr ⟨trivial, hst⟩) hlv r ho H locs ls hP hS hl)
theorem r_iload_n {X : gX} {own : String} {cc : ByteArray} {h nL : Nat} {ret : Option FieldType} (C : gC X own cc h nL ret) {ρ : Type} {enc : ρ → Option Value} {pc : Nat} {lv : List (Option gV)} {st : List gV} {σ : gM} {o : Option (ρ × gM)} {kf : Fin 4} {i : Nat} {x : Int32} (hd : decode cc pc = .ok (.iload_n kf, 1)) (hi : (kf : Nat) = i) (hv : lv[i]? = some (some (.inl x))) (k : gw X enc (pc + 1) lv (.inl x :: st) σ o) : gw X enc pc lv st σ o := by
  obtain ⟨p, l, e, h', s, m, args, below, meth, c, E, nL'⟩ := X
  obtain ⟨rfl, rfl, hx, hb, hml, hown, hts, hN, hK, hE, hlk, hrt⟩ := C
  intro hst hlv r ho H locs ls hP hS hl
  exact lv_iload_n hx hb hd hi (hl.2.2 _ _ hv) (k (List.forall_mem_cons.mpr ⟨trivial, hst⟩) hlv r ho H locs ls hP hS hl)
theorem r_iload {X : gX} {own : String} {cc : ByteArray} {h nL : Nat} {ret : Option FieldType} (C : gC X own cc h nL ret) {ρ : Type} {enc : ρ → Option Value} {pc : Nat} {lv : List (Option gV)} {st : List gV} {σ : gM} {o : Option (ρ × gM)}  {i : Nat} {x : Int32} (hd : decode cc pc = .ok (.iload i, 2)) (hv : lv[i]? = some (some (.inl x))) (k : gw X enc (pc + 2) lv (.inl x :: st) σ o) : gw X enc pc lv st σ o := by
  obtain ⟨p, l, e, h', s, m, args, below, meth, c, E, nL'⟩ := X
  obtain ⟨rfl, rfl, hx, hb, hml, hown, hts, hN, hK, hE, hlk, hrt⟩ := C
  intro hst hlv r ho H locs ls hP hS hl
  exact lv_iload hx hb hd (hl.2.2 _ _ hv) (k (List.forall_mem_cons.mpr ⟨trivial, hst⟩) hlv r ho H locs ls hP hS hl)
theorem r_aload_n {X : gX} {own : String} {cc : ByteArray} {h nL : Nat} {ret : Option FieldType} (C : gC X own cc h nL ret) {ρ : Type} {enc : ρ → Option Value} {pc : Nat} {lv : List (Option gV)} {st : List gV} {σ : gM} {o : Option (ρ × gM)} {kf : Fin 4} {i : Nat} {q : Nat × Nat} (hd : decode cc pc = .ok (.aload_n kf, 1)) (hi : (kf : Nat) = i) (hv : lv[i]? = some (some (.inr q))) (k : gw X enc (pc + 1) lv (.inr q :: st) σ o) : gw X enc pc lv st σ o := by
  obtain ⟨p, l, e, h', s, m, args, below, meth, c, E, nL'⟩ := X
  obtain ⟨rfl, rfl, hx, hb, hml, hown, hts, hN, hK, hE, hlk, hrt⟩ := C
  intro hst hlv r ho H locs ls hP hS hl
  exact lv_aload_n hx hb hd hi (hl.2.2 _ _ hv) (k (List.forall_mem_cons.mpr ⟨hlv _ (List.mem_of_getElem? hv), hst⟩) hlv r ho H locs ls hP hS hl)
theorem r_aload {X : gX} {own : String} {cc : ByteArray} {h nL : Nat} {ret : Option FieldType} (C : gC X own cc h nL ret) {ρ : Type} {enc : ρ → Option Value} {pc : Nat} {lv : List (Option gV)} {st : List gV} {σ : gM} {o : Option (ρ × gM)}  {i : Nat} {q : Nat × Nat} (hd : decode cc pc = .ok (.aload i, 2)) (hv : lv[i]? = some (some (.inr q))) (k : gw X enc (pc + 2) lv (.inr q :: st) σ o) : gw X enc pc lv st σ o := by
  obtain ⟨p, l, e, h', s, m, args, below, meth, c, E, nL'⟩ := X
  obtain ⟨rfl, rfl, hx, hb, hml, hown, hts, hN, hK, hE, hlk, hrt⟩ := C
  intro hst hlv r ho H locs ls hP hS hl
  exact lv_aload hx hb hd (hl.2.2 _ _ hv) (k (List.forall_mem_cons.mpr ⟨hlv _ (List.mem_of_getElem? hv), hst⟩) hlv r ho H locs ls hP hS hl)
theorem r_istore_n {X : gX} {own : String} {cc : ByteArray} {h nL : Nat} {ret : Option FieldType} (C : gC X own cc h nL ret) {ρ : Type} {enc : ρ → Option Value} {pc : Nat} {lv : List (Option gV)} {st : List gV} {σ : gM} {o : Option (ρ × gM)} {kf : Fin 4} {i : Nat} {x : Int32} {lv' : List (Option gV)} (hd : decode cc pc = .ok (.istore_n kf, 1)) (hi : (kf : Nat) = i) (hi2 : i < nL) (hv : lv.set i (some (.inl x)) = lv') (k : gw X enc (pc + 1) lv' st σ o) : gw X enc pc lv (.inl x :: st) σ o := by
  subst hv
  obtain ⟨p, l, e, h', s, m, args, below, meth, c, E, nL'⟩ := X
  obtain ⟨rfl, rfl, hx, hb, hml, hown, hts, hN, hK, hE, hlk, hrt⟩ := C
  intro hst hlv r ho H locs ls hP hS hl
  exact lv_istore_n hx hb hd hi (glv_has hl) hi2 rfl (fun ls' hl' => k (List.forall_mem_cons.mp hst).2 (glv_ok hlv trivial) r ho H locs ls' hP hS (glv_set hl hl'))
theorem r_istore {X : gX} {own : String} {cc : ByteArray} {h nL : Nat} {ret : Option FieldType} (C : gC X own cc h nL ret) {ρ : Type} {enc : ρ → Option Value} {pc : Nat} {lv : List (Option gV)} {st : List gV} {σ : gM} {o : Option (ρ × gM)}  {i : Nat} {x : Int32} {lv' : List (Option gV)} (hd : decode cc pc = .ok (.istore i, 2)) (hi2 : i < nL) (hv : lv.set i (some (.inl x)) = lv') (k : gw X enc (pc + 2) lv' st σ o) : gw X enc pc lv (.inl x :: st) σ o := by
  subst hv
  obtain ⟨p, l, e, h', s, m, args, below, meth, c, E, nL'⟩ := X
  obtain ⟨rfl, rfl, hx, hb, hml, hown, hts, hN, hK, hE, hlk, hrt⟩ := C
  intro hst hlv r ho H locs ls hP hS hl
  exact lv_istore hx hb hd (glv_has hl) hi2 rfl (fun ls' hl' => k (List.forall_mem_cons.mp hst).2 (glv_ok hlv trivial) r ho H locs ls' hP hS (glv_set hl hl'))
theorem r_astore_n {X : gX} {own : String} {cc : ByteArray} {h nL : Nat} {ret : Option FieldType} (C : gC X own cc h nL ret) {ρ : Type} {enc : ρ → Option Value} {pc : Nat} {lv : List (Option gV)} {st : List gV} {σ : gM} {o : Option (ρ × gM)} {kf : Fin 4} {i : Nat} {q : Nat × Nat} {lv' : List (Option gV)} (hd : decode cc pc = .ok (.astore_n kf, 1)) (hi : (kf : Nat) = i) (hi2 : i < nL) (hv : lv.set i (some (.inr q)) = lv') (k : gw X enc (pc + 1) lv' st σ o) : gw X enc pc lv (.inr q :: st) σ o := by
  subst hv
  obtain ⟨p, l, e, h', s, m, args, below, meth, c, E, nL'⟩ := X
  obtain ⟨rfl, rfl, hx, hb, hml, hown, hts, hN, hK, hE, hlk, hrt⟩ := C
  intro hst hlv r ho H locs ls hP hS hl
  exact lv_astore_n hx hb hd hi (glv_has hl) hi2 rfl (fun ls' hl' => k (List.forall_mem_cons.mp hst).2 (glv_ok hlv (List.forall_mem_cons.mp hst).1) r ho H locs ls' hP hS (glv_set (v := .inr q) hl hl'))
theorem r_iinc {X : gX} {own : String} {cc : ByteArray} {h nL : Nat} {ret : Option FieldType} (C : gC X own cc h nL ret) {ρ : Type} {enc : ρ → Option Value} {pc : Nat} {lv : List (Option gV)} {st : List gV} {σ : gM} {i : Nat} {n : Int} {x v : Int32} {kk : Int32 → Option (ρ × gM)} (hd : decode cc pc = .ok (.iinc i n, 3)) (hi2 : i < nL) (hx0 : lv[i]? = some (some (.inl x))) (hv : Int32.ofInt n = v) (k : ∀ y : Int32, gw X enc (pc + 3) (lv.set i (some (.inl y))) st σ (kk y)) : gw X enc pc lv st σ (gLet (x + v) kk) := by
  subst hv
  obtain ⟨p, l, e, h', s, m, args, below, meth, c, E, nL'⟩ := X
  obtain ⟨rfl, rfl, hx, hb, hml, hown, hts, hN, hK, hE, hlk, hrt⟩ := C
  intro hst hlv r ho H locs ls hP hS hl
  obtain ⟨j, hj⟩ := glst_at (E := E) hx0
  exact lv_iinc hx hb hd (glv_has hl) hj rfl hi2 rfl (fun ls' hl' => k _ hst (glv_ok hlv trivial) r ho H locs ls' hP hS (glv_set hl hl'))
theorem r_dup {X : gX} {own : String} {cc : ByteArray} {h nL : Nat} {ret : Option FieldType} (C : gC X own cc h nL ret) {ρ : Type} {enc : ρ → Option Value} {pc : Nat} {lv : List (Option gV)} {st : List gV} {σ : gM} {o : Option (ρ × gM)} {v : gV} (hd : decode cc pc = .ok (.dup, 1)) (k : gw X enc (pc + 1) lv (v :: v :: st) σ o) : gw X enc pc lv (v :: st) σ o := by
  obtain ⟨p, l, e, h', s, m, args, below, meth, c, E, nL'⟩ := X
  obtain ⟨rfl, rfl, hx, hb, hml, hown, hts, hN, hK, hE, hlk, hrt⟩ := C
  intro hst hlv r ho H locs ls hP hS hl
  exact lv_dup hx hb hd (gv_cat E v) (k (List.forall_mem_cons.mpr ⟨(List.forall_mem_cons.mp hst).1, hst⟩) hlv r ho H locs ls hP hS hl)
theorem r_pop {X : gX} {own : String} {cc : ByteArray} {h nL : Nat} {ret : Option FieldType} (C : gC X own cc h nL ret) {ρ : Type} {enc : ρ → Option Value} {pc : Nat} {lv : List (Option gV)} {st : List gV} {σ : gM} {o : Option (ρ × gM)} {v : gV} (hd : decode cc pc = .ok (.pop, 1)) (k : gw X enc (pc + 1) lv st σ o) : gw X enc pc lv (v :: st) σ o := by
  obtain ⟨p, l, e, h', s, m, args, below, meth, c, E, nL'⟩ := X
  obtain ⟨rfl, rfl, hx, hb, hml, hown, hts, hN, hK, hE, hlk, hrt⟩ := C
  intro hst hlv r ho H locs ls hP hS hl
  exact lv_pop hx hb hd (gv_cat E v) (k (List.forall_mem_cons.mp hst).2 hlv r ho H locs ls hP hS hl)
theorem r_dup2 {X : gX} {own : String} {cc : ByteArray} {h nL : Nat} {ret : Option FieldType} (C : gC X own cc h nL ret) {ρ : Type} {enc : ρ → Option Value} {pc : Nat} {lv : List (Option gV)} {st : List gV} {σ : gM} {o : Option (ρ × gM)} {v u : gV} (hd : decode cc pc = .ok (.dup2, 1)) (k : gw X enc (pc + 1) lv (v :: u :: v :: u :: st) σ o) : gw X enc pc lv (v :: u :: st) σ o := by
  obtain ⟨p, l, e, h', s, m, args, below, meth, c, E, nL'⟩ := X
  obtain ⟨rfl, rfl, hx, hb, hml, hown, hts, hN, hK, hE, hlk, hrt⟩ := C
  intro hst hlv r ho H locs ls hP hS hl
  have h1 := List.forall_mem_cons.mp hst
  have h2 := List.forall_mem_cons.mp h1.2
  exact lv_dup2_11 hx hb hd (gv_cat E v) (gv_cat E u) (k (List.forall_mem_cons.mpr ⟨h1.1, List.forall_mem_cons.mpr ⟨h2.1, hst⟩⟩) hlv r ho H locs ls hP hS hl)
theorem r_goto {X : gX} {own : String} {cc : ByteArray} {h nL : Nat} {ret : Option FieldType} (C : gC X own cc h nL ret) {ρ : Type} {enc : ρ → Option Value} {pc : Nat} {lv : List (Option gV)} {st : List gV} {σ : gM} {o : Option (ρ × gM)} {off : Int} {tgt : Nat} (hd : decode cc pc = .ok (.goto off, 3)) (ht : (pc : Int) + off = (tgt : Int)) (k : gw X enc tgt lv st σ o) : gw X enc pc lv st σ o := by
  obtain ⟨p, l, e, h', s, m, args, below, meth, c, E, nL'⟩ := X
  obtain ⟨rfl, rfl, hx, hb, hml, hown, hts, hN, hK, hE, hlk, hrt⟩ := C
  intro hst hlv r ho H locs ls hP hS hl
  exact lv_goto hx hb hd ht (k hst hlv r ho H locs ls hP hS hl)
theorem r_if_eq {X : gX} {own : String} {cc : ByteArray} {h nL : Nat} {ret : Option FieldType} (C : gC X own cc h nL ret) {ρ : Type} {enc : ρ → Option Value} {pc : Nat} {lv : List (Option gV)} {st : List gV} {σ : gM} {o1 o2 : Option (ρ × gM)} {x : Int32} {off : Int} {tgt : Nat} (hd : decode cc pc = .ok (.ifCond .eq off, 3)) (ht : (pc : Int) + off = (tgt : Int)) (kt : gw X enc tgt lv st σ o1) (kf : gw X enc (pc + 3) lv st σ o2) : gw X enc pc lv (.inl x :: st) σ (if x = 0 then o1 else o2) := by
  obtain ⟨p, l, e, h', s, m, args, below, meth, c, E, nL'⟩ := X
  obtain ⟨rfl, rfl, hx, hb, hml, hown, hts, hN, hK, hE, hlk, hrt⟩ := C
  intro hst hlv r ho H locs ls hP hS hl
  exact lv_if_eq hx hb hd ht (fun q => kt (List.forall_mem_cons.mp hst).2 hlv r ((if_pos q).symm.trans ho) H locs ls hP hS hl) (fun q => kf (List.forall_mem_cons.mp hst).2 hlv r ((if_neg q).symm.trans ho) H locs ls hP hS hl)
theorem r_if_lt {X : gX} {own : String} {cc : ByteArray} {h nL : Nat} {ret : Option FieldType} (C : gC X own cc h nL ret) {ρ : Type} {enc : ρ → Option Value} {pc : Nat} {lv : List (Option gV)} {st : List gV} {σ : gM} {o1 o2 : Option (ρ × gM)} {x : Int32} {off : Int} {tgt : Nat} (hd : decode cc pc = .ok (.ifCond .lt off, 3)) (ht : (pc : Int) + off = (tgt : Int)) (kt : gw X enc tgt lv st σ o1) (kf : gw X enc (pc + 3) lv st σ o2) : gw X enc pc lv (.inl x :: st) σ (if x < 0 then o1 else o2) := by
  obtain ⟨p, l, e, h', s, m, args, below, meth, c, E, nL'⟩ := X
  obtain ⟨rfl, rfl, hx, hb, hml, hown, hts, hN, hK, hE, hlk, hrt⟩ := C
  intro hst hlv r ho H locs ls hP hS hl
  exact lv_if_lt hx hb hd ht (fun q => kt (List.forall_mem_cons.mp hst).2 hlv r ((if_pos q).symm.trans ho) H locs ls hP hS hl) (fun q => kf (List.forall_mem_cons.mp hst).2 hlv r ((if_neg q).symm.trans ho) H locs ls hP hS hl)
theorem r_if_ge {X : gX} {own : String} {cc : ByteArray} {h nL : Nat} {ret : Option FieldType} (C : gC X own cc h nL ret) {ρ : Type} {enc : ρ → Option Value} {pc : Nat} {lv : List (Option gV)} {st : List gV} {σ : gM} {o1 o2 : Option (ρ × gM)} {x : Int32} {off : Int} {tgt : Nat} (hd : decode cc pc = .ok (.ifCond .ge off, 3)) (ht : (pc : Int) + off = (tgt : Int)) (kt : gw X enc tgt lv st σ o1) (kf : gw X enc (pc + 3) lv st σ o2) : gw X enc pc lv (.inl x :: st) σ (if 0 ≤ x then o1 else o2) := by
  obtain ⟨p, l, e, h', s, m, args, below, meth, c, E, nL'⟩ := X
  obtain ⟨rfl, rfl, hx, hb, hml, hown, hts, hN, hK, hE, hlk, hrt⟩ := C
  intro hst hlv r ho H locs ls hP hS hl
  exact lv_if_ge hx hb hd ht (fun q => kt (List.forall_mem_cons.mp hst).2 hlv r ((if_pos q).symm.trans ho) H locs ls hP hS hl) (fun q => kf (List.forall_mem_cons.mp hst).2 hlv r ((if_neg q).symm.trans ho) H locs ls hP hS hl)
theorem r_if_gt {X : gX} {own : String} {cc : ByteArray} {h nL : Nat} {ret : Option FieldType} (C : gC X own cc h nL ret) {ρ : Type} {enc : ρ → Option Value} {pc : Nat} {lv : List (Option gV)} {st : List gV} {σ : gM} {o1 o2 : Option (ρ × gM)} {x : Int32} {off : Int} {tgt : Nat} (hd : decode cc pc = .ok (.ifCond .gt off, 3)) (ht : (pc : Int) + off = (tgt : Int)) (kt : gw X enc tgt lv st σ o1) (kf : gw X enc (pc + 3) lv st σ o2) : gw X enc pc lv (.inl x :: st) σ (if 0 < x then o1 else o2) := by
  obtain ⟨p, l, e, h', s, m, args, below, meth, c, E, nL'⟩ := X
  obtain ⟨rfl, rfl, hx, hb, hml, hown, hts, hN, hK, hE, hlk, hrt⟩ := C
  intro hst hlv r ho H locs ls hP hS hl
  exact lv_if_gt hx hb hd ht (fun q => kt (List.forall_mem_cons.mp hst).2 hlv r ((if_pos q).symm.trans ho) H locs ls hP hS hl) (fun q => kf (List.forall_mem_cons.mp hst).2 hlv r ((if_neg q).symm.trans ho) H locs ls hP hS hl)
theorem r_if_le {X : gX} {own : String} {cc : ByteArray} {h nL : Nat} {ret : Option FieldType} (C : gC X own cc h nL ret) {ρ : Type} {enc : ρ → Option Value} {pc : Nat} {lv : List (Option gV)} {st : List gV} {σ : gM} {o1 o2 : Option (ρ × gM)} {x : Int32} {off : Int} {tgt : Nat} (hd : decode cc pc = .ok (.ifCond .le off, 3)) (ht : (pc : Int) + off = (tgt : Int)) (kt : gw X enc tgt lv st σ o1) (kf : gw X enc (pc + 3) lv st σ o2) : gw X enc pc lv (.inl x :: st) σ (if x ≤ 0 then o1 else o2) := by
  obtain ⟨p, l, e, h', s, m, args, below, meth, c, E, nL'⟩ := X
  obtain ⟨rfl, rfl, hx, hb, hml, hown, hts, hN, hK, hE, hlk, hrt⟩ := C
  intro hst hlv r ho H locs ls hP hS hl
  exact lv_if_le hx hb hd ht (fun q => kt (List.forall_mem_cons.mp hst).2 hlv r ((if_pos q).symm.trans ho) H locs ls hP hS hl) (fun q => kf (List.forall_mem_cons.mp hst).2 hlv r ((if_neg q).symm.trans ho) H locs ls hP hS hl)
theorem r_icmp_eq {X : gX} {own : String} {cc : ByteArray} {h nL : Nat} {ret : Option FieldType} (C : gC X own cc h nL ret) {ρ : Type} {enc : ρ → Option Value} {pc : Nat} {lv : List (Option gV)} {st : List gV} {σ : gM} {o1 o2 : Option (ρ × gM)} {x y : Int32} {off : Int} {tgt : Nat} (hd : decode cc pc = .ok (.if_icmp .eq off, 3)) (ht : (pc : Int) + off = (tgt : Int)) (kt : gw X enc tgt lv st σ o1) (kf : gw X enc (pc + 3) lv st σ o2) : gw X enc pc lv (.inl y :: .inl x :: st) σ (if x = y then o1 else o2) := by
  obtain ⟨p, l, e, h', s, m, args, below, meth, c, E, nL'⟩ := X
  obtain ⟨rfl, rfl, hx, hb, hml, hown, hts, hN, hK, hE, hlk, hrt⟩ := C
  intro hst hlv r ho H locs ls hP hS hl
  have h2 := (List.forall_mem_cons.mp (List.forall_mem_cons.mp hst).2).2
  exact lv_icmp_eq hx hb hd ht (fun q => kt h2 hlv r ((if_pos q).symm.trans ho) H locs ls hP hS hl) (fun q => kf h2 hlv r ((if_neg q).symm.trans ho) H locs ls hP hS hl)
theorem r_icmp_lt {X : gX} {own : String} {cc : ByteArray} {h nL : Nat} {ret : Option FieldType} (C : gC X own cc h nL ret) {ρ : Type} {enc : ρ → Option Value} {pc : Nat} {lv : List (Option gV)} {st : List gV} {σ : gM} {o1 o2 : Option (ρ × gM)} {x y : Int32} {off : Int} {tgt : Nat} (hd : decode cc pc = .ok (.if_icmp .lt off, 3)) (ht : (pc : Int) + off = (tgt : Int)) (kt : gw X enc tgt lv st σ o1) (kf : gw X enc (pc + 3) lv st σ o2) : gw X enc pc lv (.inl y :: .inl x :: st) σ (if x < y then o1 else o2) := by
  obtain ⟨p, l, e, h', s, m, args, below, meth, c, E, nL'⟩ := X
  obtain ⟨rfl, rfl, hx, hb, hml, hown, hts, hN, hK, hE, hlk, hrt⟩ := C
  intro hst hlv r ho H locs ls hP hS hl
  have h2 := (List.forall_mem_cons.mp (List.forall_mem_cons.mp hst).2).2
  exact lv_icmp_lt hx hb hd ht (fun q => kt h2 hlv r ((if_pos q).symm.trans ho) H locs ls hP hS hl) (fun q => kf h2 hlv r ((if_neg q).symm.trans ho) H locs ls hP hS hl)
theorem r_icmp_ge {X : gX} {own : String} {cc : ByteArray} {h nL : Nat} {ret : Option FieldType} (C : gC X own cc h nL ret) {ρ : Type} {enc : ρ → Option Value} {pc : Nat} {lv : List (Option gV)} {st : List gV} {σ : gM} {o1 o2 : Option (ρ × gM)} {x y : Int32} {off : Int} {tgt : Nat} (hd : decode cc pc = .ok (.if_icmp .ge off, 3)) (ht : (pc : Int) + off = (tgt : Int)) (kt : gw X enc tgt lv st σ o1) (kf : gw X enc (pc + 3) lv st σ o2) : gw X enc pc lv (.inl y :: .inl x :: st) σ (if y ≤ x then o1 else o2) := by
  obtain ⟨p, l, e, h', s, m, args, below, meth, c, E, nL'⟩ := X
  obtain ⟨rfl, rfl, hx, hb, hml, hown, hts, hN, hK, hE, hlk, hrt⟩ := C
  intro hst hlv r ho H locs ls hP hS hl
  have h2 := (List.forall_mem_cons.mp (List.forall_mem_cons.mp hst).2).2
  exact lv_icmp_ge hx hb hd ht (fun q => kt h2 hlv r ((if_pos q).symm.trans ho) H locs ls hP hS hl) (fun q => kf h2 hlv r ((if_neg q).symm.trans ho) H locs ls hP hS hl)
theorem r_icmp_gt {X : gX} {own : String} {cc : ByteArray} {h nL : Nat} {ret : Option FieldType} (C : gC X own cc h nL ret) {ρ : Type} {enc : ρ → Option Value} {pc : Nat} {lv : List (Option gV)} {st : List gV} {σ : gM} {o1 o2 : Option (ρ × gM)} {x y : Int32} {off : Int} {tgt : Nat} (hd : decode cc pc = .ok (.if_icmp .gt off, 3)) (ht : (pc : Int) + off = (tgt : Int)) (kt : gw X enc tgt lv st σ o1) (kf : gw X enc (pc + 3) lv st σ o2) : gw X enc pc lv (.inl y :: .inl x :: st) σ (if y < x then o1 else o2) := by
  obtain ⟨p, l, e, h', s, m, args, below, meth, c, E, nL'⟩ := X
  obtain ⟨rfl, rfl, hx, hb, hml, hown, hts, hN, hK, hE, hlk, hrt⟩ := C
  intro hst hlv r ho H locs ls hP hS hl
  have h2 := (List.forall_mem_cons.mp (List.forall_mem_cons.mp hst).2).2
  exact lv_icmp_gt hx hb hd ht (fun q => kt h2 hlv r ((if_pos q).symm.trans ho) H locs ls hP hS hl) (fun q => kf h2 hlv r ((if_neg q).symm.trans ho) H locs ls hP hS hl)
theorem r_icmp_le {X : gX} {own : String} {cc : ByteArray} {h nL : Nat} {ret : Option FieldType} (C : gC X own cc h nL ret) {ρ : Type} {enc : ρ → Option Value} {pc : Nat} {lv : List (Option gV)} {st : List gV} {σ : gM} {o1 o2 : Option (ρ × gM)} {x y : Int32} {off : Int} {tgt : Nat} (hd : decode cc pc = .ok (.if_icmp .le off, 3)) (ht : (pc : Int) + off = (tgt : Int)) (kt : gw X enc tgt lv st σ o1) (kf : gw X enc (pc + 3) lv st σ o2) : gw X enc pc lv (.inl y :: .inl x :: st) σ (if x ≤ y then o1 else o2) := by
  obtain ⟨p, l, e, h', s, m, args, below, meth, c, E, nL'⟩ := X
  obtain ⟨rfl, rfl, hx, hb, hml, hown, hts, hN, hK, hE, hlk, hrt⟩ := C
  intro hst hlv r ho H locs ls hP hS hl
  have h2 := (List.forall_mem_cons.mp (List.forall_mem_cons.mp hst).2).2
  exact lv_icmp_le hx hb hd ht (fun q => kt h2 hlv r ((if_pos q).symm.trans ho) H locs ls hP hS hl) (fun q => kf h2 hlv r ((if_neg q).symm.trans ho) H locs ls hP hS hl)
theorem r_if_ne {X : gX} {own : String} {cc : ByteArray} {h nL : Nat} {ret : Option FieldType} (C : gC X own cc h nL ret) {ρ : Type} {enc : ρ → Option Value} {pc : Nat} {lv : List (Option gV)} {st : List gV} {σ : gM} {o1 o2 : Option (ρ × gM)} {x : Int32} {off : Int} {tgt : Nat} (hd : decode cc pc = .ok (.ifCond .ne off, 3)) (ht : (pc : Int) + off = (tgt : Int)) (kt : gw X enc tgt lv st σ o1) (kf : gw X enc (pc + 3) lv st σ o2) : gw X enc pc lv (.inl x :: st) σ (if x = 0 then o2 else o1) := by
  obtain ⟨p, l, e, h', s, m, args, below, meth, c, E, nL'⟩ := X
  obtain ⟨rfl, rfl, hx, hb, hml, hown, hts, hN, hK, hE, hlk, hrt⟩ := C
  intro hst hlv r ho H locs ls hP hS hl
  exact lv_if_ne hx hb hd ht (fun q => kt (List.forall_mem_cons.mp hst).2 hlv r ((if_neg q).symm.trans ho) H locs ls hP hS hl) (fun q => kf (List.forall_mem_cons.mp hst).2 hlv r ((if_pos q).symm.trans ho) H locs ls hP hS hl)
theorem r_icmp_ne {X : gX} {own : String} {cc : ByteArray} {h nL : Nat} {ret : Option FieldType} (C : gC X own cc h nL ret) {ρ : Type} {enc : ρ → Option Value} {pc : Nat} {lv : List (Option gV)} {st : List gV} {σ : gM} {o1 o2 : Option (ρ × gM)} {x y : Int32} {off : Int} {tgt : Nat} (hd : decode cc pc = .ok (.if_icmp .ne off, 3)) (ht : (pc : Int) + off = (tgt : Int)) (kt : gw X enc tgt lv st σ o1) (kf : gw X enc (pc + 3) lv st σ o2) : gw X enc pc lv (.inl y :: .inl x :: st) σ (if x = y then o2 else o1) := by
  obtain ⟨p, l, e, h', s, m, args, below, meth, c, E, nL'⟩ := X
  obtain ⟨rfl, rfl, hx, hb, hml, hown, hts, hN, hK, hE, hlk, hrt⟩ := C
  intro hst hlv r ho H locs ls hP hS hl
  have h2 := (List.forall_mem_cons.mp (List.forall_mem_cons.mp hst).2).2
  exact lv_icmp_ne hx hb hd ht (fun q => kt h2 hlv r ((if_neg q).symm.trans ho) H locs ls hP hS hl) (fun q => kf h2 hlv r ((if_pos q).symm.trans ho) H locs ls hP hS hl)
theorem r_ifeqB {X : gX} {own : String} {cc : ByteArray} {h nL : Nat} {ret : Option FieldType} (C : gC X own cc h nL ret) {ρ : Type} {enc : ρ → Option Value} {pc : Nat} {lv : List (Option gV)} {st : List gV} {σ : gM} {o1 o2 : Option (ρ × gM)} {x : Bool} {off : Int} {tgt : Nat} (hd : decode cc pc = .ok (.ifCond .eq off, 3)) (ht : (pc : Int) + off = (tgt : Int)) (kt : gw X enc tgt lv st σ o1) (kf : gw X enc (pc + 3) lv st σ o2) : gw X enc pc lv (.inl (bI x) :: st) σ (if x = true then o2 else o1) := by
  cases x
  · exact (show gw X enc pc lv (.inl (bI false) :: st) σ (if bI false = 0 then o1 else o2) from r_if_eq C hd ht kt kf)
  · exact (show gw X enc pc lv (.inl (bI true) :: st) σ (if bI true = 0 then o1 else o2) from r_if_eq C hd ht kt kf)
theorem r_ifneB {X : gX} {own : String} {cc : ByteArray} {h nL : Nat} {ret : Option FieldType} (C : gC X own cc h nL ret) {ρ : Type} {enc : ρ → Option Value} {pc : Nat} {lv : List (Option gV)} {st : List gV} {σ : gM} {o1 o2 : Option (ρ × gM)} {x : Bool} {off : Int} {tgt : Nat} (hd : decode cc pc = .ok (.ifCond .ne off, 3)) (ht : (pc : Int) + off = (tgt : Int)) (kt : gw X enc tgt lv st σ o1) (kf : gw X enc (pc + 3) lv st σ o2) : gw X enc pc lv (.inl (bI x) :: st) σ (if x = true then o1 else o2) := by
  cases x
  · exact (show gw X enc pc lv (.inl (bI false) :: st) σ (if bI false = 0 then o2 else o1) from r_if_ne C hd ht kt kf)
  · exact (show gw X enc pc lv (.inl (bI true) :: st) σ (if bI true = 0 then o2 else o1) from r_if_ne C hd ht kt kf)
theorem r_let {X : gX} {ρ : Type} {enc : ρ → Option Value} {pc : Nat} {lv : List (Option gV)} {st : List gV} {σ : gM} {x : Int32} {kk : Int32 → Option (ρ × gM)} (k : ∀ y : Int32, gw X enc pc lv (.inl y :: st) σ (kk y)) : gw X enc pc lv (.inl x :: st) σ (gLet x kk) := k x
theorem r_peel {X : gX} {ρ : Type} {enc : ρ → Option Value} {pc : Nat} {lv : List (Option gV)} {st : List gV} {σ : gM} {x v : Int32} {o1 o2 : Option (ρ × gM)} (k1 : gw X enc pc lv (.inl v :: st) σ o1) (k2 : ¬ x = v → gw X enc pc lv (.inl x :: st) σ o2) : gw X enc pc lv (.inl x :: st) σ (if x = v then o1 else o2) := by
  by_cases q : x = v
  · rw [if_pos q, q]; exact k1
  · rw [if_neg q]; exact k2 q
/-- locals that are forgotten -/
def gsub : List (Option gV) → List (Option gV) → Prop
  | [], _ => True
  | none :: a, [] => gsub a []
  | none :: a, _ :: b => gsub a b
  | some v :: a, some w :: b => v = w ∧ gsub a b
  | some _ :: _, _ => False
theorem gsub_at : ∀ (a b : List (Option gV)), gsub a b → ∀ (k : Nat) (v : gV), a[k]? = some (some v) → b[k]? = some (some v)
  | [], _, _, k, v, h => by simp at h
  | none :: a, [], hs, k, v, h => by
    cases k with
    | zero => simp at h
    | succ k => exact absurd (gsub_at a [] hs k v (by simpa using h)) (by simp)
  | none :: a, _ :: b, hs, k, v, h => by
    cases k with
    | zero => simp at h
    | succ k => simpa using gsub_at a b hs k v (by simpa using h)
  | some u :: a, some w :: b, hs, k, v, h => by
    cases k with
    | zero => simp at h ⊢; rw [← hs.1]; exact h
    | succ k => simpa using gsub_at a b hs.2 k v (by simpa using h)
  | some _ :: _, [], hs, _, _, _ => absurd hs id
  | some _ :: _, none :: _, hs, _, _, _ => absurd hs id
theorem r_weak {X : gX} {ρ : Type} {enc : ρ → Option Value} {pc : Nat} {lv lv' : List (Option gV)} {st : List gV} {σ : gM} {o : Option (ρ × gM)} (hs : gsub lv' lv) (k : gw X enc pc lv' st σ o) : gw X enc pc lv st σ o := by
  obtain ⟨p, l, e, h', s, m, args, below, meth, c, E, nL'⟩ := X
  intro hst hlv r ho H locs ls hP hS hl
  refine k hst (fun v hv => ?_) r ho H locs ls hP hS ⟨hl.1, hl.2.1, fun i v hv => hl.2.2 i v (gsub_at _ _ hs i v hv)⟩
  obtain ⟨i, hi⟩ := List.getElem?_of_mem hv
  exact hlv v (List.mem_of_getElem? (gsub_at _ _ hs i v hi))
/-- a field's link: of the class's own, or a nest mate's -/
def gFW (own : String) (idx t j : Nat) : Prop := t < 10 ∧ j < gnf t ∧ (gTn t j).1 = gRn t ∧ (Cond.fieldLink own idx (gRn t) (gTn t j).2.1 (gTn t j).2.2.1 ∈ gU ∨ ∃ host, Cond.fieldLinkNest own idx (gRn t) (gTn t j).2.1 (gTn t j).2.2.1 host ∈ gNL)
theorem gcell_obj {E : gE} {σ : gM} {t k : Nat} (ht : t < 10) : gcell E σ t k = .inr (t, (List.range (gnf t)).map (fun j => gv E (gfv σ t k j))) := by
  unfold gcell; rw [if_pos ht]
theorem gcell_int {E : gE} {σ : gM} {t k : Nat} (h1 : ¬ t < 10) (h2 : ¬ (t = 41 ∨ t = 42)) : gcell E σ t k = .inl (E.2.1 (gcls t), glen t, .inl (σ t k)) := by
  unfold gcell; rw [if_neg h1, if_neg h2]
theorem gcell_ref {E : gE} {σ : gM} {t k : Nat} (h1 : ¬ t < 10) (h2 : t = 41 ∨ t = 42) : gcell E σ t k = .inl (E.2.1 (gcls t), glen t, .inr (.inr (.inr (.inr (fun i => some (E.2.2.1 (garef t k i).1 (garef t k i).2)))))) := by
  unfold gcell; rw [if_neg h1, if_pos h2]
theorem gfs_at {E : gE} {σ : gM} {t k j : Nat} (hj : j < gnf t) : ((List.range (gnf t)).map (fun j => gv E (gfv σ t k j)))[j]? = some (gv E (gfv σ t k j)) := by
  simp [hj]
theorem r_get {X : gX} {own : String} {cc : ByteArray} {h nL : Nat} {ret : Option FieldType} (C : gC X own cc h nL ret) {ρ : Type} {enc : ρ → Option Value} {pc : Nat} {lv : List (Option gV)} {st : List gV} {σ : gM} {o : Option (ρ × gM)} {idx t k j : Nat} {v : gV} (hf : gFW own idx t j) (hd : decode cc pc = .ok (.getfield idx, 3)) (hv : gfv σ t k j = v) (kk : gw X enc (pc + 3) lv (v :: st) σ o) : gw X enc pc lv (.inr (t, k) :: st) σ o := by
  subst hv
  obtain ⟨p, l, e, h', s, m, args, below, meth, c, E, nL'⟩ := X
  obtain ⟨rfl, rfl, hx, hb, hml, hown, hts, hN, hK, hE, hlk, hrt⟩ := C
  intro hst hlv r ho H locs ls hP hS hl
  obtain ⟨ht, hj, hT, hlink⟩ := hf
  have hq : gin E (t, k) := (List.forall_mem_cons.mp hst).1
  obtain ⟨q0, h0⟩ := gpl_at hq
  have hw := gW_get (σ := σ) h0
  rw [gcell_obj ht] at hw
  have hvok : gok E (gfv σ t k j) := by
    unfold gfv
    cases hr : gref t j k with
    | none => trivial
    | some q => exact hE.2.1 t k j q ht hq hr
  have hgo := kk (List.forall_mem_cons.mpr ⟨hvok, (List.forall_mem_cons.mp hst).2⟩) hlv r ho H locs ls hP hS hl
  rcases hlink with hl1 | ⟨host, hl1⟩
  · exact va_get (D := E.1) (ci := t) (v := gv E (gfv σ t k j)) (C := gRn t) (T := gTn t) (N := gnf t) hx hb hts (gUin ht) hown hK hP q0 hw (gcl ht) j hj (hts _ hl1) (fun x hx => by rw [← hT]; exact hx) (gfs_at hj) hd hgo
  · exact va_getN (D := E.1) (ci := t) (v := gv E (gfv σ t k j)) (C := gRn t) (T := gTn t) (N := gnf t) hx hb hts (gUin ht) hown hK hP q0 hw (gcl ht) j hj (va_Nw.use rfl (hN _ hl1)) (fun x hx => by rw [← hT]; exact hx) (gfs_at hj) hd hgo
theorem gup_ne {σ : gM} {t k i t' k' : Nat} {v : Int32} (h : ¬ (t' = t ∧ k' = k)) : σ t' k' = gup σ t k i v t' k' := by
  funext j
  unfold gup
  rw [if_neg (fun q => h ⟨q.1, q.2.1⟩)]
theorem gup_row {σ : gM} {t k i : Nat} {v : Int32} : gup σ t k i v t k = upd (σ t k) i v := by
  funext j
  unfold gup upd
  by_cases hj : j = i
  · simp [hj]
  · simp [hj]
theorem gcell_put {E : gE} {σ : gM} {t k j : Nat} {x : Int32} (ht : t < 10) (hr : gref t j k = none) : (.inr (t, ((List.range (gnf t)).map (fun j => gv E (gfv σ t k j))).set j (.int x)) : va_E) = gcell E (gup σ t k j x) t k := by
  rw [gcell_obj ht]
  congr 2
  apply List.ext_getElem?
  intro i
  by_cases hi : i = j
  · subst hi
    by_cases hl : i < gnf t
    · rw [List.getElem?_set_self (by simpa using hl), gfs_at hl]
      simp [gfv, hr, gv, gup]
    · rw [List.getElem?_eq_none (by simp; omega), List.getElem?_eq_none (by simp; omega)]
  · rw [List.getElem?_set_ne (Ne.symm hi)]
    by_cases hl : i < gnf t
    · rw [gfs_at hl, gfs_at hl]
      congr 2
      unfold gfv gup
      cases gref t i k with
      | some q => rfl
      | none => simp [hi]
    · rw [List.getElem?_eq_none (by simp; omega), List.getElem?_eq_none (by simp; omega)]
def gSet {β : Type} (σ : gM) (t k j : Nat) (x : Int32) (kk : gM → β) : β := kk (gup σ t k j x)
theorem r_putG {X : gX} {own : String} {cc : ByteArray} {h nL : Nat} {ret : Option FieldType} (C : gC X own cc h nL ret) {ρ : Type} {enc : ρ → Option Value} {pc : Nat} {lv : List (Option gV)} {st : List gV} {σ : gM} {idx t k j : Nat} {x : Int32} {kk : gM → Option (ρ × gM)} (hf : gFW own idx t j) (hr : gref t j k = none) (hfin : (gTn t j).2.2.2 = false) (hn : narrow (gty t j) (.int x) = .int x) (hfit : fits (gty t j) (.int x) = true) (hd : decode cc pc = .ok (.putfield idx, 3)) (kk1 : ∀ σ1, gw X enc (pc + 3) lv st σ1 (kk σ1)) : gw X enc pc lv (.inl x :: .inr (t, k) :: st) σ (gSet σ t k j x kk) := by
  obtain ⟨p, l, e, h', s, m, args, below, meth, c, E, nL'⟩ := X
  obtain ⟨rfl, rfl, hx, hb, hml, hown, hts, hN, hK, hE, hlk, hrt⟩ := C
  intro hst hlv r ho H locs ls hP hS hl
  obtain ⟨ht, hj, hT, hlink⟩ := hf
  have hst2 := (List.forall_mem_cons.mp hst).2
  have hq : gin E (t, k) := (List.forall_mem_cons.mp hst2).1
  obtain ⟨q0, h0⟩ := gpl_at hq
  have hw := gW_get (σ := σ) h0
  rw [gcell_obj ht] at hw
  have hset : (gW E σ).set q0 (E.2.2.1 t k, .inr (t, ((List.range (gnf t)).map (fun j => gv E (gfv σ t k j))).set j (.int x))) = gW E (gup σ t k j x) := gW_set hE h0 (fun t' k' h => gup_ne h) (gcell_put ht hr)
  have hlen : j < ((List.range (gnf t)).map (fun j => gv E (gfv σ t k j))).length := by simpa using hj
  have hgo := fun (H1 : Heap) (locs1 : List Loc) (a : va_P E.1 vwCl ((gW E σ).set q0 (E.2.2.1 t k, .inr (t, ((List.range (gnf t)).map (fun j => gv E (gfv σ t k j))).set j (.int x)))) H1) (_ : va_D (gA E) ((gW E σ).set q0 (E.2.2.1 t k, .inr (t, ((List.range (gnf t)).map (fun j => gv E (gfv σ t k j))).set j (.int x))))) (b : va_S (gA E) s.heap H1 locs1) => kk1 (gup σ t k j x) (List.forall_mem_cons.mp hst2).2 hlv r ho H1 locs1 ls (hset ▸ a) b hl
  rcases hlink with hl1 | ⟨host, hl1⟩
  · exact va_put (D := E.1) (ci := t) (v := .int x) (C := gRn t) (T := gTn t) (N := gnf t) hx hb hts (gUin ht) (gty t) (gty_ok ht) (gnm_ok ht) hown hK hP (hE.1 σ) hS q0 hw (gcl ht) j hj (hts _ hl1) (fun x hx => by rw [← hT]; exact hx) hfin (gty_ok ht j hj) hn hfit hlen hd hgo
  · exact va_putN (D := E.1) (ci := t) (v := .int x) (C := gRn t) (T := gTn t) (N := gnf t) hx hb hts (gUin ht) (gty t) (gty_ok ht) (gnm_ok ht) hown hK hP (hE.1 σ) hS q0 hw (gcl ht) j hj (va_Nw.use rfl (hN _ hl1)) (fun x hx => by rw [← hT]; exact hx) hfin (gty_ok ht j hj) hn hfit hlen hd hgo
theorem r_put {X : gX} {own : String} {cc : ByteArray} {h nL : Nat} {ret : Option FieldType} (C : gC X own cc h nL ret) {ρ : Type} {enc : ρ → Option Value} {pc : Nat} {lv : List (Option gV)} {st : List gV} {σ : gM} {idx t k j : Nat} {x : Int32} {kk : gM → Option (ρ × gM)} (hf : gFW own idx t j) (hr : gref t j k = none) (hfin : (gTn t j).2.2.2 = false) (hty : gty t j = .int) (hd : decode cc pc = .ok (.putfield idx, 3)) (kk1 : ∀ σ1, gw X enc (pc + 3) lv st σ1 (kk σ1)) : gw X enc pc lv (.inl x :: .inr (t, k) :: st) σ (gSet σ t k j x kk) :=
  r_putG C hf hr hfin (by rw [hty]; rfl) (by rw [hty]; rfl) hd kk1
/-- arrays of numbers -/
def gAt {β : Type} (σ : gM) (t k : Nat) (i : Int32) (kk : Int32 → Option β) : Option β := if i < 0 ∨ glen t ≤ i.toNatClampNeg then none else kk (σ t k i.toNatClampNeg)
def gPut {β : Type} (σ : gM) (t k : Nat) (i x : Int32) (kk : gM → Option β) : Option β := if i < 0 ∨ glen t ≤ i.toNatClampNeg then none else kk (gup σ t k i.toNatClampNeg x)
def gAtR {β : Type} (t : Nat) (i : Int32) (kk : Nat → Option β) : Option β := if i < 0 ∨ glen t ≤ i.toNatClampNeg then none else kk i.toNatClampNeg
theorem gia_spec {t : Nat} (h : gia t = true) : ¬ t < 10 ∧ ¬ (t = 41 ∨ t = 42) ∧ gcls t = 0 := by
  unfold gia at h
  simp only [Bool.and_eq_true, decide_eq_true_eq, bne_iff_ne, ne_eq] at h
  refine ⟨by omega, by omega, ?_⟩
  unfold gcls
  rw [if_neg (by omega), if_neg (by omega), if_neg (by omega)]
theorem r_iald {X : gX} {own : String} {cc : ByteArray} {h nL : Nat} {ret : Option FieldType} (C : gC X own cc h nL ret) {ρ : Type} {enc : ρ → Option Value} {pc : Nat} {lv : List (Option gV)} {st : List gV} {σ : gM} {t k : Nat} {i : Int32} {kk : Int32 → Option (ρ × gM)} (ht : gia t = true) (hd : decode cc pc = .ok (.iaload, 1)) (k1 : ∀ x : Int32, gw X enc (pc + 1) lv (.inl x :: st) σ (kk x)) : gw X enc pc lv (.inl i :: .inr (t, k) :: st) σ (gAt σ t k i kk) := by
  obtain ⟨t1, t2, t3⟩ := gia_spec ht
  obtain ⟨p, l, e, h', s, m, args, below, meth, c, E, nL'⟩ := X
  obtain ⟨rfl, rfl, hx, hb, hml, hown, hts, hN, hK, hE, hlk, hrt⟩ := C
  intro hst hlv r ho H locs ls hP hS hl
  have hst2 := (List.forall_mem_cons.mp hst).2
  obtain ⟨q0, h0⟩ := gpl_at (List.forall_mem_cons.mp hst2).1
  have hw := gW_get (σ := σ) h0
  rw [gcell_int t1 t2, t3] at hw
  unfold gAt at ho
  by_cases hin : i < 0 ∨ glen t ≤ i.toNatClampNeg
  · rw [if_pos hin] at ho; cases ho
  · rw [if_neg hin] at ho
    exact va_iald hx hb hK hP q0 0 hw rfl hin hd (k1 _ (List.forall_mem_cons.mpr ⟨trivial, (List.forall_mem_cons.mp hst2).2⟩) hlv r ho H locs ls hP hS hl)
theorem r_zald {X : gX} {own : String} {cc : ByteArray} {h nL : Nat} {ret : Option FieldType} (C : gC X own cc h nL ret) {ρ : Type} {enc : ρ → Option Value} {pc : Nat} {lv : List (Option gV)} {st : List gV} {σ : gM} {k : Nat} {i : Int32} {kk : Int32 → Option (ρ × gM)} (hd : decode cc pc = .ok (.baload, 1)) (k1 : ∀ x : Int32, gw X enc (pc + 1) lv (.inl x :: st) σ (kk x)) : gw X enc pc lv (.inl i :: .inr (54, k) :: st) σ (gAt σ 54 k i kk) := by
  obtain ⟨p, l, e, h', s, m, args, below, meth, c, E, nL'⟩ := X
  obtain ⟨rfl, rfl, hx, hb, hml, hown, hts, hN, hK, hE, hlk, hrt⟩ := C
  intro hst hlv r ho H locs ls hP hS hl
  have hst2 := (List.forall_mem_cons.mp hst).2
  obtain ⟨q0, h0⟩ := gpl_at (List.forall_mem_cons.mp hst2).1
  have hw : (gW E σ)[q0]? = some (E.2.2.1 54 k, gcell E σ 54 k) := gW_get (σ := σ) h0
  rw [gcell_int (by decide) (by decide)] at hw
  unfold gAt at ho
  by_cases hin : i < 0 ∨ glen 54 ≤ i.toNatClampNeg
  · rw [if_pos hin] at ho; cases ho
  · rw [if_neg hin] at ho
    exact va_zald hx hb hK hP q0 1 hw rfl hin hd (k1 _ (List.forall_mem_cons.mpr ⟨trivial, (List.forall_mem_cons.mp hst2).2⟩) hlv r ho H locs ls hP hS hl)
theorem gcell_iput {E : gE} {σ : gM} {t k i : Nat} {x : Int32} (t1 : ¬ t < 10) (t2 : ¬ (t = 41 ∨ t = 42)) : (.inl (E.2.1 (gcls t), glen t, .inl (upd (σ t k) i x)) : va_E) = gcell E (gup σ t k i x) t k := by
  rw [gcell_int t1 t2, gup_row]
theorem r_iast {X : gX} {own : String} {cc : ByteArray} {h nL : Nat} {ret : Option FieldType} (C : gC X own cc h nL ret) {ρ : Type} {enc : ρ → Option Value} {pc : Nat} {lv : List (Option gV)} {st : List gV} {σ : gM} {t k : Nat} {i x : Int32} {kk : gM → Option (ρ × gM)} (ht : gia t = true) (hd : decode cc pc = .ok (.iastore, 1)) (k1 : ∀ σ1, gw X enc (pc + 1) lv st σ1 (kk σ1)) : gw X enc pc lv (.inl x :: .inl i :: .inr (t, k) :: st) σ (gPut σ t k i x kk) := by
  obtain ⟨t1, t2, t3⟩ := gia_spec ht
  obtain ⟨p, l, e, h', s, m, args, below, meth, c, E, nL'⟩ := X
  obtain ⟨rfl, rfl, hx, hb, hml, hown, hts, hN, hK, hE, hlk, hrt⟩ := C
  intro hst hlv r ho H locs ls hP hS hl
  have hst2 := (List.forall_mem_cons.mp (List.forall_mem_cons.mp hst).2).2
  obtain ⟨q0, h0⟩ := gpl_at (List.forall_mem_cons.mp hst2).1
  have hw := gW_get (σ := σ) h0
  rw [gcell_int t1 t2] at hw
  unfold gPut at ho
  by_cases hin : i < 0 ∨ glen t ≤ i.toNatClampNeg
  · rw [if_pos hin] at ho; cases ho
  · rw [if_neg hin] at ho
    have hset : (gW E σ).set q0 (E.2.2.1 t k, .inl (E.2.1 (gcls t), glen t, .inl (upd (σ t k) i.toNatClampNeg x))) = gW E (gup σ t k i.toNatClampNeg x) := gW_set hE h0 (fun t' k' h => gup_ne h) (gcell_iput t1 t2)
    exact va_iast hx hb hK hP (hE.1 σ) hS q0 0 hw (by rw [t3]; rfl) hin hd (fun H1 locs1 a _ b => k1 _ (List.forall_mem_cons.mp hst2).2 hlv r ho H1 locs1 ls (hset ▸ a) b hl)
theorem r_zast {X : gX} {own : String} {cc : ByteArray} {h nL : Nat} {ret : Option FieldType} (C : gC X own cc h nL ret) {ρ : Type} {enc : ρ → Option Value} {pc : Nat} {lv : List (Option gV)} {st : List gV} {σ : gM} {k : Nat} {i x : Int32} {kk : gM → Option (ρ × gM)} (hz : vp_nar .boolean x = x) (hd : decode cc pc = .ok (.bastore, 1)) (k1 : ∀ σ1, gw X enc (pc + 1) lv st σ1 (kk σ1)) : gw X enc pc lv (.inl x :: .inl i :: .inr (54, k) :: st) σ (gPut σ 54 k i x kk) := by
  obtain ⟨p, l, e, h', s, m, args, below, meth, c, E, nL'⟩ := X
  obtain ⟨rfl, rfl, hx, hb, hml, hown, hts, hN, hK, hE, hlk, hrt⟩ := C
  intro hst hlv r ho H locs ls hP hS hl
  have hst2 := (List.forall_mem_cons.mp (List.forall_mem_cons.mp hst).2).2
  obtain ⟨q0, h0⟩ := gpl_at (List.forall_mem_cons.mp hst2).1
  have hw : (gW E σ)[q0]? = some (E.2.2.1 54 k, gcell E σ 54 k) := gW_get (σ := σ) h0
  rw [gcell_int (by decide) (by decide)] at hw
  unfold gPut at ho
  by_cases hin : i < 0 ∨ glen 54 ≤ i.toNatClampNeg
  · rw [if_pos hin] at ho; cases ho
  · rw [if_neg hin] at ho
    have hset : (gW E σ).set q0 (E.2.2.1 54 k, .inl (E.2.1 (gcls 54), glen 54, .inl (upd (σ 54 k) i.toNatClampNeg (vp_nar .boolean x)))) = gW E (gup σ 54 k i.toNatClampNeg x) := gW_set hE h0 (fun t' k' h => gup_ne h) (by rw [hz]; exact gcell_iput (by decide) (by decide))
    exact va_zast hx hb hK hP (hE.1 σ) hS q0 1 hw rfl hin hd (fun H1 locs1 a _ b => k1 _ (List.forall_mem_cons.mp hst2).2 hlv r ho H1 locs1 ls (hset ▸ a) b hl)
theorem r_aald {X : gX} {own : String} {cc : ByteArray} {h nL : Nat} {ret : Option FieldType} (C : gC X own cc h nL ret) {ρ : Type} {enc : ρ → Option Value} {pc : Nat} {lv : List (Option gV)} {st : List gV} {σ : gM} {t k : Nat} {i : Int32} {kk : Nat → Option (ρ × gM)} {q : Nat → Nat × Nat} (ht : t = 41 ∨ t = 42) (hq : ∀ j, garef t k j = q j) (hd : decode cc pc = .ok (.aaload, 1)) (k1 : ∀ j : Nat, gw X enc (pc + 1) lv (.inr (q j) :: st) σ (kk j)) : gw X enc pc lv (.inl i :: .inr (t, k) :: st) σ (gAtR t i kk) := by
  obtain ⟨p, l, e, h', s, m, args, below, meth, c, E, nL'⟩ := X
  obtain ⟨rfl, rfl, hx, hb, hml, hown, hts, hN, hK, hE, hlk, hrt⟩ := C
  intro hst hlv r ho H locs ls hP hS hl
  have hst2 := (List.forall_mem_cons.mp hst).2
  have hg := (List.forall_mem_cons.mp hst2).1
  obtain ⟨q0, h0⟩ := gpl_at hg
  have hw := gW_get (σ := σ) h0
  rw [gcell_ref (by omega) ht] at hw
  unfold gAtR at ho
  by_cases hin : i < 0 ∨ glen t ≤ i.toNatClampNeg
  · rw [if_pos hin] at ho; cases ho
  · rw [if_neg hin] at ho
    have hlt : i.toNatClampNeg < glen t := Nat.not_le.mp fun z => hin (Or.inr z)
    have hok : gin E (q i.toNatClampNeg) := by
      rw [← hq]
      rcases ht with rfl | rfl
      · exact hE.2.2.1 k _ hg hlt
      · exact hE.2.2.2 k _ hg hlt
    have hgo := k1 i.toNatClampNeg (List.forall_mem_cons.mpr ⟨hok, (List.forall_mem_cons.mp hst2).2⟩) hlv r ho H locs ls hP hS hl
    rw [← hq] at hgo
    rcases ht with rfl | rfl
    · exact va_aldq hx hb hK hP q0 2 hw rfl hin hd hgo
    · exact va_aldq hx hb hK hP q0 3 hw rfl hin hd hgo
theorem gtys_at {E : gE} {t : Nat} : ∃ (t0 : Nat) (ty : FieldType), (gtys E)[t0]? = some (E.2.1 (gcls t), ty) := by
  unfold gcls
  by_cases h1 : t = 54
  · rw [if_pos h1]; exact ⟨1, _, rfl⟩
  · rw [if_neg h1]
    by_cases h2 : t = 41
    · rw [if_pos h2]; exact ⟨2, _, rfl⟩
    · rw [if_neg h2]
      by_cases h3 : t = 42
      · rw [if_pos h3]; exact ⟨3, _, rfl⟩
      · rw [if_neg h3]; exact ⟨0, _, rfl⟩
theorem r_alen {X : gX} {own : String} {cc : ByteArray} {h nL : Nat} {ret : Option FieldType} (C : gC X own cc h nL ret) {ρ : Type} {enc : ρ → Option Value} {pc : Nat} {lv : List (Option gV)} {st : List gV} {σ : gM} {o : Option (ρ × gM)} {t k : Nat} {v : Int32} (ht : ¬ t < 10) (hv : Int32.ofNat (glen t) = v) (hd : decode cc pc = .ok (.arraylength, 1)) (k1 : gw X enc (pc + 1) lv (.inl v :: st) σ o) : gw X enc pc lv (.inr (t, k) :: st) σ o := by
  obtain ⟨p, l, e, h', s, m, args, below, meth, c, E, nL'⟩ := X
  obtain ⟨rfl, rfl, hx, hb, hml, hown, hts, hN, hK, hE, hlk, hrt⟩ := C
  intro hst hlv r ho H locs ls hP hS hl
  obtain ⟨q0, h0⟩ := gpl_at (List.forall_mem_cons.mp hst).1
  have hw := gW_get (σ := σ) h0
  obtain ⟨t0, ty, hty⟩ := gtys_at (E := E) (t := t)
  have hgo := k1 (List.forall_mem_cons.mpr ⟨trivial, (List.forall_mem_cons.mp hst).2⟩) hlv r ho H locs ls hP hS hl
  by_cases h2 : t = 41 ∨ t = 42
  · rw [gcell_ref ht h2] at hw
    exact va_alen hx hb hK hP q0 t0 hw hty hv hd hgo
  · rw [gcell_int ht h2] at hw
    exact va_alen hx hb hK hP q0 t0 hw hty hv hd hgo
def gCopy {β : Type} (σ : gM) (t0 k0 t1 k1 : Nat) (sp dp n : Int32) (kk : gM → Option β) : Option β := if (sp < 0 ∨ dp < 0 ∨ n < 0) ∨ (glen t0 < sp.toNatClampNeg + n.toNatClampNeg ∨ glen t1 < dp.toNatClampNeg + n.toNatClampNeg) then none else kk (gcp σ t0 k0 t1 k1 sp.toNatClampNeg dp.toNatClampNeg n.toNatClampNeg)
theorem gst_cat (E : gE) (st : List gV) : ((st.map (gv E)).map fun v => v.category).sum = st.length := by
  induction st with
  | nil => rfl
  | cons a r ih => simp only [List.map_cons, List.sum_cons, ih, gv_cat, List.length_cons]; omega
theorem r_copy {X : gX} {own : String} {cc : ByteArray} {h nL : Nat} {ret : Option FieldType} (C : gC X own cc h nL ret) {ρ : Type} {enc : ρ → Option Value} {pc : Nat} {lv : List (Option gV)} {st : List gV} {σ : gM} {idx t0 k0 t1 k1 : Nat} {sp dp n : Int32} {kk : gM → Option (ρ × gM)} (ht0 : gia t0 = true) (ht1 : gia t1 = true) (hw : Cond.methodLink own idx arraycopyName ∈ gU ∧ Cond.native arraycopyName ∈ gU ∧ Cond.static arraycopyName ∈ gU ∧ Cond.initialized "java/lang/System" ∈ gU) (hh : 1 ≤ h) (hroom : st.length + (nativeFrameWords "java/lang/System" "arraycopy" 5 + 11) ≤ 36) (hd : decode cc pc = .ok (.invokestatic idx, 3)) (kk1 : ∀ σ1, gw X enc (pc + 3) lv st σ1 (kk σ1)) : gw X enc pc lv (.inl n :: .inl dp :: .inr (t1, k1) :: .inl sp :: .inr (t0, k0) :: st) σ (gCopy σ t0 k0 t1 k1 sp dp n kk) := by
  obtain ⟨a1, a2, a3⟩ := gia_spec ht0
  obtain ⟨b1, b2, b3⟩ := gia_spec ht1
  obtain ⟨p, l, e, h', s, m, args, below, meth, c, E, nL'⟩ := X
  obtain ⟨rfl, rfl, hx, hb, hml, hown, hts, hN, hK, hE, hlk, hrt⟩ := C
  intro hst hlv r ho H locs ls hP hS hl
  have s1 := (List.forall_mem_cons.mp (List.forall_mem_cons.mp hst).2).2
  have s2 := (List.forall_mem_cons.mp (List.forall_mem_cons.mp s1).2).2
  obtain ⟨p0, h0⟩ := gpl_at (List.forall_mem_cons.mp s2).1
  obtain ⟨p1, h1⟩ := gpl_at (List.forall_mem_cons.mp s1).1
  have w0 := gW_get (σ := σ) h0
  have w1 := gW_get (σ := σ) h1
  rw [gcell_int a1 a2, a3] at w0
  rw [gcell_int b1 b2] at w1
  unfold gCopy at ho
  by_cases hin : (sp < 0 ∨ dp < 0 ∨ n < 0) ∨ (glen t0 < sp.toNatClampNeg + n.toNatClampNeg ∨ glen t1 < dp.toNatClampNeg + n.toNatClampNeg)
  · rw [if_pos hin] at ho; cases ho
  · rw [if_neg hin] at ho
    have e1 : ¬ sp < 0 := fun z => hin (Or.inl (Or.inl z))
    have e2 : ¬ dp < 0 := fun z => hin (Or.inl (Or.inr (Or.inl z)))
    have e3 : ¬ n < 0 := fun z => hin (Or.inl (Or.inr (Or.inr z)))
    have e4 : sp.toNatClampNeg + n.toNatClampNeg ≤ glen t0 := Nat.not_lt.mp fun z => hin (Or.inr (Or.inl z))
    have e5 : dp.toNatClampNeg + n.toNatClampNeg ≤ glen t1 := Nat.not_lt.mp fun z => hin (Or.inr (Or.inr z))
    have hset : (gW E σ).set p1 (E.2.2.1 t1 k1, .inl (E.2.1 (gcls t1), glen t1, .inl (va_cpy (σ t0 k0) (σ t1 k1) sp.toNatClampNeg dp.toNatClampNeg n.toNatClampNeg))) = gW E (gcp σ t0 k0 t1 k1 sp.toNatClampNeg dp.toNatClampNeg n.toNatClampNeg) := by
      refine gW_set hE h1 (fun t' k' hne => ?_) ?_
      · unfold gcp; rw [if_neg hne]
      · rw [gcell_int b1 b2]
        unfold gcp
        rw [if_pos ⟨rfl, rfl⟩]
    refine va_copyi hx hb (hml.trans hl.1.symm) hown (hts _ hw.1) (hts _ hw.2.1) (hts _ hw.2.2.1) (hts _ hw.2.2.2) hK hP (hE.1 σ) hS p0 p1 0 0 w0 w1 rfl (by rw [b3]; rfl) rfl e1 e2 e3 e4 e5 (fun i _ => rfl) hh ?_ hd (fun H1 locs1 a _ b => kk1 _ (List.forall_mem_cons.mp s2).2 hlv r ho H1 locs1 ls (hset ▸ a) b hl)
    rw [gst_cat]
    show _ ≤ 36 * h'
    omega
theorem r_mmax {X : gX} {own : String} {cc : ByteArray} {h nL : Nat} {ret : Option FieldType} (C : gC X own cc h nL ret) {ρ : Type} {enc : ρ → Option Value} {pc : Nat} {lv : List (Option gV)} {st : List gV} {σ : gM} {o : Option (ρ × gM)} {idx : Nat} {x y : Int32} (hw : Cond.methodLink own idx Lib.Math.max.name ∈ gU ∧ Cond.static Lib.Math.max.name ∈ gU ∧ Cond.initialized "java/lang/Math" ∈ gU ∧ Cond.code Lib.Math.max.name Lib.Math.max.code 2 (some .int) ∈ gU) (hh : 1 ≤ h) (hroom : st.length ≤ 23) (hd : decode cc pc = .ok (.invokestatic idx, 3)) (k1 : gw X enc (pc + 3) lv (.inl (gMax x y) :: st) σ o) : gw X enc pc lv (.inl y :: .inl x :: st) σ o := by
  obtain ⟨p, l, e, h', s, m, args, below, meth, c, E, nL'⟩ := X
  obtain ⟨rfl, rfl, hx, hb, hml, hown, hts, hN, hK, hE, hlk, hrt⟩ := C
  intro hst hlv r ho H locs ls hP hS hl
  refine va_mmax hx hb (hml.trans hl.1.symm) hown (hts _ hw.1) (hts _ hw.2.1) (hts _ hw.2.2.1) (hts _ hw.2.2.2) hh ?_ (Nat.zero_le _) (Nat.zero_le _) hd (k1 (List.forall_mem_cons.mpr ⟨trivial, (List.forall_mem_cons.mp (List.forall_mem_cons.mp hst).2).2⟩) hlv r ho H locs ls hP hS hl)
  rw [gst_cat]
  show _ ≤ 36 * h'
  omega
theorem r_mmin {X : gX} {own : String} {cc : ByteArray} {h nL : Nat} {ret : Option FieldType} (C : gC X own cc h nL ret) {ρ : Type} {enc : ρ → Option Value} {pc : Nat} {lv : List (Option gV)} {st : List gV} {σ : gM} {o : Option (ρ × gM)} {idx : Nat} {x y : Int32} (hw : Cond.methodLink own idx Lib.Math.min.name ∈ gU ∧ Cond.static Lib.Math.min.name ∈ gU ∧ Cond.initialized "java/lang/Math" ∈ gU ∧ Cond.code Lib.Math.min.name Lib.Math.min.code 2 (some .int) ∈ gU) (hh : 1 ≤ h) (hroom : st.length ≤ 23) (hd : decode cc pc = .ok (.invokestatic idx, 3)) (k1 : gw X enc (pc + 3) lv (.inl (gMin x y) :: st) σ o) : gw X enc pc lv (.inl y :: .inl x :: st) σ o := by
  obtain ⟨p, l, e, h', s, m, args, below, meth, c, E, nL'⟩ := X
  obtain ⟨rfl, rfl, hx, hb, hml, hown, hts, hN, hK, hE, hlk, hrt⟩ := C
  intro hst hlv r ho H locs ls hP hS hl
  refine va_mmin hx hb (hml.trans hl.1.symm) hown (hts _ hw.1) (hts _ hw.2.1) (hts _ hw.2.2.1) (hts _ hw.2.2.2) hh ?_ (Nat.zero_le _) (Nat.zero_le _) hd (k1 (List.forall_mem_cons.mpr ⟨trivial, (List.forall_mem_cons.mp (List.forall_mem_cons.mp hst).2).2⟩) hlv r ho H locs ls hP hS hl)
  rw [gst_cat]
  show _ ≤ 36 * h'
  omega
/-- ends -/
def gRetZ (v : Int32) (σ : gM) : Option (Bool × gM) := if v = 0 then some (false, σ) else if v = 1 then some (true, σ) else none
theorem r_ireturn {X : gX} {own : String} {cc : ByteArray} {h nL : Nat} (C : gC X own cc h nL (some .int)) {pc : Nat} {lv : List (Option gV)} {σ : gM} {v : Int32} (hd : decode cc pc = .ok (.ireturn, 1)) : gw X eI pc lv [.inl v] σ (some (v, σ)) := by
  obtain ⟨p, l, e, h', s, m, args, below, meth, c, E, nL'⟩ := X
  obtain ⟨rfl, rfl, hx, hb, hml, hown, hts, hN, hK, hE, hlk, hrt⟩ := C
  intro hst hlv r ho H locs ls hP hS hl
  cases ho
  exact W.iret (v := v) hx hb hrt (fun t ht hW => ⟨rfl, by rw [ht]; exact hP, va_K.moved hW.alike hK, hS.F ht⟩) hS.2.2 hd hlk
theorem r_zretB {X : gX} {own : String} {cc : ByteArray} {h nL : Nat} (C : gC X own cc h nL (some .boolean)) {pc : Nat} {lv : List (Option gV)} {σ : gM} {b : Bool} (hd : decode cc pc = .ok (.ireturn, 1)) : gw X eB pc lv [.inl (bI b)] σ (some (b, σ)) := by
  obtain ⟨p, l, e, h', s, m, args, below, meth, c, E, nL'⟩ := X
  obtain ⟨rfl, rfl, hx, hb, hml, hown, hts, hN, hK, hE, hlk, hrt⟩ := C
  intro hst hlv r ho H locs ls hP hS hl
  cases ho
  exact W.zret (v := bI b) hx hb hrt (by cases b <;> rfl) (fun t ht hW => ⟨rfl, by rw [ht]; exact hP, va_K.moved hW.alike hK, hS.F ht⟩) hS.2.2 hd hlk
theorem r_zret0 {X : gX} {own : String} {cc : ByteArray} {h nL : Nat} (C : gC X own cc h nL (some .boolean)) {pc : Nat} {lv : List (Option gV)} {σ : gM} (hd : decode cc pc = .ok (.ireturn, 1)) : gw X eB pc lv [.inl 0] σ (some (false, σ)) := by
  have k := r_zretB (b := false) (lv := lv) (σ := σ) C hd
  exact k
theorem r_zret1 {X : gX} {own : String} {cc : ByteArray} {h nL : Nat} (C : gC X own cc h nL (some .boolean)) {pc : Nat} {lv : List (Option gV)} {σ : gM} (hd : decode cc pc = .ok (.ireturn, 1)) : gw X eB pc lv [.inl 1] σ (some (true, σ)) := by
  have k := r_zretB (b := true) (lv := lv) (σ := σ) C hd
  exact k
theorem r_zret {X : gX} {own : String} {cc : ByteArray} {h nL : Nat} (C : gC X own cc h nL (some .boolean)) {pc : Nat} {lv : List (Option gV)} {σ : gM} {v : Int32} (hd : decode cc pc = .ok (.ireturn, 1)) : gw X eB pc lv [.inl v] σ (gRetZ v σ) := by
  unfold gRetZ
  by_cases h0 : v = 0
  · rw [if_pos h0, h0]; exact r_zret0 C hd
  · rw [if_neg h0]
    by_cases h1 : v = 1
    · rw [if_pos h1, h1]; exact r_zret1 C hd
    · rw [if_neg h1]; exact gw_none
theorem r_return {X : gX} {own : String} {cc : ByteArray} {h nL : Nat} (C : gC X own cc h nL none) {pc : Nat} {lv : List (Option gV)} {σ : gM} (hd : decode cc pc = .ok (.return_, 1)) : gw X eU pc lv [] σ (some ((), σ)) := by
  obtain ⟨p, l, e, h', s, m, args, below, meth, c, E, nL'⟩ := X
  obtain ⟨rfl, rfl, hx, hb, hml, hown, hts, hN, hK, hE, hlk, hrt⟩ := C
  intro hst hlv r ho H locs ls hP hS hl
  cases ho
  exact W.vret hx hb hrt (fun t ht hW => ⟨rfl, by rw [ht]; exact hP, va_K.moved hW.alike hK, hS.F ht⟩) hS.2.2 hd hlk
/-- switches -/
theorem r_tsw {X : gX} {own : String} {cc : ByteArray} {h nL : Nat} {ret : Option FieldType} (C : gC X own cc h nL ret) {ρ : Type} {enc : ρ → Option Value} {pc : Nat} {lv : List (Option gV)} {st : List gV} {σ : gM} {o : Option (ρ × gM)} {dflt lo hi : Int} {offs : Array Int} {len : Nat} {x : Int32} {off : Int} {tgt : Nat} (hd : decode cc pc = .ok (.tableswitch dflt lo hi offs, len)) (h1 : ¬ x.toInt < lo) (h2 : ¬ hi < x.toInt) (hoff : offs[(x.toInt - lo).toNat]? = some off) (ht : (pc : Int) + off = (tgt : Int)) (k1 : gw X enc tgt lv st σ o) : gw X enc pc lv (.inl x :: st) σ o := by
  obtain ⟨p, l, e, h', s, m, args, below, meth, c, E, nL'⟩ := X
  obtain ⟨rfl, rfl, hx, hb, hml, hown, hts, hN, hK, hE, hlk, hrt⟩ := C
  intro hst hlv r ho H locs ls hP hS hl
  exact lv_tableIn hx hb hd h1 h2 hoff ht (k1 (List.forall_mem_cons.mp hst).2 hlv r ho H locs ls hP hS hl)
theorem r_tswO {X : gX} {own : String} {cc : ByteArray} {h nL : Nat} {ret : Option FieldType} (C : gC X own cc h nL ret) {ρ : Type} {enc : ρ → Option Value} {pc : Nat} {lv : List (Option gV)} {st : List gV} {σ : gM} {o : Option (ρ × gM)} {dflt lo hi : Int} {offs : Array Int} {len : Nat} {x : Int32} {tgt : Nat} (hd : decode cc pc = .ok (.tableswitch dflt lo hi offs, len)) (hh : x.toInt < lo ∨ hi < x.toInt) (ht : (pc : Int) + dflt = (tgt : Int)) (k1 : gw X enc tgt lv st σ o) : gw X enc pc lv (.inl x :: st) σ o := by
  obtain ⟨p, l, e, h', s, m, args, below, meth, c, E, nL'⟩ := X
  obtain ⟨rfl, rfl, hx, hb, hml, hown, hts, hN, hK, hE, hlk, hrt⟩ := C
  intro hst hlv r ho H locs ls hP hS hl
  exact lv_tableOut hx hb hd hh ht (k1 (List.forall_mem_cons.mp hst).2 hlv r ho H locs ls hP hS hl)
theorem r_lsw {X : gX} {own : String} {cc : ByteArray} {h nL : Nat} {ret : Option FieldType} (C : gC X own cc h nL ret) {ρ : Type} {enc : ρ → Option Value} {pc : Nat} {lv : List (Option gV)} {st : List gV} {σ : gM} {o : Option (ρ × gM)} {dflt : Int} {ps : Array (Int × Int)} {len : Nat} {x : Int32} {off : Int} {tgt : Nat} (hd : decode cc pc = .ok (.lookupswitch dflt ps, len)) (hp : (ps.toList.zip (ps.toList.drop 1)).all (fun (a, next) => a.1 < next.1) = true) (hoff : Op.lookupswitch.offset ps.toList dflt x.toInt = off) (ht : (pc : Int) + off = (tgt : Int)) (k1 : gw X enc tgt lv st σ o) : gw X enc pc lv (.inl x :: st) σ o := by
  obtain ⟨p, l, e, h', s, m, args, below, meth, c, E, nL'⟩ := X
  obtain ⟨rfl, rfl, hx, hb, hml, hown, hts, hN, hK, hE, hlk, hrt⟩ := C
  intro hst hlv r ho H locs ls hP hS hl
  exact lv_lookup hx hb hd hp hoff ht (k1 (List.forall_mem_cons.mp hst).2 hlv r ho H locs ls hP hS hl)
/-- a method's contract: o foretells its answer and its world -/
def gCon {ρ : Type} (enc : ρ → Option Value) (y : MethodName) (cc : ByteArray) (nL : Nat) (ret : Option FieldType) (h : Nat) (as : List gV) (σ : gM) (o : Option (ρ × gM)) : Prop :=
  ∀ (l : Launch) (E : gE), gEok E → (∀ v ∈ as, gok E v) → ∀ r, o = some r → Met l y (Cond.code y cc nL ret :: gU) (grm h) (fun v U => v = (as.map (gv E)).toArray ∧ va_P E.1 vwCl (gW E σ) U.heap ∧ va_K E.1 vwCl (gtys E) U ∧ gNW U) (gQc E (enc r.1) r.2) 0 0 (gA E)
theorem lg_sl_map (E : gE) (as : List gV) : (lg_sl (as.map (gv E))).length = as.length := by
  induction as with
  | nil => rfl
  | cons a r ih =>
    have hc : ¬ (gv E a).category = 2 := by rw [gv_cat]; decide
    unfold lg_sl at ih ⊢
    simp only [List.map_cons, List.flatMap_cons, if_neg hc, List.length_append, List.length_cons, List.length_nil, ih]
    omega
theorem lv_args_map (E : gE) : ∀ (as : List gV) (i k : Nat) (v : gV), as[k]? = some v → (i + k, gv E v) ∈ lv_args i (as.map (gv E)) := by
  intro as
  induction as with
  | nil => intro i k v h; simp at h
  | cons a r ih =>
    intro i k v h
    have hc : ¬ (gv E a).category = 2 := by rw [gv_cat]; decide
    simp only [List.map_cons, lv_args, if_neg hc]
    cases k with
    | zero => simp at h; rw [h]; exact List.mem_cons_self
    | succ k =>
      refine List.mem_cons_of_mem _ ?_
      have := ih (i + 1) k v (by simpa using h)
      rw [show i + (k + 1) = i + 1 + k by omega]
      exact this
theorem gCon.of {ρ : Type} {enc : ρ → Option Value} {y : MethodName} {cc : ByteArray} {nL : Nat} {ret : Option FieldType} {h : Nat} {as : List gV} {σ : gM} {o : Option (ρ × gM)} {lv : List (Option gV)} (hy : plainName y.cls = true) (hn : as.length ≤ nL) (hlv : as.map some ++ List.replicate (nL - as.length) none = lv) (k : ∀ X : gX, gC X y.cls cc h nL ret → gw X enc 0 lv [] σ o) : gCon enc y cc nL ret h as σ o := by
  intro l E hE hok r ho
  refine Met.ofW (cc := cc) (maxL := nL) (ret := ret) hy rfl ?_
  intro p e s m args below meth c s₁ B hml hv
  obtain ⟨rfl, hP, hK, hN⟩ := hv
  have hts := atoms_spec (ws := Cond.code y cc nL ret :: gU) B.pre
  have hown : s.vm.findClass y.cls = some m.cls := findClass_of_methodNamed B.named
  have hC : gC (p, l, e, h, s, m, (as.map (gv E)).toArray, below, meth, c, E, nL) y.cls cc h nL ret := ⟨rfl, rfl, B.exec, B.bytes, hml, hown, fun w hw => hts w (List.mem_cons_of_mem _ hw), hN, hK, hE, B.notSynchronized, B.returns⟩
  have hl := lv_entry (as.map (gv E)) (n := nL) (by rw [lg_sl_map]; exact hn)
  rw [lg_entry_eq]
  generalize (lg_sl (as.map (gv E)) ++ List.replicate (nL - (lg_sl (as.map (gv E))).length) Slot.unset).toArray = ls at hl ⊢
  have at0 : ∀ (i : Nat) (v : gV), lv[i]? = some (some v) → as[i]? = some v := by
    intro i v hi
    rw [← hlv] at hi
    by_cases hlt : i < as.length
    · rw [List.getElem?_append_left (by simpa using hlt)] at hi
      simpa using hi
    · rw [List.getElem?_append_right (by simpa using hlt), List.getElem?_replicate] at hi
      split at hi <;> cases hi
  refine k _ hC (fun v hv => by cases hv) (fun v hv => ?_) r ho s.heap [] ls hP va_S.rf ⟨hl.1, hl.2.1, fun i v hi => ?_⟩
  · obtain ⟨i, hi⟩ := List.getElem?_of_mem hv
    exact hok v (List.mem_of_getElem? (at0 i v hi))
  · have := lv_args_map E as 0 i v (at0 i v hi)
    rw [Nat.zero_add] at this
    exact hl.2.2 _ this
/-- a call's link -/
def gIV (own : String) (idx : Nat) (y : MethodName) (n : Nat) : Prop := (y.cls ≠ "java/lang/invoke/MethodHandle" ∧ y.cls ≠ "java/lang/invoke/VarHandle" ∧ (parseMethodDescriptor y.desc).map (fun d => d.parameters.length) = some n) ∧ Cond.instanceMethod y ∈ gU ∧ Cond.selects y.cls y y ∈ gU ∧ Cond.initialized y.cls ∈ gU ∧ (Cond.methodLink own idx y ∈ gU ∨ ∃ host, Cond.methodLinkNest own idx y host ∈ gNL)
def gIS (own : String) (idx : Nat) (y : MethodName) (n : Nat) : Prop := (y.cls ≠ "java/lang/invoke/MethodHandle" ∧ y.cls ≠ "java/lang/invoke/VarHandle" ∧ (parseMethodDescriptor y.desc).map (fun d => d.parameters.length) = some n) ∧ Cond.static y ∈ gU ∧ Cond.initialized y.cls ∈ gU ∧ (Cond.methodLink own idx y ∈ gU ∨ ∃ host, Cond.methodLinkNest own idx y host ∈ gNL)
def gCall {α β : Type} (o : Option (α × gM)) (kk : α → gM → Option β) : Option β := match o with
  | none => none
  | some q => kk q.1 q.2
theorem gU_goodT {c : Cond} (hc : c ∈ gU) : GoodIn gU (c :: gU) := by
  intro w hw
  have h1 : w ∈ gU := by
    rcases List.mem_cons.mp hw with h | h
    · rw [h]; exact hc
    · exact h
  exact ⟨h1, good_of_word (List.mem_filter.mp h1).2⟩
theorem va_callG {p : Program} {l : Launch} {e : Env} {R : Room} {s : State} {m : MethodId} {args : Array Value} {below : List Frame} {meth : Method} {c : Code} {H : Heap} {locs : List Loc} {Q : State → Prop} {pc : Nat} {ls : Array Slot} {rest st0 : List Value} {a : Array Value} {H0 : Heap} {E : gE} {ov : Option Value} {σ' : gM}
    (hr : va_Run p l e R s m args below meth c H locs 0 0 0 0 (F0 m pc ls st0) rest (gQc E ov σ' a) (gA E)) (hS : va_S (gA E) H0 H locs)
    (kk : ∀ (H1 : Heap) (locs1 : List Loc), va_P E.1 vwCl (gW E σ') H1 → va_S (gA E) H0 H1 locs1 → W p l e R s m args below meth c H1 locs1 0 0 Q (F0 m (pc + 3) ls (ov.toList ++ rest))) : W p l e R s m args below meth c H locs 0 0 Q (F0 m pc ls st0) := by
  intro T hT X
  obtain ⟨v, st₀, t, T', L, h0, X', hL, e1, e2, ⟨hv, hp, -, hz, hk⟩, st⟩ := hr T hT X
  cases hv
  rw [h0] at hz hk
  obtain ⟨t2, a1, b1⟩ := kk T'.heap (locs ++ L) (by rw [e1]; exact hp)
    ⟨Nat.le_trans hS.1 (by rw [e1]; exact hz), fun q h1 h2 => by rw [e1, hk q (Nat.lt_of_lt_of_le h1 hS.1) h2]; exact hS.2.1 q h1 h2, fun q hq => by
      rcases List.mem_append.mp hq with h | h
      · exact hS.2.2 q h
      · exact hL q h⟩ T' rfl X'
  exact ⟨t2, st t2 a1, b1⟩
theorem gmap_rev {E : gE} (As : List gV) : (As.reverse).map (gv E) = (As.map (gv E)).reverse := List.map_reverse
theorem r_inv {X : gX} {own : String} {cc : ByteArray} {h nL : Nat} {ret : Option FieldType} (C : gC X own cc h nL ret) {ρ : Type} {enc : ρ → Option Value} {pc : Nat} {lv : List (Option gV)} {st : List gV} {σ : gM} {ρ' : Type} {enc' : ρ' → Option Value} {y : MethodName} {cc' : ByteArray} {nL' h' idx n : Nat} {ret' : Option FieldType} {t kb : Nat} {As st0 : List gV} {o' : Option (ρ' × gM)} {kk : ρ' → gM → Option (ρ × gM)} {psh : ρ' → List gV} (L : gIV own idx y n) (hcode : Cond.code y cc' nL' ret' ∈ gU) (ht : t < 10) (hcls : gRn t = y.cls) (hcon : gCon enc' y cc' nL' ret' h' (.inr (t, kb) :: As) σ o') (hh : h' + 1 ≤ h) (hnl : nL' ≤ 17) (hn : As.length = n) (hst0 : st0 = As.reverse ++ .inr (t, kb) :: st) (hlen : st.length ≤ 8) (hpsh : ∀ (E : gE) r, (enc' r).toList = (psh r).map (gv E)) (hpok : ∀ (E : gE) r, ∀ v ∈ psh r, gok E v) (hd : decode cc pc = .ok (.invokevirtual idx, 3)) (k1 : ∀ r σ1, gw X enc (pc + 3) lv (psh r ++ st) σ1 (kk r σ1)) : gw X enc pc lv st0 σ (gCall o' kk) := by
  subst hst0
  cases ho' : o' with
  | none => exact gw_none
  | some q =>
  subst ho'
  obtain ⟨p, l, e, h'', s, m, args, below, meth, c, E, nL''⟩ := X
  obtain ⟨rfl, rfl, hx, hb, hml, hown, hts, hN, hK, hE, hlk, hrt⟩ := C
  intro hst hlv r ho H locs ls hP hS hl
  obtain ⟨l1, l2, l3, l4, l5⟩ := L
  have hAs : ∀ v ∈ As, gok E v := fun v hv => hst v (List.mem_append_left _ (List.mem_reverse.mpr hv))
  have hob := List.forall_mem_cons.mp (fun v hv => hst v (List.mem_append_right _ hv) : ∀ v ∈ .inr (t, kb) :: st, gok E v)
  obtain ⟨q0, h0⟩ := gpl_at hob.1
  have hw := gW_get (σ := σ) h0
  rw [gcell_obj ht] at hw
  have hM := hcon l E hE (List.forall_mem_cons.mpr ⟨hob.1, hAs⟩) q rfl
  have hrc := va_recv (cl := vwCl) hK hP (gcl ht) hw
  rw [show (gRn t, gTn t, gnf t).1 = y.cls from hcls] at hrc
  have hpre : ∀ U : State, U.heap = H → s.WarmedH U.vm → (Value.ref (E.2.2.1 t kb) :: As.map (gv E)).toArray = (((Sum.inr (t, kb) : gV) :: As).map (gv E)).toArray ∧ va_P E.1 vwCl (gW E σ) U.heap ∧ va_K E.1 vwCl (gtys E) U ∧ gNW U := fun U hU hW => ⟨rfl, by rw [hU]; exact hP, va_K.moved hW.alike hK, gNW_warm hW hN⟩
  have hbl : FrameBlind (fun (v : Array Value) (U : State) => v = (((Sum.inr (t, kb) : gV) :: As).map (gv E)).toArray ∧ va_P E.1 vwCl (gW E σ) U.heap ∧ va_K E.1 vwCl (gtys E) U ∧ gNW U) := fun a U g mk z => ⟨z.1, z.2.1, va_K.moved (u := U) (U := U.calling g mk a) (Vm.Alike.refl U.vm) z.2.2.1, gNW_same (s := U) (U := U.calling g mk a) rfl z.2.2.2⟩
  have hgo := k1 q.1 q.2 (fun v hv => by
    rcases List.mem_append.mp hv with h | h
    · exact hpok E q.1 v h
    · exact hob.2 v h) hlv r ho
  rw [List.map_append, ← hpsh E q.1] at hgo
  have hstk : (F0 m pc ls ((As.reverse ++ Sum.inr (t, kb) :: st).map (gv E))).stack = (As.map (gv E)).reverse ++ .ref (E.2.2.1 t kb) :: st.map (gv E) := by
    show (As.reverse ++ Sum.inr (t, kb) :: st).map (gv E) = _
    rw [List.map_append, List.map_reverse]
    rfl
  have hcat : 2 * (F0 m pc ls ((As.reverse ++ Sum.inr (t, kb) :: st).map (gv E))).monitorRoom + ((st.map (gv E)).map fun v => v.category).sum ≤ 8 := lv_room (by rw [gst_cat]; exact hlen)
  have hroom : (grm h').frames + 1 ≤ (grm h'').frames ∧ 8 + (nL' + 11) + (grm h').locals ≤ (grm h'').locals := by
    show h' + 1 ≤ h'' ∧ 8 + (nL' + 11) + 36 * h' ≤ 36 * h''
    omega
  rcases l5 with l5 | ⟨host, l5⟩
  · exact va_callG (va_runV ⟨hx, hb, hml, hown, hts⟩ hM ⟨callB_of n hts (gU_goodT hcode) rfl rfl rfl (hts _ l4) (hts _ l5) l1 hroom, hts _ l2, hts _ l3⟩ ⟨hbl, hrc, hpre⟩ rfl (by simpa using hn) hl.1 hstk hcat hd ⟨Nat.zero_le _, Nat.zero_le _⟩) hS (fun H1 locs1 a b => hgo H1 locs1 ls a b hl)
  · exact va_callG (va_runVN ⟨hx, hb, hml, hown, hts⟩ hM ⟨va_cnB n hts (gU_goodT hcode) rfl rfl rfl (hN _ l5) (hts _ l4) l1 hroom, hts _ l2, hts _ l3⟩ ⟨hbl, hrc, hpre⟩ rfl (by simpa using hn) hl.1 hstk hcat hd ⟨Nat.zero_le _, Nat.zero_le _⟩) hS (fun H1 locs1 a b => hgo H1 locs1 ls a b hl)
theorem r_ins {X : gX} {own : String} {cc : ByteArray} {h nL : Nat} {ret : Option FieldType} (C : gC X own cc h nL ret) {ρ : Type} {enc : ρ → Option Value} {pc : Nat} {lv : List (Option gV)} {st : List gV} {σ : gM} {ρ' : Type} {enc' : ρ' → Option Value} {y : MethodName} {cc' : ByteArray} {nL' h' idx n : Nat} {ret' : Option FieldType} {As st0 : List gV} {o' : Option (ρ' × gM)} {kk : ρ' → gM → Option (ρ × gM)} {psh : ρ' → List gV} (L : gIS own idx y n) (hcode : Cond.code y cc' nL' ret' ∈ gU) (hcon : gCon enc' y cc' nL' ret' h' As σ o') (hh : h' + 1 ≤ h) (hnl : nL' ≤ 17) (hn : As.length = n) (hst0 : st0 = As.reverse ++ st) (hlen : st.length ≤ 8) (hpsh : ∀ (E : gE) r, (enc' r).toList = (psh r).map (gv E)) (hpok : ∀ (E : gE) r, ∀ v ∈ psh r, gok E v) (hd : decode cc pc = .ok (.invokestatic idx, 3)) (k1 : ∀ r σ1, gw X enc (pc + 3) lv (psh r ++ st) σ1 (kk r σ1)) : gw X enc pc lv st0 σ (gCall o' kk) := by
  subst hst0
  cases ho' : o' with
  | none => exact gw_none
  | some q =>
  subst ho'
  obtain ⟨p, l, e, h'', s, m, args, below, meth, c, E, nL''⟩ := X
  obtain ⟨rfl, rfl, hx, hb, hml, hown, hts, hN, hK, hE, hlk, hrt⟩ := C
  intro hst hlv r ho H locs ls hP hS hl
  obtain ⟨l1, l2, l4, l5⟩ := L
  have hAs : ∀ v ∈ As, gok E v := fun v hv => hst v (List.mem_append_left _ (List.mem_reverse.mpr hv))
  have hob := (fun v hv => hst v (List.mem_append_right _ hv) : ∀ v ∈ st, gok E v)
  have hM := hcon l E hE hAs q rfl
  have hpre : ∀ U : State, U.heap = H → s.WarmedH U.vm → (As.map (gv E)).toArray = (As.map (gv E)).toArray ∧ va_P E.1 vwCl (gW E σ) U.heap ∧ va_K E.1 vwCl (gtys E) U ∧ gNW U := fun U hU hW => ⟨rfl, by rw [hU]; exact hP, va_K.moved hW.alike hK, gNW_warm hW hN⟩
  have hbl : FrameBlind (fun (v : Array Value) (U : State) => v = (As.map (gv E)).toArray ∧ va_P E.1 vwCl (gW E σ) U.heap ∧ va_K E.1 vwCl (gtys E) U ∧ gNW U) := fun a U g mk z => ⟨z.1, z.2.1, va_K.moved (u := U) (U := U.calling g mk a) (Vm.Alike.refl U.vm) z.2.2.1, gNW_same (s := U) (U := U.calling g mk a) rfl z.2.2.2⟩
  have hgo := k1 q.1 q.2 (fun v hv => by
    rcases List.mem_append.mp hv with h | h
    · exact hpok E q.1 v h
    · exact hob v h) hlv r ho
  rw [List.map_append, ← hpsh E q.1] at hgo
  have hstk : (F0 m pc ls ((As.reverse ++ st).map (gv E))).stack = (As.map (gv E)).reverse ++ st.map (gv E) := by
    show (As.reverse ++ st).map (gv E) = _
    rw [List.map_append, List.map_reverse]
  have hcat : 2 * (F0 m pc ls ((As.reverse ++ st).map (gv E))).monitorRoom + ((st.map (gv E)).map fun v => v.category).sum ≤ 8 := lv_room (by rw [gst_cat]; exact hlen)
  have hroom : (grm h').frames + 1 ≤ (grm h'').frames ∧ 8 + (nL' + 11) + (grm h').locals ≤ (grm h'').locals := by
    show h' + 1 ≤ h'' ∧ 8 + (nL' + 11) + 36 * h' ≤ 36 * h''
    omega
  rcases l5 with l5 | ⟨host, l5⟩
  · exact va_callG (va_runS ⟨hx, hb, hml, hown, hts⟩ hM ⟨callB_of n hts (gU_goodT hcode) rfl rfl rfl (hts _ l4) (hts _ l5) l1 hroom, hts _ l2⟩ ⟨hbl, hpre⟩ rfl (by simpa using hn) hl.1 hstk hcat hd ⟨Nat.zero_le _, Nat.zero_le _⟩) hS (fun H1 locs1 a b => hgo H1 locs1 ls a b hl)
  · exact va_callG (va_runSN ⟨hx, hb, hml, hown, hts⟩ hM ⟨va_cnB n hts (gU_goodT hcode) rfl rfl rfl (hN _ l5) (hts _ l4) l1 hroom, hts _ l2, trivial⟩ ⟨hbl, hpre⟩ rfl (by simpa using hn) hl.1 hstk hcat hd ⟨Nat.zero_le _, Nat.zero_le _⟩) hS (fun H1 locs1 a b => hgo H1 locs1 ls a b hl)
def pI : Int32 → List gV := fun x => [.inl x]
def pB : Bool → List gV := fun b => [.inl (bI b)]
def pU : Unit → List gV := fun _ => []
theorem pI_ok (E : gE) (r : Int32) : (eI r).toList = (pI r).map (gv E) := rfl
theorem pB_ok (E : gE) (r : Bool) : (eB r).toList = (pB r).map (gv E) := rfl
theorem pU_ok (E : gE) (r : Unit) : (eU r).toList = (pU r).map (gv E) := rfl
theorem pI_in (E : gE) (r : Int32) : ∀ v ∈ pI r, gok E v := fun v hv => by rw [List.mem_singleton.mp hv]; trivial
theorem pB_in (E : gE) (r : Bool) : ∀ v ∈ pB r, gok E v := fun v hv => by rw [List.mem_singleton.mp hv]; trivial
theorem pU_in (E : gE) (r : Unit) : ∀ v ∈ pU r, gok E v := fun v hv => by cases hv
def FU : Nat := 100000
theorem r_invI {X : gX} {own : String} {cc : ByteArray} {h nL : Nat} {ret : Option FieldType} (C : gC X own cc h nL ret) {ρ : Type} {enc : ρ → Option Value} {pc : Nat} {lv : List (Option gV)} {st : List gV} {σ : gM} {y : MethodName} {cc' : ByteArray} {nL' h' idx n : Nat} {ret' : Option FieldType} {t kb : Nat} {As st0 : List gV} {o' : Option (Int32 × gM)} {kk : Int32 → gM → Option (ρ × gM)} (L : gIV own idx y n) (hcode : Cond.code y cc' nL' ret' ∈ gU) (ht : t < 10) (hcls : gRn t = y.cls) (hcon : gCon eI y cc' nL' ret' h' (.inr (t, kb) :: As) σ o') (hh : h' + 1 ≤ h) (hnl : nL' ≤ 17) (hn : As.length = n) (hst0 : st0 = As.reverse ++ .inr (t, kb) :: st) (hlen : st.length ≤ 8) (hd : decode cc pc = .ok (.invokevirtual idx, 3)) (k1 : ∀ (r : Int32) (σ1 : gM), gw X enc (pc + 3) lv (.inl r :: st) σ1 (kk r σ1)) : gw X enc pc lv st0 σ (gCall o' kk) :=
  r_inv C L hcode ht hcls hcon hh hnl hn hst0 hlen pI_ok pI_in hd k1
theorem r_invB {X : gX} {own : String} {cc : ByteArray} {h nL : Nat} {ret : Option FieldType} (C : gC X own cc h nL ret) {ρ : Type} {enc : ρ → Option Value} {pc : Nat} {lv : List (Option gV)} {st : List gV} {σ : gM} {y : MethodName} {cc' : ByteArray} {nL' h' idx n : Nat} {ret' : Option FieldType} {t kb : Nat} {As st0 : List gV} {o' : Option (Bool × gM)} {kk : Bool → gM → Option (ρ × gM)} (L : gIV own idx y n) (hcode : Cond.code y cc' nL' ret' ∈ gU) (ht : t < 10) (hcls : gRn t = y.cls) (hcon : gCon eB y cc' nL' ret' h' (.inr (t, kb) :: As) σ o') (hh : h' + 1 ≤ h) (hnl : nL' ≤ 17) (hn : As.length = n) (hst0 : st0 = As.reverse ++ .inr (t, kb) :: st) (hlen : st.length ≤ 8) (hd : decode cc pc = .ok (.invokevirtual idx, 3)) (k1 : ∀ (r : Bool) (σ1 : gM), gw X enc (pc + 3) lv (.inl (bI r) :: st) σ1 (kk r σ1)) : gw X enc pc lv st0 σ (gCall o' kk) :=
  r_inv C L hcode ht hcls hcon hh hnl hn hst0 hlen pB_ok pB_in hd k1
theorem r_invU {X : gX} {own : String} {cc : ByteArray} {h nL : Nat} {ret : Option FieldType} (C : gC X own cc h nL ret) {ρ : Type} {enc : ρ → Option Value} {pc : Nat} {lv : List (Option gV)} {st : List gV} {σ : gM} {y : MethodName} {cc' : ByteArray} {nL' h' idx n : Nat} {ret' : Option FieldType} {t kb : Nat} {As st0 : List gV} {o' : Option (Unit × gM)} {kk : Unit → gM → Option (ρ × gM)} (L : gIV own idx y n) (hcode : Cond.code y cc' nL' ret' ∈ gU) (ht : t < 10) (hcls : gRn t = y.cls) (hcon : gCon eU y cc' nL' ret' h' (.inr (t, kb) :: As) σ o') (hh : h' + 1 ≤ h) (hnl : nL' ≤ 17) (hn : As.length = n) (hst0 : st0 = As.reverse ++ .inr (t, kb) :: st) (hlen : st.length ≤ 8) (hd : decode cc pc = .ok (.invokevirtual idx, 3)) (k1 : ∀ (r : Unit) (σ1 : gM), gw X enc (pc + 3) lv st σ1 (kk r σ1)) : gw X enc pc lv st0 σ (gCall o' kk) :=
  r_inv C L hcode ht hcls hcon hh hnl hn hst0 hlen pU_ok pU_in hd k1
theorem r_insI {X : gX} {own : String} {cc : ByteArray} {h nL : Nat} {ret : Option FieldType} (C : gC X own cc h nL ret) {ρ : Type} {enc : ρ → Option Value} {pc : Nat} {lv : List (Option gV)} {st : List gV} {σ : gM} {y : MethodName} {cc' : ByteArray} {nL' h' idx n : Nat} {ret' : Option FieldType} {As st0 : List gV} {o' : Option (Int32 × gM)} {kk : Int32 → gM → Option (ρ × gM)} (L : gIS own idx y n) (hcode : Cond.code y cc' nL' ret' ∈ gU) (hcon : gCon eI y cc' nL' ret' h' As σ o') (hh : h' + 1 ≤ h) (hnl : nL' ≤ 17) (hn : As.length = n) (hst0 : st0 = As.reverse ++ st) (hlen : st.length ≤ 8) (hd : decode cc pc = .ok (.invokestatic idx, 3)) (k1 : ∀ (r : Int32) (σ1 : gM), gw X enc (pc + 3) lv (.inl r :: st) σ1 (kk r σ1)) : gw X enc pc lv st0 σ (gCall o' kk) :=
  r_ins C L hcode hcon hh hnl hn hst0 hlen pI_ok pI_in hd k1
theorem r_insB {X : gX} {own : String} {cc : ByteArray} {h nL : Nat} {ret : Option FieldType} (C : gC X own cc h nL ret) {ρ : Type} {enc : ρ → Option Value} {pc : Nat} {lv : List (Option gV)} {st : List gV} {σ : gM} {y : MethodName} {cc' : ByteArray} {nL' h' idx n : Nat} {ret' : Option FieldType} {As st0 : List gV} {o' : Option (Bool × gM)} {kk : Bool → gM → Option (ρ × gM)} (L : gIS own idx y n) (hcode : Cond.code y cc' nL' ret' ∈ gU) (hcon : gCon eB y cc' nL' ret' h' As σ o') (hh : h' + 1 ≤ h) (hnl : nL' ≤ 17) (hn : As.length = n) (hst0 : st0 = As.reverse ++ st) (hlen : st.length ≤ 8) (hd : decode cc pc = .ok (.invokestatic idx, 3)) (k1 : ∀ (r : Bool) (σ1 : gM), gw X enc (pc + 3) lv (.inl (bI r) :: st) σ1 (kk r σ1)) : gw X enc pc lv st0 σ (gCall o' kk) :=
  r_ins C L hcode hcon hh hnl hn hst0 hlen pB_ok pB_in hd k1
theorem r_insU {X : gX} {own : String} {cc : ByteArray} {h nL : Nat} {ret : Option FieldType} (C : gC X own cc h nL ret) {ρ : Type} {enc : ρ → Option Value} {pc : Nat} {lv : List (Option gV)} {st : List gV} {σ : gM} {y : MethodName} {cc' : ByteArray} {nL' h' idx n : Nat} {ret' : Option FieldType} {As st0 : List gV} {o' : Option (Unit × gM)} {kk : Unit → gM → Option (ρ × gM)} (L : gIS own idx y n) (hcode : Cond.code y cc' nL' ret' ∈ gU) (hcon : gCon eU y cc' nL' ret' h' As σ o') (hh : h' + 1 ≤ h) (hnl : nL' ≤ 17) (hn : As.length = n) (hst0 : st0 = As.reverse ++ st) (hlen : st.length ≤ 8) (hd : decode cc pc = .ok (.invokestatic idx, 3)) (k1 : ∀ (r : Unit) (σ1 : gM), gw X enc (pc + 3) lv st σ1 (kk r σ1)) : gw X enc pc lv st0 σ (gCall o' kk) :=
  r_ins C L hcode hcon hh hnl hn hst0 hlen pU_ok pU_in hd k1

def gJ0 {β : Type} (j : gM → β) (kk : (gM → β) → β) : β := kk j
theorem r_j0 {X : gX} {ρ : Type} {enc : ρ → Option Value} {pc : Nat} {lv : List (Option gV)} {st : List gV} {σ : gM} (pj : Nat) (lv0 : List (Option gV)) (st0 : List gV) {j0 : gM → Option (ρ × gM)} {kk : (gM → Option (ρ × gM)) → Option (ρ × gM)} (hj : ∀ (σ1 : gM), gw X enc pj lv0 st0 σ1 (j0 σ1)) (hk : ∀ j : gM → Option (ρ × gM), (∀ (σ1 : gM), gw X enc pj lv0 st0 σ1 (j σ1)) → gw X enc pc lv st σ (kk j)) : gw X enc pc lv st σ (gJ0 j0 kk) := hk j0 hj
def gL0 {β : Type} : Nat → (gM → (gM → Option β) → Option β) → gM → Option β
  | 0, _, _ => none
  | n + 1, f, σ => f σ (gL0 n f)
theorem r_l0 {X : gX} {ρ : Type} {enc : ρ → Option Value} {pj : Nat} (lv0 : List (Option gV)) {f : gM → (gM → Option (ρ × gM)) → Option (ρ × gM)} (hf : ∀ (σ : gM) (K : gM → Option (ρ × gM)), (∀ (σ1 : gM), gw X enc pj lv0 [] σ1 (K σ1)) → gw X enc pj lv0 [] σ (f σ K)) : ∀ (n : Nat) (σ : gM), gw X enc pj lv0 [] σ (gL0 n f σ) := by
  intro n
  induction n with
  | zero => intro σ; exact gw_none
  | succ n ih => intro σ; exact hf σ _ ih
def gJ1 {β : Type} (j : Int32 → gM → β) (kk : (Int32 → gM → β) → β) : β := kk j
theorem r_j1 {X : gX} {ρ : Type} {enc : ρ → Option Value} {pc : Nat} {lv : List (Option gV)} {st : List gV} {σ : gM} (pj : Nat) (lv0 : Int32 → List (Option gV)) (st0 : Int32 → List gV) {j0 : Int32 → gM → Option (ρ × gM)} {kk : (Int32 → gM → Option (ρ × gM)) → Option (ρ × gM)} (hj : ∀ (a1 : Int32) (σ1 : gM), gw X enc pj (lv0 a1) (st0 a1) σ1 (j0 a1 σ1)) (hk : ∀ j : Int32 → gM → Option (ρ × gM), (∀ (a1 : Int32) (σ1 : gM), gw X enc pj (lv0 a1) (st0 a1) σ1 (j a1 σ1)) → gw X enc pc lv st σ (kk j)) : gw X enc pc lv st σ (gJ1 j0 kk) := hk j0 hj
def gL1 {β : Type} : Nat → (Int32 → gM → (Int32 → gM → Option β) → Option β) → Int32 → gM → Option β
  | 0, _, _, _ => none
  | n + 1, f, a1, σ => f a1 σ (gL1 n f)
theorem r_l1 {X : gX} {ρ : Type} {enc : ρ → Option Value} {pj : Nat} (lv0 : Int32 → List (Option gV)) {f : Int32 → gM → (Int32 → gM → Option (ρ × gM)) → Option (ρ × gM)} (hf : ∀ (a1 : Int32) (σ : gM) (K : Int32 → gM → Option (ρ × gM)), (∀ (a1 : Int32) (σ1 : gM), gw X enc pj (lv0 a1) [] σ1 (K a1 σ1)) → gw X enc pj (lv0 a1) [] σ (f a1 σ K)) : ∀ (n : Nat) (a1 : Int32) (σ : gM), gw X enc pj (lv0 a1) [] σ (gL1 n f a1 σ) := by
  intro n
  induction n with
  | zero => intro a1 σ; exact gw_none
  | succ n ih => intro a1 σ; exact hf a1 σ _ ih
def gJ2 {β : Type} (j : Int32 → Int32 → gM → β) (kk : (Int32 → Int32 → gM → β) → β) : β := kk j
theorem r_j2 {X : gX} {ρ : Type} {enc : ρ → Option Value} {pc : Nat} {lv : List (Option gV)} {st : List gV} {σ : gM} (pj : Nat) (lv0 : Int32 → Int32 → List (Option gV)) (st0 : Int32 → Int32 → List gV) {j0 : Int32 → Int32 → gM → Option (ρ × gM)} {kk : (Int32 → Int32 → gM → Option (ρ × gM)) → Option (ρ × gM)} (hj : ∀ (a1 a2 : Int32) (σ1 : gM), gw X enc pj (lv0 a1 a2) (st0 a1 a2) σ1 (j0 a1 a2 σ1)) (hk : ∀ j : Int32 → Int32 → gM → Option (ρ × gM), (∀ (a1 a2 : Int32) (σ1 : gM), gw X enc pj (lv0 a1 a2) (st0 a1 a2) σ1 (j a1 a2 σ1)) → gw X enc pc lv st σ (kk j)) : gw X enc pc lv st σ (gJ2 j0 kk) := hk j0 hj
def gL2 {β : Type} : Nat → (Int32 → Int32 → gM → (Int32 → Int32 → gM → Option β) → Option β) → Int32 → Int32 → gM → Option β
  | 0, _, _, _, _ => none
  | n + 1, f, a1, a2, σ => f a1 a2 σ (gL2 n f)
theorem r_l2 {X : gX} {ρ : Type} {enc : ρ → Option Value} {pj : Nat} (lv0 : Int32 → Int32 → List (Option gV)) {f : Int32 → Int32 → gM → (Int32 → Int32 → gM → Option (ρ × gM)) → Option (ρ × gM)} (hf : ∀ (a1 a2 : Int32) (σ : gM) (K : Int32 → Int32 → gM → Option (ρ × gM)), (∀ (a1 a2 : Int32) (σ1 : gM), gw X enc pj (lv0 a1 a2) [] σ1 (K a1 a2 σ1)) → gw X enc pj (lv0 a1 a2) [] σ (f a1 a2 σ K)) : ∀ (n : Nat) (a1 a2 : Int32) (σ : gM), gw X enc pj (lv0 a1 a2) [] σ (gL2 n f a1 a2 σ) := by
  intro n
  induction n with
  | zero => intro a1 a2 σ; exact gw_none
  | succ n ih => intro a1 a2 σ; exact hf a1 a2 σ _ ih
def gJ3 {β : Type} (j : Int32 → Int32 → Int32 → gM → β) (kk : (Int32 → Int32 → Int32 → gM → β) → β) : β := kk j
theorem r_j3 {X : gX} {ρ : Type} {enc : ρ → Option Value} {pc : Nat} {lv : List (Option gV)} {st : List gV} {σ : gM} (pj : Nat) (lv0 : Int32 → Int32 → Int32 → List (Option gV)) (st0 : Int32 → Int32 → Int32 → List gV) {j0 : Int32 → Int32 → Int32 → gM → Option (ρ × gM)} {kk : (Int32 → Int32 → Int32 → gM → Option (ρ × gM)) → Option (ρ × gM)} (hj : ∀ (a1 a2 a3 : Int32) (σ1 : gM), gw X enc pj (lv0 a1 a2 a3) (st0 a1 a2 a3) σ1 (j0 a1 a2 a3 σ1)) (hk : ∀ j : Int32 → Int32 → Int32 → gM → Option (ρ × gM), (∀ (a1 a2 a3 : Int32) (σ1 : gM), gw X enc pj (lv0 a1 a2 a3) (st0 a1 a2 a3) σ1 (j a1 a2 a3 σ1)) → gw X enc pc lv st σ (kk j)) : gw X enc pc lv st σ (gJ3 j0 kk) := hk j0 hj
def gL3 {β : Type} : Nat → (Int32 → Int32 → Int32 → gM → (Int32 → Int32 → Int32 → gM → Option β) → Option β) → Int32 → Int32 → Int32 → gM → Option β
  | 0, _, _, _, _, _ => none
  | n + 1, f, a1, a2, a3, σ => f a1 a2 a3 σ (gL3 n f)
theorem r_l3 {X : gX} {ρ : Type} {enc : ρ → Option Value} {pj : Nat} (lv0 : Int32 → Int32 → Int32 → List (Option gV)) {f : Int32 → Int32 → Int32 → gM → (Int32 → Int32 → Int32 → gM → Option (ρ × gM)) → Option (ρ × gM)} (hf : ∀ (a1 a2 a3 : Int32) (σ : gM) (K : Int32 → Int32 → Int32 → gM → Option (ρ × gM)), (∀ (a1 a2 a3 : Int32) (σ1 : gM), gw X enc pj (lv0 a1 a2 a3) [] σ1 (K a1 a2 a3 σ1)) → gw X enc pj (lv0 a1 a2 a3) [] σ (f a1 a2 a3 σ K)) : ∀ (n : Nat) (a1 a2 a3 : Int32) (σ : gM), gw X enc pj (lv0 a1 a2 a3) [] σ (gL3 n f a1 a2 a3 σ) := by
  intro n
  induction n with
  | zero => intro a1 a2 a3 σ; exact gw_none
  | succ n ih => intro a1 a2 a3 σ; exact hf a1 a2 a3 σ _ ih
def gJ4 {β : Type} (j : Int32 → Int32 → Int32 → Int32 → gM → β) (kk : (Int32 → Int32 → Int32 → Int32 → gM → β) → β) : β := kk j
theorem r_j4 {X : gX} {ρ : Type} {enc : ρ → Option Value} {pc : Nat} {lv : List (Option gV)} {st : List gV} {σ : gM} (pj : Nat) (lv0 : Int32 → Int32 → Int32 → Int32 → List (Option gV)) (st0 : Int32 → Int32 → Int32 → Int32 → List gV) {j0 : Int32 → Int32 → Int32 → Int32 → gM → Option (ρ × gM)} {kk : (Int32 → Int32 → Int32 → Int32 → gM → Option (ρ × gM)) → Option (ρ × gM)} (hj : ∀ (a1 a2 a3 a4 : Int32) (σ1 : gM), gw X enc pj (lv0 a1 a2 a3 a4) (st0 a1 a2 a3 a4) σ1 (j0 a1 a2 a3 a4 σ1)) (hk : ∀ j : Int32 → Int32 → Int32 → Int32 → gM → Option (ρ × gM), (∀ (a1 a2 a3 a4 : Int32) (σ1 : gM), gw X enc pj (lv0 a1 a2 a3 a4) (st0 a1 a2 a3 a4) σ1 (j a1 a2 a3 a4 σ1)) → gw X enc pc lv st σ (kk j)) : gw X enc pc lv st σ (gJ4 j0 kk) := hk j0 hj
def gL4 {β : Type} : Nat → (Int32 → Int32 → Int32 → Int32 → gM → (Int32 → Int32 → Int32 → Int32 → gM → Option β) → Option β) → Int32 → Int32 → Int32 → Int32 → gM → Option β
  | 0, _, _, _, _, _, _ => none
  | n + 1, f, a1, a2, a3, a4, σ => f a1 a2 a3 a4 σ (gL4 n f)
theorem r_l4 {X : gX} {ρ : Type} {enc : ρ → Option Value} {pj : Nat} (lv0 : Int32 → Int32 → Int32 → Int32 → List (Option gV)) {f : Int32 → Int32 → Int32 → Int32 → gM → (Int32 → Int32 → Int32 → Int32 → gM → Option (ρ × gM)) → Option (ρ × gM)} (hf : ∀ (a1 a2 a3 a4 : Int32) (σ : gM) (K : Int32 → Int32 → Int32 → Int32 → gM → Option (ρ × gM)), (∀ (a1 a2 a3 a4 : Int32) (σ1 : gM), gw X enc pj (lv0 a1 a2 a3 a4) [] σ1 (K a1 a2 a3 a4 σ1)) → gw X enc pj (lv0 a1 a2 a3 a4) [] σ (f a1 a2 a3 a4 σ K)) : ∀ (n : Nat) (a1 a2 a3 a4 : Int32) (σ : gM), gw X enc pj (lv0 a1 a2 a3 a4) [] σ (gL4 n f a1 a2 a3 a4 σ) := by
  intro n
  induction n with
  | zero => intro a1 a2 a3 a4 σ; exact gw_none
  | succ n ih => intro a1 a2 a3 a4 σ; exact hf a1 a2 a3 a4 σ _ ih
def gJ5 {β : Type} (j : Int32 → Int32 → Int32 → Int32 → Int32 → gM → β) (kk : (Int32 → Int32 → Int32 → Int32 → Int32 → gM → β) → β) : β := kk j
theorem r_j5 {X : gX} {ρ : Type} {enc : ρ → Option Value} {pc : Nat} {lv : List (Option gV)} {st : List gV} {σ : gM} (pj : Nat) (lv0 : Int32 → Int32 → Int32 → Int32 → Int32 → List (Option gV)) (st0 : Int32 → Int32 → Int32 → Int32 → Int32 → List gV) {j0 : Int32 → Int32 → Int32 → Int32 → Int32 → gM → Option (ρ × gM)} {kk : (Int32 → Int32 → Int32 → Int32 → Int32 → gM → Option (ρ × gM)) → Option (ρ × gM)} (hj : ∀ (a1 a2 a3 a4 a5 : Int32) (σ1 : gM), gw X enc pj (lv0 a1 a2 a3 a4 a5) (st0 a1 a2 a3 a4 a5) σ1 (j0 a1 a2 a3 a4 a5 σ1)) (hk : ∀ j : Int32 → Int32 → Int32 → Int32 → Int32 → gM → Option (ρ × gM), (∀ (a1 a2 a3 a4 a5 : Int32) (σ1 : gM), gw X enc pj (lv0 a1 a2 a3 a4 a5) (st0 a1 a2 a3 a4 a5) σ1 (j a1 a2 a3 a4 a5 σ1)) → gw X enc pc lv st σ (kk j)) : gw X enc pc lv st σ (gJ5 j0 kk) := hk j0 hj
def gL5 {β : Type} : Nat → (Int32 → Int32 → Int32 → Int32 → Int32 → gM → (Int32 → Int32 → Int32 → Int32 → Int32 → gM → Option β) → Option β) → Int32 → Int32 → Int32 → Int32 → Int32 → gM → Option β
  | 0, _, _, _, _, _, _, _ => none
  | n + 1, f, a1, a2, a3, a4, a5, σ => f a1 a2 a3 a4 a5 σ (gL5 n f)
theorem r_l5 {X : gX} {ρ : Type} {enc : ρ → Option Value} {pj : Nat} (lv0 : Int32 → Int32 → Int32 → Int32 → Int32 → List (Option gV)) {f : Int32 → Int32 → Int32 → Int32 → Int32 → gM → (Int32 → Int32 → Int32 → Int32 → Int32 → gM → Option (ρ × gM)) → Option (ρ × gM)} (hf : ∀ (a1 a2 a3 a4 a5 : Int32) (σ : gM) (K : Int32 → Int32 → Int32 → Int32 → Int32 → gM → Option (ρ × gM)), (∀ (a1 a2 a3 a4 a5 : Int32) (σ1 : gM), gw X enc pj (lv0 a1 a2 a3 a4 a5) [] σ1 (K a1 a2 a3 a4 a5 σ1)) → gw X enc pj (lv0 a1 a2 a3 a4 a5) [] σ (f a1 a2 a3 a4 a5 σ K)) : ∀ (n : Nat) (a1 a2 a3 a4 a5 : Int32) (σ : gM), gw X enc pj (lv0 a1 a2 a3 a4 a5) [] σ (gL5 n f a1 a2 a3 a4 a5 σ) := by
  intro n
  induction n with
  | zero => intro a1 a2 a3 a4 a5 σ; exact gw_none
  | succ n ih => intro a1 a2 a3 a4 a5 σ; exact hf a1 a2 a3 a4 a5 σ _ ih
def gJ6 {β : Type} (j : Int32 → Int32 → Int32 → Int32 → Int32 → Int32 → gM → β) (kk : (Int32 → Int32 → Int32 → Int32 → Int32 → Int32 → gM → β) → β) : β := kk j
theorem r_j6 {X : gX} {ρ : Type} {enc : ρ → Option Value} {pc : Nat} {lv : List (Option gV)} {st : List gV} {σ : gM} (pj : Nat) (lv0 : Int32 → Int32 → Int32 → Int32 → Int32 → Int32 → List (Option gV)) (st0 : Int32 → Int32 → Int32 → Int32 → Int32 → Int32 → List gV) {j0 : Int32 → Int32 → Int32 → Int32 → Int32 → Int32 → gM → Option (ρ × gM)} {kk : (Int32 → Int32 → Int32 → Int32 → Int32 → Int32 → gM → Option (ρ × gM)) → Option (ρ × gM)} (hj : ∀ (a1 a2 a3 a4 a5 a6 : Int32) (σ1 : gM), gw X enc pj (lv0 a1 a2 a3 a4 a5 a6) (st0 a1 a2 a3 a4 a5 a6) σ1 (j0 a1 a2 a3 a4 a5 a6 σ1)) (hk : ∀ j : Int32 → Int32 → Int32 → Int32 → Int32 → Int32 → gM → Option (ρ × gM), (∀ (a1 a2 a3 a4 a5 a6 : Int32) (σ1 : gM), gw X enc pj (lv0 a1 a2 a3 a4 a5 a6) (st0 a1 a2 a3 a4 a5 a6) σ1 (j a1 a2 a3 a4 a5 a6 σ1)) → gw X enc pc lv st σ (kk j)) : gw X enc pc lv st σ (gJ6 j0 kk) := hk j0 hj
def gL6 {β : Type} : Nat → (Int32 → Int32 → Int32 → Int32 → Int32 → Int32 → gM → (Int32 → Int32 → Int32 → Int32 → Int32 → Int32 → gM → Option β) → Option β) → Int32 → Int32 → Int32 → Int32 → Int32 → Int32 → gM → Option β
  | 0, _, _, _, _, _, _, _, _ => none
  | n + 1, f, a1, a2, a3, a4, a5, a6, σ => f a1 a2 a3 a4 a5 a6 σ (gL6 n f)
theorem r_l6 {X : gX} {ρ : Type} {enc : ρ → Option Value} {pj : Nat} (lv0 : Int32 → Int32 → Int32 → Int32 → Int32 → Int32 → List (Option gV)) {f : Int32 → Int32 → Int32 → Int32 → Int32 → Int32 → gM → (Int32 → Int32 → Int32 → Int32 → Int32 → Int32 → gM → Option (ρ × gM)) → Option (ρ × gM)} (hf : ∀ (a1 a2 a3 a4 a5 a6 : Int32) (σ : gM) (K : Int32 → Int32 → Int32 → Int32 → Int32 → Int32 → gM → Option (ρ × gM)), (∀ (a1 a2 a3 a4 a5 a6 : Int32) (σ1 : gM), gw X enc pj (lv0 a1 a2 a3 a4 a5 a6) [] σ1 (K a1 a2 a3 a4 a5 a6 σ1)) → gw X enc pj (lv0 a1 a2 a3 a4 a5 a6) [] σ (f a1 a2 a3 a4 a5 a6 σ K)) : ∀ (n : Nat) (a1 a2 a3 a4 a5 a6 : Int32) (σ : gM), gw X enc pj (lv0 a1 a2 a3 a4 a5 a6) [] σ (gL6 n f a1 a2 a3 a4 a5 a6 σ) := by
  intro n
  induction n with
  | zero => intro a1 a2 a3 a4 a5 a6 σ; exact gw_none
  | succ n ih => intro a1 a2 a3 a4 a5 a6 σ; exact hf a1 a2 a3 a4 a5 a6 σ _ ih
end
section
/-! links: fields, codes, calls, constants; each by its place in the tables -/
theorem fl_X3_39 : gFW RX3 39 3 0 := ⟨by decide, by decide, rfl, Or.inl (gU_mem (List.mem_of_getElem? (i := 197) (by decide +kernel)) rfl)⟩
theorem fl_X7_18 : gFW RX7 18 3 0 := ⟨by decide, by decide, rfl, Or.inr ⟨"SkewedWays", gNL_mem (List.mem_of_getElem? (i := 38) (by decide +kernel)) rfl⟩⟩
theorem fl_X2_37 : gFW RX2 37 3 0 := ⟨by decide, by decide, rfl, Or.inr ⟨"SkewedWays", gNL_mem (List.mem_of_getElem? (i := 39) (by decide +kernel)) rfl⟩⟩
theorem fl_X1_48 : gFW RX1 48 3 0 := ⟨by decide, by decide, rfl, Or.inr ⟨"SkewedWays", gNL_mem (List.mem_of_getElem? (i := 40) (by decide +kernel)) rfl⟩⟩
theorem fl_X8_174 : gFW RX8 174 3 0 := ⟨by decide, by decide, rfl, Or.inr ⟨"SkewedWays", gNL_mem (List.mem_of_getElem? (i := 41) (by decide +kernel)) rfl⟩⟩
theorem fl_X3_43 : gFW RX3 43 3 1 := ⟨by decide, by decide, rfl, Or.inl (gU_mem (List.mem_of_getElem? (i := 202) (by decide +kernel)) rfl)⟩
theorem fl_X7_32 : gFW RX7 32 3 1 := ⟨by decide, by decide, rfl, Or.inr ⟨"SkewedWays", gNL_mem (List.mem_of_getElem? (i := 43) (by decide +kernel)) rfl⟩⟩
theorem fl_X8_177 : gFW RX8 177 3 1 := ⟨by decide, by decide, rfl, Or.inr ⟨"SkewedWays", gNL_mem (List.mem_of_getElem? (i := 44) (by decide +kernel)) rfl⟩⟩
theorem fl_X3_59 : gFW RX3 59 3 2 := ⟨by decide, by decide, rfl, Or.inl (gU_mem (List.mem_of_getElem? (i := 205) (by decide +kernel)) rfl)⟩
theorem fl_X8_208 : gFW RX8 208 3 2 := ⟨by decide, by decide, rfl, Or.inr ⟨"SkewedWays", gNL_mem (List.mem_of_getElem? (i := 46) (by decide +kernel)) rfl⟩⟩
theorem fl_X3_46 : gFW RX3 46 3 3 := ⟨by decide, by decide, rfl, Or.inl (gU_mem (List.mem_of_getElem? (i := 207) (by decide +kernel)) rfl)⟩
theorem fl_X8_221 : gFW RX8 221 3 3 := ⟨by decide, by decide, rfl, Or.inr ⟨"SkewedWays", gNL_mem (List.mem_of_getElem? (i := 48) (by decide +kernel)) rfl⟩⟩
theorem fl_X3_62 : gFW RX3 62 3 4 := ⟨by decide, by decide, rfl, Or.inl (gU_mem (List.mem_of_getElem? (i := 209) (by decide +kernel)) rfl)⟩
theorem fl_X8_263 : gFW RX8 263 3 4 := ⟨by decide, by decide, rfl, Or.inr ⟨"SkewedWays", gNL_mem (List.mem_of_getElem? (i := 50) (by decide +kernel)) rfl⟩⟩
theorem fl_X3_9 : gFW RX3 9 3 5 := ⟨by decide, by decide, rfl, Or.inl (gU_mem (List.mem_of_getElem? (i := 211) (by decide +kernel)) rfl)⟩
theorem fl_X7_35 : gFW RX7 35 3 5 := ⟨by decide, by decide, rfl, Or.inr ⟨"SkewedWays", gNL_mem (List.mem_of_getElem? (i := 52) (by decide +kernel)) rfl⟩⟩
theorem fl_X8_194 : gFW RX8 194 3 5 := ⟨by decide, by decide, rfl, Or.inr ⟨"SkewedWays", gNL_mem (List.mem_of_getElem? (i := 53) (by decide +kernel)) rfl⟩⟩
theorem fl_X3_15 : gFW RX3 15 3 6 := ⟨by decide, by decide, rfl, Or.inl (gU_mem (List.mem_of_getElem? (i := 214) (by decide +kernel)) rfl)⟩
theorem fl_X8_239 : gFW RX8 239 3 6 := ⟨by decide, by decide, rfl, Or.inr ⟨"SkewedWays", gNL_mem (List.mem_of_getElem? (i := 55) (by decide +kernel)) rfl⟩⟩
theorem fl_X3_18 : gFW RX3 18 3 7 := ⟨by decide, by decide, rfl, Or.inl (gU_mem (List.mem_of_getElem? (i := 216) (by decide +kernel)) rfl)⟩
theorem fl_X8_271 : gFW RX8 271 3 7 := ⟨by decide, by decide, rfl, Or.inr ⟨"SkewedWays", gNL_mem (List.mem_of_getElem? (i := 57) (by decide +kernel)) rfl⟩⟩
theorem fl_X3_21 : gFW RX3 21 3 8 := ⟨by decide, by decide, rfl, Or.inl (gU_mem (List.mem_of_getElem? (i := 218) (by decide +kernel)) rfl)⟩
theorem fl_X8_260 : gFW RX8 260 3 8 := ⟨by decide, by decide, rfl, Or.inr ⟨"SkewedWays", gNL_mem (List.mem_of_getElem? (i := 59) (by decide +kernel)) rfl⟩⟩
theorem fl_X3_24 : gFW RX3 24 3 9 := ⟨by decide, by decide, rfl, Or.inl (gU_mem (List.mem_of_getElem? (i := 220) (by decide +kernel)) rfl)⟩
theorem fl_X1_45 : gFW RX1 45 3 9 := ⟨by decide, by decide, rfl, Or.inr ⟨"SkewedWays", gNL_mem (List.mem_of_getElem? (i := 61) (by decide +kernel)) rfl⟩⟩
theorem fl_X8_254 : gFW RX8 254 3 9 := ⟨by decide, by decide, rfl, Or.inr ⟨"SkewedWays", gNL_mem (List.mem_of_getElem? (i := 62) (by decide +kernel)) rfl⟩⟩
theorem fl_X3_27 : gFW RX3 27 3 10 := ⟨by decide, by decide, rfl, Or.inl (gU_mem (List.mem_of_getElem? (i := 223) (by decide +kernel)) rfl)⟩
theorem fl_X8_154 : gFW RX8 154 3 10 := ⟨by decide, by decide, rfl, Or.inr ⟨"SkewedWays", gNL_mem (List.mem_of_getElem? (i := 64) (by decide +kernel)) rfl⟩⟩
theorem fl_X3_30 : gFW RX3 30 3 11 := ⟨by decide, by decide, rfl, Or.inl (gU_mem (List.mem_of_getElem? (i := 225) (by decide +kernel)) rfl)⟩
theorem fl_X8_148 : gFW RX8 148 3 11 := ⟨by decide, by decide, rfl, Or.inr ⟨"SkewedWays", gNL_mem (List.mem_of_getElem? (i := 66) (by decide +kernel)) rfl⟩⟩
theorem fl_X3_33 : gFW RX3 33 3 12 := ⟨by decide, by decide, rfl, Or.inl (gU_mem (List.mem_of_getElem? (i := 227) (by decide +kernel)) rfl)⟩
theorem fl_X1_58 : gFW RX1 58 3 12 := ⟨by decide, by decide, rfl, Or.inr ⟨"SkewedWays", gNL_mem (List.mem_of_getElem? (i := 68) (by decide +kernel)) rfl⟩⟩
theorem fl_X8_257 : gFW RX8 257 3 12 := ⟨by decide, by decide, rfl, Or.inr ⟨"SkewedWays", gNL_mem (List.mem_of_getElem? (i := 69) (by decide +kernel)) rfl⟩⟩
theorem fl_X3_36 : gFW RX3 36 3 13 := ⟨by decide, by decide, rfl, Or.inl (gU_mem (List.mem_of_getElem? (i := 230) (by decide +kernel)) rfl)⟩
theorem fl_X1_55 : gFW RX1 55 3 13 := ⟨by decide, by decide, rfl, Or.inr ⟨"SkewedWays", gNL_mem (List.mem_of_getElem? (i := 71) (by decide +kernel)) rfl⟩⟩
theorem fl_X8_145 : gFW RX8 145 3 13 := ⟨by decide, by decide, rfl, Or.inr ⟨"SkewedWays", gNL_mem (List.mem_of_getElem? (i := 72) (by decide +kernel)) rfl⟩⟩
theorem fl_X5_9 : gFW RX5 9 5 0 := ⟨by decide, by decide, rfl, Or.inl (gU_mem (List.mem_of_getElem? (i := 271) (by decide +kernel)) rfl)⟩
theorem fl_X4_36 : gFW RX4 36 5 0 := ⟨by decide, by decide, rfl, Or.inr ⟨"SkewedWays", gNL_mem (List.mem_of_getElem? (i := 112) (by decide +kernel)) rfl⟩⟩
theorem fl_X6_63 : gFW RX6 63 5 0 := ⟨by decide, by decide, rfl, Or.inr ⟨"SkewedWays", gNL_mem (List.mem_of_getElem? (i := 113) (by decide +kernel)) rfl⟩⟩
theorem fl_X0_108 : gFW RX0 108 5 0 := ⟨by decide, by decide, rfl, Or.inr ⟨"SkewedWays", gNL_mem (List.mem_of_getElem? (i := 114) (by decide +kernel)) rfl⟩⟩
theorem fl_X8_372 : gFW RX8 372 5 0 := ⟨by decide, by decide, rfl, Or.inr ⟨"SkewedWays", gNL_mem (List.mem_of_getElem? (i := 115) (by decide +kernel)) rfl⟩⟩
theorem fl_X5_15 : gFW RX5 15 5 1 := ⟨by decide, by decide, rfl, Or.inl (gU_mem (List.mem_of_getElem? (i := 276) (by decide +kernel)) rfl)⟩
theorem fl_X0_111 : gFW RX0 111 5 1 := ⟨by decide, by decide, rfl, Or.inr ⟨"SkewedWays", gNL_mem (List.mem_of_getElem? (i := 117) (by decide +kernel)) rfl⟩⟩
theorem fl_X8_402 : gFW RX8 402 5 1 := ⟨by decide, by decide, rfl, Or.inr ⟨"SkewedWays", gNL_mem (List.mem_of_getElem? (i := 118) (by decide +kernel)) rfl⟩⟩
theorem fl_X5_18 : gFW RX5 18 5 2 := ⟨by decide, by decide, rfl, Or.inl (gU_mem (List.mem_of_getElem? (i := 279) (by decide +kernel)) rfl)⟩
theorem fl_X4_30 : gFW RX4 30 5 2 := ⟨by decide, by decide, rfl, Or.inr ⟨"SkewedWays", gNL_mem (List.mem_of_getElem? (i := 120) (by decide +kernel)) rfl⟩⟩
theorem fl_X0_35 : gFW RX0 35 5 2 := ⟨by decide, by decide, rfl, Or.inr ⟨"SkewedWays", gNL_mem (List.mem_of_getElem? (i := 121) (by decide +kernel)) rfl⟩⟩
theorem fl_X6_60 : gFW RX6 60 5 2 := ⟨by decide, by decide, rfl, Or.inr ⟨"SkewedWays", gNL_mem (List.mem_of_getElem? (i := 122) (by decide +kernel)) rfl⟩⟩
theorem fl_X8_369 : gFW RX8 369 5 2 := ⟨by decide, by decide, rfl, Or.inr ⟨"SkewedWays", gNL_mem (List.mem_of_getElem? (i := 123) (by decide +kernel)) rfl⟩⟩
theorem fl_X6_12 : gFW RX6 12 6 0 := ⟨by decide, by decide, rfl, Or.inl (gU_mem (List.mem_of_getElem? (i := 291) (by decide +kernel)) rfl)⟩
theorem fl_X8_82 : gFW RX8 82 6 0 := ⟨by decide, by decide, rfl, Or.inr ⟨"SkewedWays", gNL_mem (List.mem_of_getElem? (i := 132) (by decide +kernel)) rfl⟩⟩
theorem fl_X6_18 : gFW RX6 18 6 1 := ⟨by decide, by decide, rfl, Or.inl (gU_mem (List.mem_of_getElem? (i := 293) (by decide +kernel)) rfl)⟩
theorem fl_X6_24 : gFW RX6 24 6 2 := ⟨by decide, by decide, rfl, Or.inl (gU_mem (List.mem_of_getElem? (i := 294) (by decide +kernel)) rfl)⟩
theorem fl_X8_112 : gFW RX8 112 6 2 := ⟨by decide, by decide, rfl, Or.inr ⟨"SkewedWays", gNL_mem (List.mem_of_getElem? (i := 135) (by decide +kernel)) rfl⟩⟩
theorem fl_X6_28 : gFW RX6 28 6 3 := ⟨by decide, by decide, rfl, Or.inl (gU_mem (List.mem_of_getElem? (i := 296) (by decide +kernel)) rfl)⟩
theorem fl_X8_324 : gFW RX8 324 6 3 := ⟨by decide, by decide, rfl, Or.inr ⟨"SkewedWays", gNL_mem (List.mem_of_getElem? (i := 137) (by decide +kernel)) rfl⟩⟩
theorem fl_X6_37 : gFW RX6 37 6 4 := ⟨by decide, by decide, rfl, Or.inl (gU_mem (List.mem_of_getElem? (i := 298) (by decide +kernel)) rfl)⟩
theorem fl_X6_41 : gFW RX6 41 6 5 := ⟨by decide, by decide, rfl, Or.inl (gU_mem (List.mem_of_getElem? (i := 299) (by decide +kernel)) rfl)⟩
theorem fl_X8_407 : gFW RX8 407 6 5 := ⟨by decide, by decide, rfl, Or.inr ⟨"SkewedWays", gNL_mem (List.mem_of_getElem? (i := 140) (by decide +kernel)) rfl⟩⟩
theorem fl_X6_44 : gFW RX6 44 6 6 := ⟨by decide, by decide, rfl, Or.inl (gU_mem (List.mem_of_getElem? (i := 301) (by decide +kernel)) rfl)⟩
theorem fl_X8_99 : gFW RX8 99 6 6 := ⟨by decide, by decide, rfl, Or.inr ⟨"SkewedWays", gNL_mem (List.mem_of_getElem? (i := 142) (by decide +kernel)) rfl⟩⟩
theorem fl_X6_51 : gFW RX6 51 6 7 := ⟨by decide, by decide, rfl, Or.inl (gU_mem (List.mem_of_getElem? (i := 303) (by decide +kernel)) rfl)⟩
theorem fl_X8_227 : gFW RX8 227 6 7 := ⟨by decide, by decide, rfl, Or.inr ⟨"SkewedWays", gNL_mem (List.mem_of_getElem? (i := 144) (by decide +kernel)) rfl⟩⟩
theorem fl_X1_9 : gFW RX1 9 1 0 := ⟨by decide, by decide, rfl, Or.inl (gU_mem (List.mem_of_getElem? (i := 330) (by decide +kernel)) rfl)⟩
theorem fl_X3_117 : gFW RX3 117 1 0 := ⟨by decide, by decide, rfl, Or.inr ⟨"SkewedWays", gNL_mem (List.mem_of_getElem? (i := 171) (by decide +kernel)) rfl⟩⟩
theorem fl_X8_360 : gFW RX8 360 1 0 := ⟨by decide, by decide, rfl, Or.inr ⟨"SkewedWays", gNL_mem (List.mem_of_getElem? (i := 172) (by decide +kernel)) rfl⟩⟩
theorem fl_X1_15 : gFW RX1 15 1 1 := ⟨by decide, by decide, rfl, Or.inl (gU_mem (List.mem_of_getElem? (i := 333) (by decide +kernel)) rfl)⟩
theorem fl_X3_144 : gFW RX3 144 1 1 := ⟨by decide, by decide, rfl, Or.inr ⟨"SkewedWays", gNL_mem (List.mem_of_getElem? (i := 174) (by decide +kernel)) rfl⟩⟩
theorem fl_X8_366 : gFW RX8 366 1 1 := ⟨by decide, by decide, rfl, Or.inr ⟨"SkewedWays", gNL_mem (List.mem_of_getElem? (i := 175) (by decide +kernel)) rfl⟩⟩
theorem fl_X1_18 : gFW RX1 18 1 2 := ⟨by decide, by decide, rfl, Or.inl (gU_mem (List.mem_of_getElem? (i := 336) (by decide +kernel)) rfl)⟩
theorem fl_X1_31 : gFW RX1 31 1 3 := ⟨by decide, by decide, rfl, Or.inl (gU_mem (List.mem_of_getElem? (i := 337) (by decide +kernel)) rfl)⟩
theorem fl_X3_138 : gFW RX3 138 1 3 := ⟨by decide, by decide, rfl, Or.inr ⟨"SkewedWays", gNL_mem (List.mem_of_getElem? (i := 178) (by decide +kernel)) rfl⟩⟩
theorem fl_X8_357 : gFW RX8 357 1 3 := ⟨by decide, by decide, rfl, Or.inr ⟨"SkewedWays", gNL_mem (List.mem_of_getElem? (i := 179) (by decide +kernel)) rfl⟩⟩
theorem fl_X7_9 : gFW RX7 9 7 0 := ⟨by decide, by decide, rfl, Or.inl (gU_mem (List.mem_of_getElem? (i := 355) (by decide +kernel)) rfl)⟩
theorem fl_X7_15 : gFW RX7 15 7 1 := ⟨by decide, by decide, rfl, Or.inl (gU_mem (List.mem_of_getElem? (i := 356) (by decide +kernel)) rfl)⟩
theorem fl_X2_9 : gFW RX2 9 2 0 := ⟨by decide, by decide, rfl, Or.inl (gU_mem (List.mem_of_getElem? (i := 368) (by decide +kernel)) rfl)⟩
theorem fl_X2_15 : gFW RX2 15 2 1 := ⟨by decide, by decide, rfl, Or.inl (gU_mem (List.mem_of_getElem? (i := 369) (by decide +kernel)) rfl)⟩
theorem fl_X2_18 : gFW RX2 18 2 2 := ⟨by decide, by decide, rfl, Or.inl (gU_mem (List.mem_of_getElem? (i := 370) (by decide +kernel)) rfl)⟩
theorem fl_X2_21 : gFW RX2 21 2 3 := ⟨by decide, by decide, rfl, Or.inl (gU_mem (List.mem_of_getElem? (i := 371) (by decide +kernel)) rfl)⟩
theorem fl_X2_24 : gFW RX2 24 2 4 := ⟨by decide, by decide, rfl, Or.inl (gU_mem (List.mem_of_getElem? (i := 372) (by decide +kernel)) rfl)⟩
theorem fl_X2_27 : gFW RX2 27 2 5 := ⟨by decide, by decide, rfl, Or.inl (gU_mem (List.mem_of_getElem? (i := 373) (by decide +kernel)) rfl)⟩
theorem fl_X8_340 : gFW RX8 340 2 5 := ⟨by decide, by decide, rfl, Or.inr ⟨"SkewedWays", gNL_mem (List.mem_of_getElem? (i := 214) (by decide +kernel)) rfl⟩⟩
theorem fl_X4_9 : gFW RX4 9 4 0 := ⟨by decide, by decide, rfl, Or.inl (gU_mem (List.mem_of_getElem? (i := 394) (by decide +kernel)) rfl)⟩
theorem fl_X8_384 : gFW RX8 384 4 0 := ⟨by decide, by decide, rfl, Or.inr ⟨"SkewedWays", gNL_mem (List.mem_of_getElem? (i := 235) (by decide +kernel)) rfl⟩⟩
theorem fl_X4_15 : gFW RX4 15 4 1 := ⟨by decide, by decide, rfl, Or.inl (gU_mem (List.mem_of_getElem? (i := 396) (by decide +kernel)) rfl)⟩
theorem fl_X4_18 : gFW RX4 18 4 2 := ⟨by decide, by decide, rfl, Or.inl (gU_mem (List.mem_of_getElem? (i := 397) (by decide +kernel)) rfl)⟩
theorem fl_X4_21 : gFW RX4 21 4 3 := ⟨by decide, by decide, rfl, Or.inl (gU_mem (List.mem_of_getElem? (i := 398) (by decide +kernel)) rfl)⟩
theorem fl_X4_45 : gFW RX4 45 4 4 := ⟨by decide, by decide, rfl, Or.inl (gU_mem (List.mem_of_getElem? (i := 399) (by decide +kernel)) rfl)⟩
theorem fl_X0_11 : gFW RX0 11 0 0 := ⟨by decide, by decide, rfl, Or.inl (gU_mem (List.mem_of_getElem? (i := 417) (by decide +kernel)) rfl)⟩
theorem fl_X0_15 : gFW RX0 15 0 1 := ⟨by decide, by decide, rfl, Or.inl (gU_mem (List.mem_of_getElem? (i := 418) (by decide +kernel)) rfl)⟩
theorem fl_X0_19 : gFW RX0 19 0 2 := ⟨by decide, by decide, rfl, Or.inl (gU_mem (List.mem_of_getElem? (i := 419) (by decide +kernel)) rfl)⟩
theorem fl_X0_60 : gFW RX0 60 0 3 := ⟨by decide, by decide, rfl, Or.inl (gU_mem (List.mem_of_getElem? (i := 420) (by decide +kernel)) rfl)⟩
theorem fl_X0_32 : gFW RX0 32 0 4 := ⟨by decide, by decide, rfl, Or.inl (gU_mem (List.mem_of_getElem? (i := 421) (by decide +kernel)) rfl)⟩
theorem fl_X0_88 : gFW RX0 88 0 5 := ⟨by decide, by decide, rfl, Or.inl (gU_mem (List.mem_of_getElem? (i := 422) (by decide +kernel)) rfl)⟩
theorem fl_X0_95 : gFW RX0 95 0 6 := ⟨by decide, by decide, rfl, Or.inl (gU_mem (List.mem_of_getElem? (i := 423) (by decide +kernel)) rfl)⟩
theorem fl_X0_22 : gFW RX0 22 0 7 := ⟨by decide, by decide, rfl, Or.inl (gU_mem (List.mem_of_getElem? (i := 424) (by decide +kernel)) rfl)⟩
theorem fl_X0_26 : gFW RX0 26 0 8 := ⟨by decide, by decide, rfl, Or.inl (gU_mem (List.mem_of_getElem? (i := 425) (by decide +kernel)) rfl)⟩
theorem fl_X8_106 : gFW RX8 106 0 8 := ⟨by decide, by decide, rfl, Or.inr ⟨"SkewedWays", gNL_mem (List.mem_of_getElem? (i := 266) (by decide +kernel)) rfl⟩⟩
theorem fl_X0_29 : gFW RX0 29 0 9 := ⟨by decide, by decide, rfl, Or.inl (gU_mem (List.mem_of_getElem? (i := 427) (by decide +kernel)) rfl)⟩
theorem fl_X8_109 : gFW RX8 109 0 9 := ⟨by decide, by decide, rfl, Or.inr ⟨"SkewedWays", gNL_mem (List.mem_of_getElem? (i := 268) (by decide +kernel)) rfl⟩⟩
theorem fl_X8_10 : gFW RX8 10 8 0 := ⟨by decide, by decide, rfl, Or.inl (gU_mem (List.mem_of_getElem? (i := 493) (by decide +kernel)) rfl)⟩
theorem fl_X8_16 : gFW RX8 16 8 1 := ⟨by decide, by decide, rfl, Or.inl (gU_mem (List.mem_of_getElem? (i := 494) (by decide +kernel)) rfl)⟩
theorem fl_X8_22 : gFW RX8 22 8 2 := ⟨by decide, by decide, rfl, Or.inl (gU_mem (List.mem_of_getElem? (i := 495) (by decide +kernel)) rfl)⟩
theorem fl_X8_29 : gFW RX8 29 8 3 := ⟨by decide, by decide, rfl, Or.inl (gU_mem (List.mem_of_getElem? (i := 496) (by decide +kernel)) rfl)⟩
theorem fl_X8_36 : gFW RX8 36 8 4 := ⟨by decide, by decide, rfl, Or.inl (gU_mem (List.mem_of_getElem? (i := 497) (by decide +kernel)) rfl)⟩
theorem fl_X8_43 : gFW RX8 43 8 5 := ⟨by decide, by decide, rfl, Or.inl (gU_mem (List.mem_of_getElem? (i := 498) (by decide +kernel)) rfl)⟩
theorem fl_X8_50 : gFW RX8 50 8 6 := ⟨by decide, by decide, rfl, Or.inl (gU_mem (List.mem_of_getElem? (i := 499) (by decide +kernel)) rfl)⟩
theorem fl_X8_57 : gFW RX8 57 8 7 := ⟨by decide, by decide, rfl, Or.inl (gU_mem (List.mem_of_getElem? (i := 500) (by decide +kernel)) rfl)⟩
theorem fl_X8_64 : gFW RX8 64 8 8 := ⟨by decide, by decide, rfl, Or.inl (gU_mem (List.mem_of_getElem? (i := 501) (by decide +kernel)) rfl)⟩
theorem fl_X8_68 : gFW RX8 68 8 9 := ⟨by decide, by decide, rfl, Or.inl (gU_mem (List.mem_of_getElem? (i := 502) (by decide +kernel)) rfl)⟩
theorem fl_X8_72 : gFW RX8 72 8 10 := ⟨by decide, by decide, rfl, Or.inl (gU_mem (List.mem_of_getElem? (i := 503) (by decide +kernel)) rfl)⟩
theorem fl_X8_92 : gFW RX8 92 8 11 := ⟨by decide, by decide, rfl, Or.inl (gU_mem (List.mem_of_getElem? (i := 504) (by decide +kernel)) rfl)⟩
theorem fl_X8_75 : gFW RX8 75 8 12 := ⟨by decide, by decide, rfl, Or.inl (gU_mem (List.mem_of_getElem? (i := 505) (by decide +kernel)) rfl)⟩
theorem fl_X8_79 : gFW RX8 79 8 13 := ⟨by decide, by decide, rfl, Or.inl (gU_mem (List.mem_of_getElem? (i := 506) (by decide +kernel)) rfl)⟩
theorem fl_X9_7 : gFW RX9 7 9 0 := ⟨by decide, by decide, rfl, Or.inl (gU_mem (List.mem_of_getElem? (i := 1278) (by decide +kernel)) rfl)⟩
theorem fl_X9_13 : gFW RX9 13 9 1 := ⟨by decide, by decide, rfl, Or.inl (gU_mem (List.mem_of_getElem? (i := 1279) (by decide +kernel)) rfl)⟩
theorem fl_X9_16 : gFW RX9 16 9 2 := ⟨by decide, by decide, rfl, Or.inl (gU_mem (List.mem_of_getElem? (i := 1280) (by decide +kernel)) rfl)⟩
theorem fl_X9_19 : gFW RX9 19 9 3 := ⟨by decide, by decide, rfl, Or.inl (gU_mem (List.mem_of_getElem? (i := 1281) (by decide +kernel)) rfl)⟩
theorem fl_X9_105 : gFW RX9 105 9 4 := ⟨by decide, by decide, rfl, Or.inl (gU_mem (List.mem_of_getElem? (i := 1282) (by decide +kernel)) rfl)⟩
theorem fl_X9_22 : gFW RX9 22 9 5 := ⟨by decide, by decide, rfl, Or.inl (gU_mem (List.mem_of_getElem? (i := 1283) (by decide +kernel)) rfl)⟩
theorem fl_X9_26 : gFW RX9 26 9 6 := ⟨by decide, by decide, rfl, Or.inl (gU_mem (List.mem_of_getElem? (i := 1284) (by decide +kernel)) rfl)⟩
theorem fl_X9_111 : gFW RX9 111 9 7 := ⟨by decide, by decide, rfl, Or.inl (gU_mem (List.mem_of_getElem? (i := 1285) (by decide +kernel)) rfl)⟩
theorem fl_X9_116 : gFW RX9 116 9 8 := ⟨by decide, by decide, rfl, Or.inl (gU_mem (List.mem_of_getElem? (i := 1286) (by decide +kernel)) rfl)⟩
theorem fl_X9_122 : gFW RX9 122 9 9 := ⟨by decide, by decide, rfl, Or.inl (gU_mem (List.mem_of_getElem? (i := 1287) (by decide +kernel)) rfl)⟩
theorem fl_X9_119 : gFW RX9 119 9 10 := ⟨by decide, by decide, rfl, Or.inl (gU_mem (List.mem_of_getElem? (i := 1288) (by decide +kernel)) rfl)⟩
theorem fl_X9_133 : gFW RX9 133 9 11 := ⟨by decide, by decide, rfl, Or.inl (gU_mem (List.mem_of_getElem? (i := 1289) (by decide +kernel)) rfl)⟩
theorem fl_X9_136 : gFW RX9 136 9 12 := ⟨by decide, by decide, rfl, Or.inl (gU_mem (List.mem_of_getElem? (i := 1290) (by decide +kernel)) rfl)⟩
theorem fl_X9_29 : gFW RX9 29 9 13 := ⟨by decide, by decide, rfl, Or.inl (gU_mem (List.mem_of_getElem? (i := 1291) (by decide +kernel)) rfl)⟩
theorem fl_X9_150 : gFW RX9 150 9 14 := ⟨by decide, by decide, rfl, Or.inl (gU_mem (List.mem_of_getElem? (i := 1292) (by decide +kernel)) rfl)⟩
theorem fl_X9_32 : gFW RX9 32 9 15 := ⟨by decide, by decide, rfl, Or.inl (gU_mem (List.mem_of_getElem? (i := 1293) (by decide +kernel)) rfl)⟩
theorem fl_X9_35 : gFW RX9 35 9 16 := ⟨by decide, by decide, rfl, Or.inl (gU_mem (List.mem_of_getElem? (i := 1294) (by decide +kernel)) rfl)⟩
theorem fl_X9_38 : gFW RX9 38 9 17 := ⟨by decide, by decide, rfl, Or.inl (gU_mem (List.mem_of_getElem? (i := 1295) (by decide +kernel)) rfl)⟩
theorem fl_X9_171 : gFW RX9 171 9 18 := ⟨by decide, by decide, rfl, Or.inl (gU_mem (List.mem_of_getElem? (i := 1296) (by decide +kernel)) rfl)⟩
theorem fl_X9_42 : gFW RX9 42 9 19 := ⟨by decide, by decide, rfl, Or.inl (gU_mem (List.mem_of_getElem? (i := 1297) (by decide +kernel)) rfl)⟩
theorem fl_X9_45 : gFW RX9 45 9 20 := ⟨by decide, by decide, rfl, Or.inl (gU_mem (List.mem_of_getElem? (i := 1298) (by decide +kernel)) rfl)⟩
theorem fl_X9_48 : gFW RX9 48 9 21 := ⟨by decide, by decide, rfl, Or.inl (gU_mem (List.mem_of_getElem? (i := 1299) (by decide +kernel)) rfl)⟩
theorem fl_X9_279 : gFW RX9 279 9 22 := ⟨by decide, by decide, rfl, Or.inl (gU_mem (List.mem_of_getElem? (i := 1300) (by decide +kernel)) rfl)⟩
theorem fl_X9_282 : gFW RX9 282 9 23 := ⟨by decide, by decide, rfl, Or.inl (gU_mem (List.mem_of_getElem? (i := 1301) (by decide +kernel)) rfl)⟩
theorem fl_X9_51 : gFW RX9 51 9 24 := ⟨by decide, by decide, rfl, Or.inl (gU_mem (List.mem_of_getElem? (i := 1302) (by decide +kernel)) rfl)⟩
theorem fl_X9_54 : gFW RX9 54 9 25 := ⟨by decide, by decide, rfl, Or.inl (gU_mem (List.mem_of_getElem? (i := 1303) (by decide +kernel)) rfl)⟩
theorem fl_X9_57 : gFW RX9 57 9 26 := ⟨by decide, by decide, rfl, Or.inl (gU_mem (List.mem_of_getElem? (i := 1304) (by decide +kernel)) rfl)⟩
theorem fl_X9_60 : gFW RX9 60 9 27 := ⟨by decide, by decide, rfl, Or.inl (gU_mem (List.mem_of_getElem? (i := 1305) (by decide +kernel)) rfl)⟩
theorem fl_X9_63 : gFW RX9 63 9 28 := ⟨by decide, by decide, rfl, Or.inl (gU_mem (List.mem_of_getElem? (i := 1306) (by decide +kernel)) rfl)⟩
theorem fl_X9_66 : gFW RX9 66 9 29 := ⟨by decide, by decide, rfl, Or.inl (gU_mem (List.mem_of_getElem? (i := 1307) (by decide +kernel)) rfl)⟩
theorem fl_X9_337 : gFW RX9 337 9 30 := ⟨by decide, by decide, rfl, Or.inl (gU_mem (List.mem_of_getElem? (i := 1308) (by decide +kernel)) rfl)⟩
theorem co_X0_init : Cond.code yX0_init cX0_init 1 none ∈ gU := (gU_mem (List.mem_of_getElem? (i := 415) (by decide +kernel)) rfl)
theorem co_X0_read : Cond.code yX0_read cX0_read 5 none ∈ gU := (gU_mem (List.mem_of_getElem? (i := 555) (by decide +kernel)) rfl)
theorem co_X0_isDigit : Cond.code yX0_isDigit cX0_isDigit 1 (some .boolean) ∈ gU := (gU_mem (List.mem_of_getElem? (i := 558) (by decide +kernel)) rfl)
theorem co_X0_takeDigit : Cond.code yX0_takeDigit cX0_takeDigit 3 none ∈ gU := (gU_mem (List.mem_of_getElem? (i := 562) (by decide +kernel)) rfl)
theorem co_X0_endNumber : Cond.code yX0_endNumber cX0_endNumber 2 none ∈ gU := (gU_mem (List.mem_of_getElem? (i := 568) (by decide +kernel)) rfl)
theorem co_X0_fail : Cond.code yX0_fail cX0_fail 3 none ∈ gU := (gU_mem (List.mem_of_getElem? (i := 580) (by decide +kernel)) rfl)
theorem co_X0_takeEnd : Cond.code yX0_takeEnd cX0_takeEnd 2 none ∈ gU := (gU_mem (List.mem_of_getElem? (i := 612) (by decide +kernel)) rfl)
theorem co_X0_mayItemCome : Cond.code yX0_mayItemCome cX0_mayItemCome 1 (some .boolean) ∈ gU := (gU_mem (List.mem_of_getElem? (i := 604) (by decide +kernel)) rfl)
theorem co_X0_takeSign : Cond.code yX0_takeSign cX0_takeSign 4 none ∈ gU := (gU_mem (List.mem_of_getElem? (i := 600) (by decide +kernel)) rfl)
theorem co_X0_openLoop : Cond.code yX0_openLoop cX0_openLoop 3 none ∈ gU := (gU_mem (List.mem_of_getElem? (i := 608) (by decide +kernel)) rfl)
theorem co_X0_takeNumber : Cond.code yX0_takeNumber cX0_takeNumber 2 none ∈ gU := (gU_mem (List.mem_of_getElem? (i := 572) (by decide +kernel)) rfl)
theorem co_X0_isWithin : Cond.code yX0_isWithin cX0_isWithin 3 (some .boolean) ∈ gU := (gU_mem (List.mem_of_getElem? (i := 576) (by decide +kernel)) rfl)
theorem co_X0_emit : Cond.code yX0_emit cX0_emit 4 none ∈ gU := (gU_mem (List.mem_of_getElem? (i := 584) (by decide +kernel)) rfl)
theorem co_X0_emitStrides : Cond.code yX0_emitStrides cX0_emitStrides 4 none ∈ gU := (gU_mem (List.mem_of_getElem? (i := 592) (by decide +kernel)) rfl)
theorem co_X0_closeLoop : Cond.code yX0_closeLoop cX0_closeLoop 6 none ∈ gU := (gU_mem (List.mem_of_getElem? (i := 596) (by decide +kernel)) rfl)
theorem co_X1_init : Cond.code yX1_init cX1_init 1 none ∈ gU := (gU_mem (List.mem_of_getElem? (i := 328) (by decide +kernel)) rfl)
theorem co_X1_lookUnlessHeld : Cond.code yX1_lookUnlessHeld cX1_lookUnlessHeld 4 none ∈ gU := (gU_mem (List.mem_of_getElem? (i := 1118) (by decide +kernel)) rfl)
theorem co_X1_look : Cond.code yX1_look cX1_look 9 none ∈ gU := (gU_mem (List.mem_of_getElem? (i := 654) (by decide +kernel)) rfl)
theorem co_X1_addSlotsOf : Cond.code yX1_addSlotsOf cX1_addSlotsOf 8 none ∈ gU := (gU_mem (List.mem_of_getElem? (i := 659) (by decide +kernel)) rfl)
theorem co_X1_choose : Cond.code yX1_choose cX1_choose 6 (some .int) ∈ gU := (gU_mem (List.mem_of_getElem? (i := 664) (by decide +kernel)) rfl)
theorem co_X1_topOf : Cond.code yX1_topOf cX1_topOf 4 (some .int) ∈ gU := (gU_mem (List.mem_of_getElem? (i := 691) (by decide +kernel)) rfl)
theorem co_X2_init : Cond.code yX2_init cX2_init 1 none ∈ gU := (gU_mem (List.mem_of_getElem? (i := 366) (by decide +kernel)) rfl)
theorem co_X2_clear : Cond.code yX2_clear cX2_clear 1 none ∈ gU := (gU_mem (List.mem_of_getElem? (i := 1055) (by decide +kernel)) rfl)
theorem co_X2_admit : Cond.code yX2_admit cX2_admit 8 (some .boolean) ∈ gU := (gU_mem (List.mem_of_getElem? (i := 1060) (by decide +kernel)) rfl)
theorem co_X2_shiftTo : Cond.code yX2_shiftTo cX2_shiftTo 6 none ∈ gU := (gU_mem (List.mem_of_getElem? (i := 1065) (by decide +kernel)) rfl)
theorem co_X3_init : Cond.code yX3_init cX3_init 1 none ∈ gU := (gU_mem (List.mem_of_getElem? (i := 195) (by decide +kernel)) rfl)
theorem co_X3_begin : Cond.code yX3_begin cX3_begin 2 none ∈ gU := (gU_mem (List.mem_of_getElem? (i := 455) (by decide +kernel)) rfl)
theorem co_X3_takeStore : Cond.code yX3_takeStore cX3_takeStore 2 none ∈ gU := (gU_mem (List.mem_of_getElem? (i := 477) (by decide +kernel)) rfl)
theorem co_X3_takeRow : Cond.code yX3_takeRow cX3_takeRow 2 none ∈ gU := (gU_mem (List.mem_of_getElem? (i := 480) (by decide +kernel)) rfl)
theorem co_X3_slotsOfWay : Cond.code yX3_slotsOfWay cX3_slotsOfWay 1 (some .int) ∈ gU := (gU_mem (List.mem_of_getElem? (i := 894) (by decide +kernel)) rfl)
theorem co_X3_slotsInAll : Cond.code yX3_slotsInAll cX3_slotsInAll 1 (some .int) ∈ gU := (gU_mem (List.mem_of_getElem? (i := 770) (by decide +kernel)) rfl)
theorem co_X3_linesHeld : Cond.code yX3_linesHeld cX3_linesHeld 3 (some .int) ∈ gU := (gU_mem (List.mem_of_getElem? (i := 873) (by decide +kernel)) rfl)
theorem co_X3_linesPinned : Cond.code yX3_linesPinned cX3_linesPinned 3 (some .int) ∈ gU := (gU_mem (List.mem_of_getElem? (i := 877) (by decide +kernel)) rfl)
theorem co_X3_indexOf : Cond.code yX3_indexOf cX3_indexOf 6 (some .int) ∈ gU := (gU_mem (List.mem_of_getElem? (i := 644) (by decide +kernel)) rfl)
theorem co_X3_placeIn : Cond.code yX3_placeIn cX3_placeIn 3 (some .int) ∈ gU := (gU_mem (List.mem_of_getElem? (i := 640) (by decide +kernel)) rfl)
theorem co_X3_placeOf : Cond.code yX3_placeOf cX3_placeOf 4 (some .int) ∈ gU := (gU_mem (List.mem_of_getElem? (i := 636) (by decide +kernel)) rfl)
theorem co_X3_waysShared : Cond.code yX3_waysShared cX3_waysShared 5 (some .int) ∈ gU := (gU_mem (List.mem_of_getElem? (i := 943) (by decide +kernel)) rfl)
theorem co_X3_areTwins : Cond.code yX3_areTwins cX3_areTwins 4 (some .boolean) ∈ gU := (gU_mem (List.mem_of_getElem? (i := 931) (by decide +kernel)) rfl)
theorem co_X3_setFamily : Cond.code yX3_setFamily cX3_setFamily 4 none ∈ gU := (gU_mem (List.mem_of_getElem? (i := 459) (by decide +kernel)) rfl)
theorem co_X3_maskOfFamily : Cond.code yX3_maskOfFamily cX3_maskOfFamily 5 (some .int) ∈ gU := (gU_mem (List.mem_of_getElem? (i := 466) (by decide +kernel)) rfl)
theorem co_X3_valueOf : Cond.code yX3_valueOf cX3_valueOf 3 (some .int) ∈ gU := (gU_mem (List.mem_of_getElem? (i := 699) (by decide +kernel)) rfl)
theorem co_X3_come : Cond.code yX3_come cX3_come 8 (some .int) ∈ gU := (gU_mem (List.mem_of_getElem? (i := 632) (by decide +kernel)) rfl)
theorem co_X3_put : Cond.code yX3_put cX3_put 4 none ∈ gU := (gU_mem (List.mem_of_getElem? (i := 708) (by decide +kernel)) rfl)
theorem co_X3_growOlder : Cond.code yX3_growOlder cX3_growOlder 4 none ∈ gU := (gU_mem (List.mem_of_getElem? (i := 672) (by decide +kernel)) rfl)
theorem co_X3_moveOn : Cond.code yX3_moveOn cX3_moveOn 6 (some .int) ∈ gU := (gU_mem (List.mem_of_getElem? (i := 683) (by decide +kernel)) rfl)
theorem co_X3_moveLine : Cond.code yX3_moveLine cX3_moveLine 3 none ∈ gU := (gU_mem (List.mem_of_getElem? (i := 687) (by decide +kernel)) rfl)
theorem co_X3_settle : Cond.code yX3_settle cX3_settle 3 none ∈ gU := (gU_mem (List.mem_of_getElem? (i := 695) (by decide +kernel)) rfl)
theorem co_X3_note : Cond.code yX3_note cX3_note 6 none ∈ gU := (gU_mem (List.mem_of_getElem? (i := 668) (by decide +kernel)) rfl)
theorem co_X3_bringBack : Cond.code yX3_bringBack cX3_bringBack 3 (some .int) ∈ gU := (gU_mem (List.mem_of_getElem? (i := 679) (by decide +kernel)) rfl)
theorem co_X3_makeEmpty : Cond.code yX3_makeEmpty cX3_makeEmpty 2 none ∈ gU := (gU_mem (List.mem_of_getElem? (i := 729) (by decide +kernel)) rfl)
theorem co_X3_emptyAll : Cond.code yX3_emptyAll cX3_emptyAll 3 (some .int) ∈ gU := (gU_mem (List.mem_of_getElem? (i := 760) (by decide +kernel)) rfl)
theorem co_X3_coolAll : Cond.code yX3_coolAll cX3_coolAll 3 (some .int) ∈ gU := (gU_mem (List.mem_of_getElem? (i := 737) (by decide +kernel)) rfl)
theorem co_X3_tradeWays : Cond.code yX3_tradeWays cX3_tradeWays 3 none ∈ gU := (gU_mem (List.mem_of_getElem? (i := 749) (by decide +kernel)) rfl)
theorem co_X3_tradeParts : Cond.code yX3_tradeParts cX3_tradeParts 6 none ∈ gU := (gU_mem (List.mem_of_getElem? (i := 752) (by decide +kernel)) rfl)
theorem co_X4_init : Cond.code yX4_init cX4_init 1 none ∈ gU := (gU_mem (List.mem_of_getElem? (i := 392) (by decide +kernel)) rfl)
theorem co_X4_mostUnlike : Cond.code yX4_mostUnlike cX4_mostUnlike 8 (some .int) ∈ gU := (gU_mem (List.mem_of_getElem? (i := 1149) (by decide +kernel)) rfl)
theorem co_X4_hottestLine : Cond.code yX4_hottestLine cX4_hottestLine 5 (some .int) ∈ gU := (gU_mem (List.mem_of_getElem? (i := 1171) (by decide +kernel)) rfl)
theorem co_X4_distanceAt : Cond.code yX4_distanceAt cX4_distanceAt 6 (some .int) ∈ gU := (gU_mem (List.mem_of_getElem? (i := 1223) (by decide +kernel)) rfl)
theorem co_X4_placeHolding : Cond.code yX4_placeHolding cX4_placeHolding 3 (some .int) ∈ gU := (gU_mem (List.mem_of_getElem? (i := 1211) (by decide +kernel)) rfl)
theorem co_X4_missesByRecency : Cond.code yX4_missesByRecency cX4_missesByRecency 8 (some .int) ∈ gU := (gU_mem (List.mem_of_getElem? (i := 1231) (by decide +kernel)) rfl)
theorem co_X4_fewestMisses : Cond.code yX4_fewestMisses cX4_fewestMisses 6 (some .int) ∈ gU := (gU_mem (List.mem_of_getElem? (i := 1203) (by decide +kernel)) rfl)
theorem co_X4_findNextUses : Cond.code yX4_findNextUses cX4_findNextUses 3 none ∈ gU := (gU_mem (List.mem_of_getElem? (i := 1207) (by decide +kernel)) rfl)
theorem co_X4_placeToFill : Cond.code yX4_placeToFill cX4_placeToFill 4 (some .int) ∈ gU := (gU_mem (List.mem_of_getElem? (i := 1215) (by decide +kernel)) rfl)
theorem co_X5_init : Cond.code yX5_init cX5_init 1 none ∈ gU := (gU_mem (List.mem_of_getElem? (i := 269) (by decide +kernel)) rfl)
theorem co_X5_takeTrace : Cond.code yX5_takeTrace cX5_takeTrace 2 none ∈ gU := (gU_mem (List.mem_of_getElem? (i := 490) (by decide +kernel)) rfl)
theorem co_X5_add : Cond.code yX5_add cX5_add 3 none ∈ gU := (gU_mem (List.mem_of_getElem? (i := 588) (by decide +kernel)) rfl)
theorem co_X5_written : Cond.code yX5_written cX5_written 3 (some .int) ∈ gU := (gU_mem (List.mem_of_getElem? (i := 1159) (by decide +kernel)) rfl)
theorem co_X6_init : Cond.code yX6_init cX6_init 2 none ∈ gU := (gU_mem (List.mem_of_getElem? (i := 189) (by decide +kernel)) rfl)
theorem co_X6_takeAll : Cond.code yX6_takeAll cX6_takeAll 3 none ∈ gU := (gU_mem (List.mem_of_getElem? (i := 473) (by decide +kernel)) rfl)
theorem co_X6_remember : Cond.code yX6_remember cX6_remember 1 none ∈ gU := (gU_mem (List.mem_of_getElem? (i := 628) (by decide +kernel)) rfl)
theorem co_X6_takeBack : Cond.code yX6_takeBack cX6_takeBack 1 (some .int) ∈ gU := (gU_mem (List.mem_of_getElem? (i := 831) (by decide +kernel)) rfl)
theorem co_X6_placeInSet : Cond.code yX6_placeInSet cX6_placeInSet 3 (some .int) ∈ gU := (gU_mem (List.mem_of_getElem? (i := 843) (by decide +kernel)) rfl)
theorem co_X6_addToSet : Cond.code yX6_addToSet cX6_addToSet 2 none ∈ gU := (gU_mem (List.mem_of_getElem? (i := 847) (by decide +kernel)) rfl)
theorem co_X6_dropFromSet : Cond.code yX6_dropFromSet cX6_dropFromSet 3 none ∈ gU := (gU_mem (List.mem_of_getElem? (i := 865) (by decide +kernel)) rfl)
theorem co_X6_collectFrom : Cond.code yX6_collectFrom cX6_collectFrom 3 none ∈ gU := (gU_mem (List.mem_of_getElem? (i := 855) (by decide +kernel)) rfl)
theorem co_X7_init : Cond.code yX7_init cX7_init 1 none ∈ gU := (gU_mem (List.mem_of_getElem? (i := 353) (by decide +kernel)) rfl)
theorem co_X7_rankOfAll : Cond.code yX7_rankOfAll cX7_rankOfAll 4 (some .int) ∈ gU := (gU_mem (List.mem_of_getElem? (i := 778) (by decide +kernel)) rfl)
theorem co_X7_rankOfTwo : Cond.code yX7_rankOfTwo cX7_rankOfTwo 5 (some .int) ∈ gU := (gU_mem (List.mem_of_getElem? (i := 804) (by decide +kernel)) rfl)
theorem co_X7_addMasks : Cond.code yX7_addMasks cX7_addMasks 6 (some .int) ∈ gU := (gU_mem (List.mem_of_getElem? (i := 782) (by decide +kernel)) rfl)
theorem co_X7_rankOfRows : Cond.code yX7_rankOfRows cX7_rankOfRows 4 (some .int) ∈ gU := (gU_mem (List.mem_of_getElem? (i := 787) (by decide +kernel)) rfl)
theorem co_X7_clearBelow : Cond.code yX7_clearBelow cX7_clearBelow 5 none ∈ gU := (gU_mem (List.mem_of_getElem? (i := 791) (by decide +kernel)) rfl)
theorem co_X7_layOut : Cond.code yX7_layOut cX7_layOut 6 none ∈ gU := (gU_mem (List.mem_of_getElem? (i := 957) (by decide +kernel)) rfl)
theorem co_X7_slotsUsed : Cond.code yX7_slotsUsed cX7_slotsUsed 3 (some .int) ∈ gU := (gU_mem (List.mem_of_getElem? (i := 963) (by decide +kernel)) rfl)
theorem co_X7_mostInOne : Cond.code yX7_mostInOne cX7_mostInOne 3 (some .int) ∈ gU := (gU_mem (List.mem_of_getElem? (i := 967) (by decide +kernel)) rfl)
theorem co_X7_inSlot : Cond.code yX7_inSlot cX7_inSlot 2 (some .int) ∈ gU := (gU_mem (List.mem_of_getElem? (i := 1077) (by decide +kernel)) rfl)
theorem co_X7_isEven : Cond.code yX7_isEven cX7_isEven 7 (some .boolean) ∈ gU := (gU_mem (List.mem_of_getElem? (i := 980) (by decide +kernel)) rfl)
theorem co_X7_isEvenInAll : Cond.code yX7_isEvenInAll cX7_isEvenInAll 4 (some .boolean) ∈ gU := (gU_mem (List.mem_of_getElem? (i := 989) (by decide +kernel)) rfl)
theorem co_X7_evenStrides : Cond.code yX7_evenStrides cX7_evenStrides 5 (some .int) ∈ gU := (gU_mem (List.mem_of_getElem? (i := 976) (by decide +kernel)) rfl)
theorem co_X7_slotsScattered : Cond.code yX7_slotsScattered cX7_slotsScattered 7 (some .int) ∈ gU := (gU_mem (List.mem_of_getElem? (i := 997) (by decide +kernel)) rfl)
theorem co_X7_worstStride : Cond.code yX7_worstStride cX7_worstStride 8 (some .int) ∈ gU := (gU_mem (List.mem_of_getElem? (i := 1006) (by decide +kernel)) rfl)
theorem co_X7_evenIfFlipped : Cond.code yX7_evenIfFlipped cX7_evenIfFlipped 8 (some .int) ∈ gU := (gU_mem (List.mem_of_getElem? (i := 1016) (by decide +kernel)) rfl)
theorem co_X7_bestFlipOf : Cond.code yX7_bestFlipOf cX7_bestFlipOf 8 (some .int) ∈ gU := (gU_mem (List.mem_of_getElem? (i := 1025) (by decide +kernel)) rfl)
theorem co_X7_crowdedSlot : Cond.code yX7_crowdedSlot cX7_crowdedSlot 7 (some .int) ∈ gU := (gU_mem (List.mem_of_getElem? (i := 1073) (by decide +kernel)) rfl)
theorem co_X7_fitPlainly : Cond.code yX7_fitPlainly cX7_fitPlainly 6 (some .int) ∈ gU := (gU_mem (List.mem_of_getElem? (i := 1093) (by decide +kernel)) rfl)
theorem co_X8_init : Cond.code yX8_init cX8_init 1 none ∈ gU := (gU_mem (List.mem_of_getElem? (i := 181) (by decide +kernel)) rfl)
theorem co_X8_feed : Cond.code yX8_feed cX8_feed 6 (some .int) ∈ gU := (gU_mem (List.mem_of_getElem? (i := 539) (by decide +kernel)) rfl)
theorem co_X8_feedFour : Cond.code yX8_feedFour cX8_feedFour 3 none ∈ gU := (gU_mem (List.mem_of_getElem? (i := 543) (by decide +kernel)) rfl)
theorem co_X8_end : Cond.code yX8_end cX8_end 2 (some .int) ∈ gU := (gU_mem (List.mem_of_getElem? (i := 547) (by decide +kernel)) rfl)
theorem co_X8_text : Cond.code yX8_text cX8_text 2 (some .int) ∈ gU := (gU_mem (List.mem_of_getElem? (i := 551) (by decide +kernel)) rfl)
theorem co_X8_fault : Cond.code yX8_fault cX8_fault 2 (some .int) ∈ gU := (gU_mem (List.mem_of_getElem? (i := 617) (by decide +kernel)) rfl)
theorem co_X8_ask : Cond.code yX8_ask cX8_ask 2 (some .int) ∈ gU := (gU_mem (List.mem_of_getElem? (i := 621) (by decide +kernel)) rfl)
theorem co_X8_write : Cond.code yX8_write cX8_write 5 (some .boolean) ∈ gU := (gU_mem (List.mem_of_getElem? (i := 703) (by decide +kernel)) rfl)
theorem co_X8_pin : Cond.code yX8_pin cX8_pin 5 (some .boolean) ∈ gU := (gU_mem (List.mem_of_getElem? (i := 712) (by decide +kernel)) rfl)
theorem co_X8_clean : Cond.code yX8_clean cX8_clean 3 (some .int) ∈ gU := (gU_mem (List.mem_of_getElem? (i := 720) (by decide +kernel)) rfl)
theorem co_X8_leave : Cond.code yX8_leave cX8_leave 4 (some .int) ∈ gU := (gU_mem (List.mem_of_getElem? (i := 725) (by decide +kernel)) rfl)
theorem co_X8_cool : Cond.code yX8_cool cX8_cool 1 (some .int) ∈ gU := (gU_mem (List.mem_of_getElem? (i := 733) (by decide +kernel)) rfl)
theorem co_X8_trade : Cond.code yX8_trade cX8_trade 3 (some .boolean) ∈ gU := (gU_mem (List.mem_of_getElem? (i := 741) (by decide +kernel)) rfl)
theorem co_X8_empty : Cond.code yX8_empty cX8_empty 1 (some .int) ∈ gU := (gU_mem (List.mem_of_getElem? (i := 756) (by decide +kernel)) rfl)
theorem co_X8_shape : Cond.code yX8_shape cX8_shape 3 (some .int) ∈ gU := (gU_mem (List.mem_of_getElem? (i := 765) (by decide +kernel)) rfl)
theorem co_X8_family : Cond.code yX8_family cX8_family 2 (some .int) ∈ gU := (gU_mem (List.mem_of_getElem? (i := 774) (by decide +kernel)) rfl)
theorem co_X8_mask : Cond.code yX8_mask cX8_mask 4 (some .int) ∈ gU := (gU_mem (List.mem_of_getElem? (i := 795) (by decide +kernel)) rfl)
theorem co_X8_depth : Cond.code yX8_depth cX8_depth 2 (some .boolean) ∈ gU := (gU_mem (List.mem_of_getElem? (i := 808) (by decide +kernel)) rfl)
theorem co_X8_run : Cond.code yX8_run cX8_run 2 (some .int) ∈ gU := (gU_mem (List.mem_of_getElem? (i := 815) (by decide +kernel)) rfl)
theorem co_X8_undo : Cond.code yX8_undo cX8_undo 1 (some .int) ∈ gU := (gU_mem (List.mem_of_getElem? (i := 827) (by decide +kernel)) rfl)
theorem co_X8_tell : Cond.code yX8_tell cX8_tell 2 (some .boolean) ∈ gU := (gU_mem (List.mem_of_getElem? (i := 835) (by decide +kernel)) rfl)
theorem co_X8_gather : Cond.code yX8_gather cX8_gather 2 (some .int) ∈ gU := (gU_mem (List.mem_of_getElem? (i := 839) (by decide +kernel)) rfl)
theorem co_X8_collect : Cond.code yX8_collect cX8_collect 2 (some .int) ∈ gU := (gU_mem (List.mem_of_getElem? (i := 851) (by decide +kernel)) rfl)
theorem co_X8_scatter : Cond.code yX8_scatter cX8_scatter 3 (some .boolean) ∈ gU := (gU_mem (List.mem_of_getElem? (i := 861) (by decide +kernel)) rfl)
theorem co_X8_is : Cond.code yX8_is cX8_is 3 (some .int) ∈ gU := (gU_mem (List.mem_of_getElem? (i := 869) (by decide +kernel)) rfl)
theorem co_X8_masked : Cond.code yX8_masked cX8_masked 3 (some .int) ∈ gU := (gU_mem (List.mem_of_getElem? (i := 881) (by decide +kernel)) rfl)
theorem co_X8_index : Cond.code yX8_index cX8_index 3 (some .int) ∈ gU := (gU_mem (List.mem_of_getElem? (i := 885) (by decide +kernel)) rfl)
theorem co_X8_slot : Cond.code yX8_slot cX8_slot 5 (some .int) ∈ gU := (gU_mem (List.mem_of_getElem? (i := 890) (by decide +kernel)) rfl)
theorem co_X8_where : Cond.code yX8_where cX8_where 3 (some .int) ∈ gU := (gU_mem (List.mem_of_getElem? (i := 898) (by decide +kernel)) rfl)
theorem co_X8_memory : Cond.code yX8_memory cX8_memory 2 (some .int) ∈ gU := (gU_mem (List.mem_of_getElem? (i := 902) (by decide +kernel)) rfl)
theorem co_X8_value : Cond.code yX8_value cX8_value 2 (some .int) ∈ gU := (gU_mem (List.mem_of_getElem? (i := 906) (by decide +kernel)) rfl)
theorem co_X8_aged : Cond.code yX8_aged cX8_aged 4 (some .int) ∈ gU := (gU_mem (List.mem_of_getElem? (i := 910) (by decide +kernel)) rfl)
theorem co_X8_book : Cond.code yX8_book cX8_book 5 (some .int) ∈ gU := (gU_mem (List.mem_of_getElem? (i := 914) (by decide +kernel)) rfl)
theorem co_X8_stale : Cond.code yX8_stale cX8_stale 4 (some .int) ∈ gU := (gU_mem (List.mem_of_getElem? (i := 919) (by decide +kernel)) rfl)
theorem co_X8_rank : Cond.code yX8_rank cX8_rank 3 (some .int) ∈ gU := (gU_mem (List.mem_of_getElem? (i := 923) (by decide +kernel)) rfl)
theorem co_X8_twins : Cond.code yX8_twins cX8_twins 4 (some .int) ∈ gU := (gU_mem (List.mem_of_getElem? (i := 927) (by decide +kernel)) rfl)
theorem co_X8_twin : Cond.code yX8_twin cX8_twin 5 (some .int) ∈ gU := (gU_mem (List.mem_of_getElem? (i := 935) (by decide +kernel)) rfl)
theorem co_X8_together : Cond.code yX8_together cX8_together 3 (some .int) ∈ gU := (gU_mem (List.mem_of_getElem? (i := 939) (by decide +kernel)) rfl)
theorem co_X8_spread : Cond.code yX8_spread cX8_spread 5 (some .int) ∈ gU := (gU_mem (List.mem_of_getElem? (i := 947) (by decide +kernel)) rfl)
theorem co_X8_even : Cond.code yX8_even cX8_even 2 (some .int) ∈ gU := (gU_mem (List.mem_of_getElem? (i := 972) (by decide +kernel)) rfl)
theorem co_X8_evenAll : Cond.code yX8_evenAll cX8_evenAll 3 (some .int) ∈ gU := (gU_mem (List.mem_of_getElem? (i := 985) (by decide +kernel)) rfl)
theorem co_X8_scattered : Cond.code yX8_scattered cX8_scattered 4 (some .int) ∈ gU := (gU_mem (List.mem_of_getElem? (i := 993) (by decide +kernel)) rfl)
theorem co_X8_worst : Cond.code yX8_worst cX8_worst 3 (some .int) ∈ gU := (gU_mem (List.mem_of_getElem? (i := 1002) (by decide +kernel)) rfl)
theorem co_X8_flipped : Cond.code yX8_flipped cX8_flipped 4 (some .int) ∈ gU := (gU_mem (List.mem_of_getElem? (i := 1012) (by decide +kernel)) rfl)
theorem co_X8_bestFlip : Cond.code yX8_bestFlip cX8_bestFlip 2 (some .int) ∈ gU := (gU_mem (List.mem_of_getElem? (i := 1021) (by decide +kernel)) rfl)
theorem co_X8_sweep : Cond.code yX8_sweep cX8_sweep 4 (some .int) ∈ gU := (gU_mem (List.mem_of_getElem? (i := 1030) (by decide +kernel)) rfl)
theorem co_X8_holds : Cond.code yX8_holds cX8_holds 3 (some .int) ∈ gU := (gU_mem (List.mem_of_getElem? (i := 1039) (by decide +kernel)) rfl)
theorem co_X8_sweepTrial : Cond.code yX8_sweepTrial cX8_sweepTrial 6 none ∈ gU := (gU_mem (List.mem_of_getElem? (i := 1034) (by decide +kernel)) rfl)
theorem co_X8_pairs : Cond.code yX8_pairs cX8_pairs 5 (some .int) ∈ gU := (gU_mem (List.mem_of_getElem? (i := 1043) (by decide +kernel)) rfl)
theorem co_X8_shares : Cond.code yX8_shares cX8_shares 5 (some .int) ∈ gU := (gU_mem (List.mem_of_getElem? (i := 1047) (by decide +kernel)) rfl)
theorem co_X8_room : Cond.code yX8_room cX8_room 4 (some .int) ∈ gU := (gU_mem (List.mem_of_getElem? (i := 1051) (by decide +kernel)) rfl)
theorem co_X8_crowd : Cond.code yX8_crowd cX8_crowd 4 (some .int) ∈ gU := (gU_mem (List.mem_of_getElem? (i := 1069) (by decide +kernel)) rfl)
theorem co_X8_gathered : Cond.code yX8_gathered cX8_gathered 2 (some .int) ∈ gU := (gU_mem (List.mem_of_getElem? (i := 1081) (by decide +kernel)) rfl)
theorem co_X8_fitting : Cond.code yX8_fitting cX8_fitting 2 (some .int) ∈ gU := (gU_mem (List.mem_of_getElem? (i := 1085) (by decide +kernel)) rfl)
theorem co_X8_fittingPlainly : Cond.code yX8_fittingPlainly cX8_fittingPlainly 1 (some .int) ∈ gU := (gU_mem (List.mem_of_getElem? (i := 1089) (by decide +kernel)) rfl)
theorem co_X8_pieces : Cond.code yX8_pieces cX8_pieces 3 (some .int) ∈ gU := (gU_mem (List.mem_of_getElem? (i := 1098) (by decide +kernel)) rfl)
theorem co_X8_piece : Cond.code yX8_piece cX8_piece 5 (some .int) ∈ gU := (gU_mem (List.mem_of_getElem? (i := 1110) (by decide +kernel)) rfl)
theorem co_X8_partIntoPieces : Cond.code yX8_partIntoPieces cX8_partIntoPieces 3 none ∈ gU := (gU_mem (List.mem_of_getElem? (i := 1102) (by decide +kernel)) rfl)
theorem co_X8_joinPieces : Cond.code yX8_joinPieces cX8_joinPieces 4 none ∈ gU := (gU_mem (List.mem_of_getElem? (i := 1106) (by decide +kernel)) rfl)
theorem co_X8_reach : Cond.code yX8_reach cX8_reach 3 (some .int) ∈ gU := (gU_mem (List.mem_of_getElem? (i := 1114) (by decide +kernel)) rfl)
theorem co_X8_candidate : Cond.code yX8_candidate cX8_candidate 3 (some .int) ∈ gU := (gU_mem (List.mem_of_getElem? (i := 1124) (by decide +kernel)) rfl)
theorem co_X8_victim : Cond.code yX8_victim cX8_victim 3 (some .int) ∈ gU := (gU_mem (List.mem_of_getElem? (i := 1128) (by decide +kernel)) rfl)
theorem co_X8_moved : Cond.code yX8_moved cX8_moved 6 (some .int) ∈ gU := (gU_mem (List.mem_of_getElem? (i := 1133) (by decide +kernel)) rfl)
theorem co_X8_length : Cond.code yX8_length cX8_length 2 (some .int) ∈ gU := (gU_mem (List.mem_of_getElem? (i := 1137) (by decide +kernel)) rfl)
theorem co_X8_step : Cond.code yX8_step cX8_step 3 (some .int) ∈ gU := (gU_mem (List.mem_of_getElem? (i := 1141) (by decide +kernel)) rfl)
theorem co_X8_wide : Cond.code yX8_wide cX8_wide 2 (some .int) ∈ gU := (gU_mem (List.mem_of_getElem? (i := 1145) (by decide +kernel)) rfl)
theorem co_X8_writes : Cond.code yX8_writes cX8_writes 2 (some .int) ∈ gU := (gU_mem (List.mem_of_getElem? (i := 1155) (by decide +kernel)) rfl)
theorem co_X8_working : Cond.code yX8_working cX8_working 3 (some .int) ∈ gU := (gU_mem (List.mem_of_getElem? (i := 1163) (by decide +kernel)) rfl)
theorem co_X8_hottest : Cond.code yX8_hottest cX8_hottest 4 (some .int) ∈ gU := (gU_mem (List.mem_of_getElem? (i := 1167) (by decide +kernel)) rfl)
theorem co_X8_hits : Cond.code yX8_hits cX8_hits 2 (some .int) ∈ gU := (gU_mem (List.mem_of_getElem? (i := 1175) (by decide +kernel)) rfl)
theorem co_X8_misses : Cond.code yX8_misses cX8_misses 3 (some .int) ∈ gU := (gU_mem (List.mem_of_getElem? (i := 1179) (by decide +kernel)) rfl)
theorem co_X8_deepest : Cond.code yX8_deepest cX8_deepest 6 (some .int) ∈ gU := (gU_mem (List.mem_of_getElem? (i := 1187) (by decide +kernel)) rfl)
theorem co_X8_suited : Cond.code yX8_suited cX8_suited 4 (some .int) ∈ gU := (gU_mem (List.mem_of_getElem? (i := 1191) (by decide +kernel)) rfl)
theorem co_X8_ideal : Cond.code yX8_ideal cX8_ideal 2 (some .int) ∈ gU := (gU_mem (List.mem_of_getElem? (i := 1199) (by decide +kernel)) rfl)
theorem co_X8_distance : Cond.code yX8_distance cX8_distance 3 (some .int) ∈ gU := (gU_mem (List.mem_of_getElem? (i := 1219) (by decide +kernel)) rfl)
theorem co_X8_recent : Cond.code yX8_recent cX8_recent 3 (some .int) ∈ gU := (gU_mem (List.mem_of_getElem? (i := 1227) (by decide +kernel)) rfl)
theorem co_X8_conflicts : Cond.code yX8_conflicts cX8_conflicts 3 (some .int) ∈ gU := (gU_mem (List.mem_of_getElem? (i := 1235) (by decide +kernel)) rfl)
theorem co_X8_missesForetold : Cond.code yX8_missesForetold cX8_missesForetold 3 (some .int) ∈ gU := (gU_mem (List.mem_of_getElem? (i := 1183) (by decide +kernel)) rfl)
theorem co_X8_missesByFamily : Cond.code yX8_missesByFamily cX8_missesByFamily 3 (some .int) ∈ gU := (gU_mem (List.mem_of_getElem? (i := 1195) (by decide +kernel)) rfl)
theorem co_X8_missesOn : Cond.code yX8_missesOn cX8_missesOn 6 (some .int) ∈ gU := (gU_mem (List.mem_of_getElem? (i := 823) (by decide +kernel)) rfl)
theorem co_X8_ratio : Cond.code yX8_ratio cX8_ratio 8 (some .long) ∈ gU := (gU_mem (List.mem_of_getElem? (i := 1239) (by decide +kernel)) rfl)
theorem co_X8_image : Cond.code yX8_image cX8_image 1 (some .int) ∈ gU := (gU_mem (List.mem_of_getElem? (i := 1245) (by decide +kernel)) rfl)
theorem co_X8_back : Cond.code yX8_back cX8_back 1 (some .int) ∈ gU := (gU_mem (List.mem_of_getElem? (i := 1249) (by decide +kernel)) rfl)
theorem co_X8_about : Cond.code yX8_about cX8_about 2 (some .int) ∈ gU := (gU_mem (List.mem_of_getElem? (i := 1253) (by decide +kernel)) rfl)
theorem co_X8_isLine : Cond.code yX8_isLine cX8_isLine 1 (some .boolean) ∈ gU := (gU_mem (List.mem_of_getElem? (i := 624) (by decide +kernel)) rfl)
theorem co_X8_isDepth : Cond.code yX8_isDepth cX8_isDepth 1 (some .boolean) ∈ gU := (gU_mem (List.mem_of_getElem? (i := 811) (by decide +kernel)) rfl)
theorem co_X8_isStride : Cond.code yX8_isStride cX8_isStride 1 (some .boolean) ∈ gU := (gU_mem (List.mem_of_getElem? (i := 950) (by decide +kernel)) rfl)
theorem co_X8_isSwept : Cond.code yX8_isSwept cX8_isSwept 1 (some .boolean) ∈ gU := (gU_mem (List.mem_of_getElem? (i := 953) (by decide +kernel)) rfl)
theorem co_X8_isWay : Cond.code yX8_isWay cX8_isWay 2 (some .boolean) ∈ gU := (gU_mem (List.mem_of_getElem? (i := 745) (by decide +kernel)) rfl)
theorem co_X8_isMask : Cond.code yX8_isMask cX8_isMask 3 (some .boolean) ∈ gU := (gU_mem (List.mem_of_getElem? (i := 799) (by decide +kernel)) rfl)
theorem co_X8_isTrace : Cond.code yX8_isTrace cX8_isTrace 2 (some .boolean) ∈ gU := (gU_mem (List.mem_of_getElem? (i := 819) (by decide +kernel)) rfl)
theorem co_X8_placeHeld : Cond.code yX8_placeHeld cX8_placeHeld 2 (some .int) ∈ gU := (gU_mem (List.mem_of_getElem? (i := 716) (by decide +kernel)) rfl)
theorem co_X8_maskAt : Cond.code yX8_maskAt cX8_maskAt 2 (some .int) ∈ gU := (gU_mem (List.mem_of_getElem? (i := 462) (by decide +kernel)) rfl)
theorem co_X9_init : Cond.code yX9_init cX9_init 2 none ∈ gU := (gU_mem (List.mem_of_getElem? (i := 1258) (by decide +kernel)) rfl)
theorem co_X9_copy : Cond.code yX9_copy cX9_copy 3 none ∈ gU := (gU_mem (List.mem_of_getElem? (i := 1277) (by decide +kernel)) rfl)
theorem co_X9_isIn : Cond.code yX9_isIn cX9_isIn 3 (some .boolean) ∈ gU := (gU_mem (List.mem_of_getElem? (i := 1387) (by decide +kernel)) rfl)
theorem co_X9_isLine : Cond.code yX9_isLine cX9_isLine 1 (some .boolean) ∈ gU := (gU_mem (List.mem_of_getElem? (i := 1456) (by decide +kernel)) rfl)
theorem co_X9_isWay : Cond.code yX9_isWay cX9_isWay 2 (some .boolean) ∈ gU := (gU_mem (List.mem_of_getElem? (i := 1554) (by decide +kernel)) rfl)
theorem co_X9_slotsOf : Cond.code yX9_slotsOf cX9_slotsOf 1 (some .int) ∈ gU := (gU_mem (List.mem_of_getElem? (i := 1578) (by decide +kernel)) rfl)
theorem co_X9_slotsAll : Cond.code yX9_slotsAll cX9_slotsAll 1 (some .int) ∈ gU := (gU_mem (List.mem_of_getElem? (i := 1574) (by decide +kernel)) rfl)
theorem co_X9_many : Cond.code yX9_many cX9_many 3 (some .int) ∈ gU := (gU_mem (List.mem_of_getElem? (i := 1479) (by decide +kernel)) rfl)
theorem co_X9_maskAt : Cond.code yX9_maskAt cX9_maskAt 2 (some .int) ∈ gU := (gU_mem (List.mem_of_getElem? (i := 1266) (by decide +kernel)) rfl)
theorem co_X9_indexOf : Cond.code yX9_indexOf cX9_indexOf 5 (some .int) ∈ gU := (gU_mem (List.mem_of_getElem? (i := 1476) (by decide +kernel)) rfl)
theorem co_X9_at : Cond.code yX9_at cX9_at 1 (some .int) ∈ gU := (gU_mem (List.mem_of_getElem? (i := 1486) (by decide +kernel)) rfl)
theorem co_X9_placeOf : Cond.code yX9_placeOf cX9_placeOf 3 (some .int) ∈ gU := (gU_mem (List.mem_of_getElem? (i := 1472) (by decide +kernel)) rfl)
theorem co_X9_lineAt : Cond.code yX9_lineAt cX9_lineAt 2 (some .int) ∈ gU := (gU_mem (List.mem_of_getElem? (i := 1483) (by decide +kernel)) rfl)
theorem co_X9_placeWith : Cond.code yX9_placeWith cX9_placeWith 3 (some .int) ∈ gU := (gU_mem (List.mem_of_getElem? (i := 1468) (by decide +kernel)) rfl)
theorem co_X9_four : Cond.code yX9_four cX9_four 3 none ∈ gU := (gU_mem (List.mem_of_getElem? (i := 1380) (by decide +kernel)) rfl)
theorem co_X9_feed : Cond.code yX9_feed cX9_feed 6 (some .int) ∈ gU := (gU_mem (List.mem_of_getElem? (i := 1376) (by decide +kernel)) rfl)
theorem co_X9_end : Cond.code yX9_end cX9_end 2 (some .int) ∈ gU := (gU_mem (List.mem_of_getElem? (i := 1384) (by decide +kernel)) rfl)
theorem co_X9_byteAt : Cond.code yX9_byteAt cX9_byteAt 2 (some .int) ∈ gU := (gU_mem (List.mem_of_getElem? (i := 1403) (by decide +kernel)) rfl)
theorem co_X9_isFigure : Cond.code yX9_isFigure cX9_isFigure 1 (some .boolean) ∈ gU := (gU_mem (List.mem_of_getElem? (i := 1406) (by decide +kernel)) rfl)
theorem co_X9_isSign : Cond.code yX9_isSign cX9_isSign 1 (some .boolean) ∈ gU := (gU_mem (List.mem_of_getElem? (i := 1410) (by decide +kernel)) rfl)
theorem co_X9_nextToken : Cond.code yX9_nextToken cX9_nextToken 2 none ∈ gU := (gU_mem (List.mem_of_getElem? (i := 1399) (by decide +kernel)) rfl)
theorem co_X9_lay : Cond.code yX9_lay cX9_lay 4 none ∈ gU := (gU_mem (List.mem_of_getElem? (i := 1426) (by decide +kernel)) rfl)
theorem co_X9_numberIn : Cond.code yX9_numberIn cX9_numberIn 3 (some .int) ∈ gU := (gU_mem (List.mem_of_getElem? (i := 1422) (by decide +kernel)) rfl)
theorem co_X9_askItem : Cond.code yX9_askItem cX9_askItem 5 (some .int) ∈ gU := (gU_mem (List.mem_of_getElem? (i := 1418) (by decide +kernel)) rfl)
theorem co_X9_writeItem : Cond.code yX9_writeItem cX9_writeItem 3 (some .int) ∈ gU := (gU_mem (List.mem_of_getElem? (i := 1430) (by decide +kernel)) rfl)
theorem co_X9_openItem : Cond.code yX9_openItem cX9_openItem 1 (some .int) ∈ gU := (gU_mem (List.mem_of_getElem? (i := 1434) (by decide +kernel)) rfl)
theorem co_X9_shutItem : Cond.code yX9_shutItem cX9_shutItem 5 (some .int) ∈ gU := (gU_mem (List.mem_of_getElem? (i := 1438) (by decide +kernel)) rfl)
theorem co_X9_item : Cond.code yX9_item cX9_item 1 (some .int) ∈ gU := (gU_mem (List.mem_of_getElem? (i := 1414) (by decide +kernel)) rfl)
theorem co_X9_readText : Cond.code yX9_readText cX9_readText 2 (some .int) ∈ gU := (gU_mem (List.mem_of_getElem? (i := 1395) (by decide +kernel)) rfl)
theorem co_X9_text : Cond.code yX9_text cX9_text 1 (some .int) ∈ gU := (gU_mem (List.mem_of_getElem? (i := 1391) (by decide +kernel)) rfl)
theorem co_X9_fault : Cond.code yX9_fault cX9_fault 2 (some .int) ∈ gU := (gU_mem (List.mem_of_getElem? (i := 1442) (by decide +kernel)) rfl)
theorem co_X9_find : Cond.code yX9_find cX9_find 3 none ∈ gU := (gU_mem (List.mem_of_getElem? (i := 1494) (by decide +kernel)) rfl)
theorem co_X9_layFound : Cond.code yX9_layFound cX9_layFound 9 none ∈ gU := (gU_mem (List.mem_of_getElem? (i := 1490) (by decide +kernel)) rfl)
theorem co_X9_taken : Cond.code yX9_taken cX9_taken 3 (some .int) ∈ gU := (gU_mem (List.mem_of_getElem? (i := 1502) (by decide +kernel)) rfl)
theorem co_X9_writeDown : Cond.code yX9_writeDown cX9_writeDown 6 none ∈ gU := (gU_mem (List.mem_of_getElem? (i := 1514) (by decide +kernel)) rfl)
theorem co_X9_goesBack : Cond.code yX9_goesBack cX9_goesBack 2 (some .boolean) ∈ gU := (gU_mem (List.mem_of_getElem? (i := 1506) (by decide +kernel)) rfl)
theorem co_X9_layLine : Cond.code yX9_layLine cX9_layLine 4 none ∈ gU := (gU_mem (List.mem_of_getElem? (i := 1510) (by decide +kernel)) rfl)
theorem co_X9_comeIn : Cond.code yX9_comeIn cX9_comeIn 6 none ∈ gU := (gU_mem (List.mem_of_getElem? (i := 1498) (by decide +kernel)) rfl)
theorem co_X9_askNow : Cond.code yX9_askNow cX9_askNow 3 (some .boolean) ∈ gU := (gU_mem (List.mem_of_getElem? (i := 1464) (by decide +kernel)) rfl)
theorem co_X9_writeNow : Cond.code yX9_writeNow cX9_writeNow 5 (some .boolean) ∈ gU := (gU_mem (List.mem_of_getElem? (i := 1526) (by decide +kernel)) rfl)
theorem co_X9_emptyNow : Cond.code yX9_emptyNow cX9_emptyNow 4 (some .int) ∈ gU := (gU_mem (List.mem_of_getElem? (i := 1566) (by decide +kernel)) rfl)
theorem co_X9_drawn : Cond.code yX9_drawn cX9_drawn 1 (some .int) ∈ gU := (gU_mem (List.mem_of_getElem? (i := 1274) (by decide +kernel)) rfl)
theorem co_X9_maskBy : Cond.code yX9_maskBy cX9_maskBy 4 (some .int) ∈ gU := (gU_mem (List.mem_of_getElem? (i := 1270) (by decide +kernel)) rfl)
theorem co_X9_layFamily : Cond.code yX9_layFamily cX9_layFamily 4 none ∈ gU := (gU_mem (List.mem_of_getElem? (i := 1263) (by decide +kernel)) rfl)
theorem co_X9_rankOf : Cond.code yX9_rankOf cX9_rankOf 7 (some .int) ∈ gU := (gU_mem (List.mem_of_getElem? (i := 1586) (by decide +kernel)) rfl)
theorem co_X9_putAside : Cond.code yX9_putAside cX9_putAside 2 none ∈ gU := (gU_mem (List.mem_of_getElem? (i := 1807) (by decide +kernel)) rfl)
theorem co_X9_bringBack : Cond.code yX9_bringBack cX9_bringBack 2 none ∈ gU := (gU_mem (List.mem_of_getElem? (i := 1812) (by decide +kernel)) rfl)
theorem co_X9_stepAt : Cond.code yX9_stepAt cX9_stepAt 2 (some .int) ∈ gU := (gU_mem (List.mem_of_getElem? (i := 1449) (by decide +kernel)) rfl)
theorem co_X9_keep : Cond.code yX9_keep cX9_keep 3 none ∈ gU := (gU_mem (List.mem_of_getElem? (i := 1460) (by decide +kernel)) rfl)
theorem co_X9_undo : Cond.code yX9_undo cX9_undo 3 (some .int) ∈ gU := (gU_mem (List.mem_of_getElem? (i := 1446) (by decide +kernel)) rfl)
theorem co_X9_ask : Cond.code yX9_ask cX9_ask 2 (some .int) ∈ gU := (gU_mem (List.mem_of_getElem? (i := 1453) (by decide +kernel)) rfl)
theorem co_X9_write : Cond.code yX9_write cX9_write 3 (some .boolean) ∈ gU := (gU_mem (List.mem_of_getElem? (i := 1522) (by decide +kernel)) rfl)
theorem co_X9_pin : Cond.code yX9_pin cX9_pin 3 (some .boolean) ∈ gU := (gU_mem (List.mem_of_getElem? (i := 1530) (by decide +kernel)) rfl)
theorem co_X9_isDirty : Cond.code yX9_isDirty cX9_isDirty 2 (some .boolean) ∈ gU := (gU_mem (List.mem_of_getElem? (i := 1538) (by decide +kernel)) rfl)
theorem co_X9_clean : Cond.code yX9_clean cX9_clean 3 (some .int) ∈ gU := (gU_mem (List.mem_of_getElem? (i := 1534) (by decide +kernel)) rfl)
theorem co_X9_leave : Cond.code yX9_leave cX9_leave 5 (some .int) ∈ gU := (gU_mem (List.mem_of_getElem? (i := 1542) (by decide +kernel)) rfl)
theorem co_X9_cool : Cond.code yX9_cool cX9_cool 3 (some .int) ∈ gU := (gU_mem (List.mem_of_getElem? (i := 1546) (by decide +kernel)) rfl)
theorem co_X9_change : Cond.code yX9_change cX9_change 4 none ∈ gU := (gU_mem (List.mem_of_getElem? (i := 1558) (by decide +kernel)) rfl)
theorem co_X9_trade : Cond.code yX9_trade cX9_trade 4 (some .boolean) ∈ gU := (gU_mem (List.mem_of_getElem? (i := 1550) (by decide +kernel)) rfl)
theorem co_X9_empty : Cond.code yX9_empty cX9_empty 1 (some .int) ∈ gU := (gU_mem (List.mem_of_getElem? (i := 1562) (by decide +kernel)) rfl)
theorem co_X9_shape : Cond.code yX9_shape cX9_shape 5 (some .int) ∈ gU := (gU_mem (List.mem_of_getElem? (i := 1570) (by decide +kernel)) rfl)
theorem co_X9_family : Cond.code yX9_family cX9_family 3 (some .int) ∈ gU := (gU_mem (List.mem_of_getElem? (i := 1582) (by decide +kernel)) rfl)
theorem co_X9_isBit : Cond.code yX9_isBit cX9_isBit 3 (some .boolean) ∈ gU := (gU_mem (List.mem_of_getElem? (i := 1594) (by decide +kernel)) rfl)
theorem co_X9_mask : Cond.code yX9_mask cX9_mask 5 (some .int) ∈ gU := (gU_mem (List.mem_of_getElem? (i := 1590) (by decide +kernel)) rfl)
theorem co_X9_depth : Cond.code yX9_depth cX9_depth 2 (some .boolean) ∈ gU := (gU_mem (List.mem_of_getElem? (i := 1598) (by decide +kernel)) rfl)
theorem co_X9_isTrace : Cond.code yX9_isTrace cX9_isTrace 2 (some .boolean) ∈ gU := (gU_mem (List.mem_of_getElem? (i := 1606) (by decide +kernel)) rfl)
theorem co_X9_lengthOf : Cond.code yX9_lengthOf cX9_lengthOf 2 (some .int) ∈ gU := (gU_mem (List.mem_of_getElem? (i := 1614) (by decide +kernel)) rfl)
theorem co_X9_lineOf : Cond.code yX9_lineOf cX9_lineOf 3 (some .int) ∈ gU := (gU_mem (List.mem_of_getElem? (i := 1622) (by decide +kernel)) rfl)
theorem co_X9_valueIn : Cond.code yX9_valueIn cX9_valueIn 3 (some .int) ∈ gU := (gU_mem (List.mem_of_getElem? (i := 1618) (by decide +kernel)) rfl)
theorem co_X9_runNow : Cond.code yX9_runNow cX9_runNow 4 (some .int) ∈ gU := (gU_mem (List.mem_of_getElem? (i := 1610) (by decide +kernel)) rfl)
theorem co_X9_run : Cond.code yX9_run cX9_run 2 (some .int) ∈ gU := (gU_mem (List.mem_of_getElem? (i := 1602) (by decide +kernel)) rfl)
theorem co_X9_tell : Cond.code yX9_tell cX9_tell 2 (some .boolean) ∈ gU := (gU_mem (List.mem_of_getElem? (i := 1626) (by decide +kernel)) rfl)
theorem co_X9_gatheredAt : Cond.code yX9_gatheredAt cX9_gatheredAt 3 (some .int) ∈ gU := (gU_mem (List.mem_of_getElem? (i := 1634) (by decide +kernel)) rfl)
theorem co_X9_gather : Cond.code yX9_gather cX9_gather 2 (some .int) ∈ gU := (gU_mem (List.mem_of_getElem? (i := 1630) (by decide +kernel)) rfl)
theorem co_X9_scatter : Cond.code yX9_scatter cX9_scatter 4 (some .boolean) ∈ gU := (gU_mem (List.mem_of_getElem? (i := 1638) (by decide +kernel)) rfl)
theorem co_X9_collect : Cond.code yX9_collect cX9_collect 3 (some .int) ∈ gU := (gU_mem (List.mem_of_getElem? (i := 1642) (by decide +kernel)) rfl)
theorem co_X9_gathered : Cond.code yX9_gathered cX9_gathered 2 (some .int) ∈ gU := (gU_mem (List.mem_of_getElem? (i := 1647) (by decide +kernel)) rfl)
theorem co_X9_inSlots : Cond.code yX9_inSlots cX9_inSlots 3 (some .int) ∈ gU := (gU_mem (List.mem_of_getElem? (i := 1655) (by decide +kernel)) rfl)
theorem co_X9_pinned : Cond.code yX9_pinned cX9_pinned 3 (some .int) ∈ gU := (gU_mem (List.mem_of_getElem? (i := 1659) (by decide +kernel)) rfl)
theorem co_X9_is : Cond.code yX9_is cX9_is 2 (some .int) ∈ gU := (gU_mem (List.mem_of_getElem? (i := 1651) (by decide +kernel)) rfl)
theorem co_X9_masked : Cond.code yX9_masked cX9_masked 3 (some .int) ∈ gU := (gU_mem (List.mem_of_getElem? (i := 1663) (by decide +kernel)) rfl)
theorem co_X9_index : Cond.code yX9_index cX9_index 3 (some .int) ∈ gU := (gU_mem (List.mem_of_getElem? (i := 1667) (by decide +kernel)) rfl)
theorem co_X9_slot : Cond.code yX9_slot cX9_slot 5 (some .int) ∈ gU := (gU_mem (List.mem_of_getElem? (i := 1671) (by decide +kernel)) rfl)
theorem co_X9_where : Cond.code yX9_where cX9_where 2 (some .int) ∈ gU := (gU_mem (List.mem_of_getElem? (i := 1675) (by decide +kernel)) rfl)
theorem co_X9_memory : Cond.code yX9_memory cX9_memory 2 (some .int) ∈ gU := (gU_mem (List.mem_of_getElem? (i := 1679) (by decide +kernel)) rfl)
theorem co_X9_valueOf : Cond.code yX9_valueOf cX9_valueOf 2 (some .int) ∈ gU := (gU_mem (List.mem_of_getElem? (i := 1518) (by decide +kernel)) rfl)
theorem co_X9_value : Cond.code yX9_value cX9_value 2 (some .int) ∈ gU := (gU_mem (List.mem_of_getElem? (i := 1683) (by decide +kernel)) rfl)
theorem co_X9_aged : Cond.code yX9_aged cX9_aged 4 (some .int) ∈ gU := (gU_mem (List.mem_of_getElem? (i := 1687) (by decide +kernel)) rfl)
theorem co_X9_book : Cond.code yX9_book cX9_book 3 (some .int) ∈ gU := (gU_mem (List.mem_of_getElem? (i := 1691) (by decide +kernel)) rfl)
theorem co_X9_stale : Cond.code yX9_stale cX9_stale 3 (some .int) ∈ gU := (gU_mem (List.mem_of_getElem? (i := 1695) (by decide +kernel)) rfl)
theorem co_X9_rank : Cond.code yX9_rank cX9_rank 3 (some .int) ∈ gU := (gU_mem (List.mem_of_getElem? (i := 1699) (by decide +kernel)) rfl)
theorem co_X9_togetherIn : Cond.code yX9_togetherIn cX9_togetherIn 5 (some .int) ∈ gU := (gU_mem (List.mem_of_getElem? (i := 1707) (by decide +kernel)) rfl)
theorem co_X9_twins : Cond.code yX9_twins cX9_twins 4 (some .int) ∈ gU := (gU_mem (List.mem_of_getElem? (i := 1703) (by decide +kernel)) rfl)
theorem co_X9_twin : Cond.code yX9_twin cX9_twin 5 (some .int) ∈ gU := (gU_mem (List.mem_of_getElem? (i := 1711) (by decide +kernel)) rfl)
theorem co_X9_together : Cond.code yX9_together cX9_together 3 (some .int) ∈ gU := (gU_mem (List.mem_of_getElem? (i := 1715) (by decide +kernel)) rfl)
theorem co_X9_areTwins : Cond.code yX9_areTwins cX9_areTwins 3 (some .boolean) ∈ gU := (gU_mem (List.mem_of_getElem? (i := 1723) (by decide +kernel)) rfl)
theorem co_X9_pairs : Cond.code yX9_pairs cX9_pairs 5 (some .int) ∈ gU := (gU_mem (List.mem_of_getElem? (i := 1719) (by decide +kernel)) rfl)
theorem co_X9_shares : Cond.code yX9_shares cX9_shares 5 (some .int) ∈ gU := (gU_mem (List.mem_of_getElem? (i := 1727) (by decide +kernel)) rfl)
theorem co_X9_laySpread : Cond.code yX9_laySpread cX9_laySpread 6 none ∈ gU := (gU_mem (List.mem_of_getElem? (i := 1739) (by decide +kernel)) rfl)
theorem co_X9_isStride : Cond.code yX9_isStride cX9_isStride 3 (some .boolean) ∈ gU := (gU_mem (List.mem_of_getElem? (i := 1735) (by decide +kernel)) rfl)
theorem co_X9_spread : Cond.code yX9_spread cX9_spread 5 (some .int) ∈ gU := (gU_mem (List.mem_of_getElem? (i := 1731) (by decide +kernel)) rfl)
theorem co_X9_isEven : Cond.code yX9_isEven cX9_isEven 3 (some .boolean) ∈ gU := (gU_mem (List.mem_of_getElem? (i := 1751) (by decide +kernel)) rfl)
theorem co_X9_evenOf : Cond.code yX9_evenOf cX9_evenOf 4 (some .int) ∈ gU := (gU_mem (List.mem_of_getElem? (i := 1747) (by decide +kernel)) rfl)
theorem co_X9_even : Cond.code yX9_even cX9_even 2 (some .int) ∈ gU := (gU_mem (List.mem_of_getElem? (i := 1743) (by decide +kernel)) rfl)
theorem co_X9_evenAll : Cond.code yX9_evenAll cX9_evenAll 5 (some .int) ∈ gU := (gU_mem (List.mem_of_getElem? (i := 1755) (by decide +kernel)) rfl)
theorem co_X9_scattered : Cond.code yX9_scattered cX9_scattered 6 (some .int) ∈ gU := (gU_mem (List.mem_of_getElem? (i := 1759) (by decide +kernel)) rfl)
theorem co_X9_worst : Cond.code yX9_worst cX9_worst 6 (some .int) ∈ gU := (gU_mem (List.mem_of_getElem? (i := 1763) (by decide +kernel)) rfl)
theorem co_X9_flippedBy : Cond.code yX9_flippedBy cX9_flippedBy 5 (some .int) ∈ gU := (gU_mem (List.mem_of_getElem? (i := 1771) (by decide +kernel)) rfl)
theorem co_X9_flipped : Cond.code yX9_flipped cX9_flipped 4 (some .int) ∈ gU := (gU_mem (List.mem_of_getElem? (i := 1767) (by decide +kernel)) rfl)
theorem co_X9_bestFlip : Cond.code yX9_bestFlip cX9_bestFlip 7 (some .int) ∈ gU := (gU_mem (List.mem_of_getElem? (i := 1775) (by decide +kernel)) rfl)
theorem co_X9_fits : Cond.code yX9_fits cX9_fits 7 (some .boolean) ∈ gU := (gU_mem (List.mem_of_getElem? (i := 1787) (by decide +kernel)) rfl)
theorem co_X9_goOn : Cond.code yX9_goOn cX9_goOn 4 none ∈ gU := (gU_mem (List.mem_of_getElem? (i := 1791) (by decide +kernel)) rfl)
theorem co_X9_layFitted : Cond.code yX9_layFitted cX9_layFitted 2 none ∈ gU := (gU_mem (List.mem_of_getElem? (i := 1783) (by decide +kernel)) rfl)
theorem co_X9_fitting : Cond.code yX9_fitting cX9_fitting 3 (some .int) ∈ gU := (gU_mem (List.mem_of_getElem? (i := 1779) (by decide +kernel)) rfl)
theorem co_X9_room : Cond.code yX9_room cX9_room 7 (some .int) ∈ gU := (gU_mem (List.mem_of_getElem? (i := 1795) (by decide +kernel)) rfl)
theorem co_X9_crowd : Cond.code yX9_crowd cX9_crowd 5 (some .int) ∈ gU := (gU_mem (List.mem_of_getElem? (i := 1799) (by decide +kernel)) rfl)
theorem co_X9_fittingPlainly : Cond.code yX9_fittingPlainly cX9_fittingPlainly 2 (some .int) ∈ gU := (gU_mem (List.mem_of_getElem? (i := 1803) (by decide +kernel)) rfl)
theorem co_X9_pieceOf : Cond.code yX9_pieceOf cX9_pieceOf 6 (some .int) ∈ gU := (gU_mem (List.mem_of_getElem? (i := 1820) (by decide +kernel)) rfl)
theorem co_X9_pieces : Cond.code yX9_pieces cX9_pieces 4 (some .int) ∈ gU := (gU_mem (List.mem_of_getElem? (i := 1816) (by decide +kernel)) rfl)
theorem co_X9_piece : Cond.code yX9_piece cX9_piece 3 (some .int) ∈ gU := (gU_mem (List.mem_of_getElem? (i := 1824) (by decide +kernel)) rfl)
theorem co_X9_reach : Cond.code yX9_reach cX9_reach 3 (some .int) ∈ gU := (gU_mem (List.mem_of_getElem? (i := 1828) (by decide +kernel)) rfl)
theorem co_X9_candidate : Cond.code yX9_candidate cX9_candidate 3 (some .int) ∈ gU := (gU_mem (List.mem_of_getElem? (i := 1832) (by decide +kernel)) rfl)
theorem co_X9_victim : Cond.code yX9_victim cX9_victim 2 (some .int) ∈ gU := (gU_mem (List.mem_of_getElem? (i := 1836) (by decide +kernel)) rfl)
theorem co_X9_moved : Cond.code yX9_moved cX9_moved 5 (some .int) ∈ gU := (gU_mem (List.mem_of_getElem? (i := 1840) (by decide +kernel)) rfl)
theorem co_X9_length : Cond.code yX9_length cX9_length 2 (some .int) ∈ gU := (gU_mem (List.mem_of_getElem? (i := 1844) (by decide +kernel)) rfl)
theorem co_X9_step : Cond.code yX9_step cX9_step 3 (some .int) ∈ gU := (gU_mem (List.mem_of_getElem? (i := 1848) (by decide +kernel)) rfl)
theorem co_X9_latest : Cond.code yX9_latest cX9_latest 4 (some .int) ∈ gU := (gU_mem (List.mem_of_getElem? (i := 1856) (by decide +kernel)) rfl)
theorem co_X9_wide : Cond.code yX9_wide cX9_wide 4 (some .int) ∈ gU := (gU_mem (List.mem_of_getElem? (i := 1852) (by decide +kernel)) rfl)
theorem co_X9_writes : Cond.code yX9_writes cX9_writes 4 (some .int) ∈ gU := (gU_mem (List.mem_of_getElem? (i := 1860) (by decide +kernel)) rfl)
theorem co_X9_working : Cond.code yX9_working cX9_working 7 (some .int) ∈ gU := (gU_mem (List.mem_of_getElem? (i := 1864) (by decide +kernel)) rfl)
theorem co_X9_timesOf : Cond.code yX9_timesOf cX9_timesOf 5 (some .int) ∈ gU := (gU_mem (List.mem_of_getElem? (i := 1872) (by decide +kernel)) rfl)
theorem co_X9_hottest : Cond.code yX9_hottest cX9_hottest 7 (some .int) ∈ gU := (gU_mem (List.mem_of_getElem? (i := 1868) (by decide +kernel)) rfl)
theorem co_X9_hits : Cond.code yX9_hits cX9_hits 3 (some .int) ∈ gU := (gU_mem (List.mem_of_getElem? (i := 1876) (by decide +kernel)) rfl)
theorem co_X9_missesBy : Cond.code yX9_missesBy cX9_missesBy 6 (some .int) ∈ gU := (gU_mem (List.mem_of_getElem? (i := 1884) (by decide +kernel)) rfl)
theorem co_X9_misses : Cond.code yX9_misses cX9_misses 3 (some .int) ∈ gU := (gU_mem (List.mem_of_getElem? (i := 1880) (by decide +kernel)) rfl)
theorem co_X9_sweepNow : Cond.code yX9_sweepNow cX9_sweepNow 8 (some .int) ∈ gU := (gU_mem (List.mem_of_getElem? (i := 1895) (by decide +kernel)) rfl)
theorem co_X9_isSwept : Cond.code yX9_isSwept cX9_isSwept 2 (some .boolean) ∈ gU := (gU_mem (List.mem_of_getElem? (i := 1891) (by decide +kernel)) rfl)
theorem co_X9_sweep : Cond.code yX9_sweep cX9_sweep 5 (some .int) ∈ gU := (gU_mem (List.mem_of_getElem? (i := 1888) (by decide +kernel)) rfl)
theorem co_X9_holds : Cond.code yX9_holds cX9_holds 5 (some .int) ∈ gU := (gU_mem (List.mem_of_getElem? (i := 1899) (by decide +kernel)) rfl)
theorem co_X9_deepest : Cond.code yX9_deepest cX9_deepest 4 (some .int) ∈ gU := (gU_mem (List.mem_of_getElem? (i := 1903) (by decide +kernel)) rfl)
theorem co_X9_suited : Cond.code yX9_suited cX9_suited 2 (some .int) ∈ gU := (gU_mem (List.mem_of_getElem? (i := 1907) (by decide +kernel)) rfl)
theorem co_X9_nextOf : Cond.code yX9_nextOf cX9_nextOf 5 (some .int) ∈ gU := (gU_mem (List.mem_of_getElem? (i := 1923) (by decide +kernel)) rfl)
theorem co_X9_latestOf : Cond.code yX9_latestOf cX9_latestOf 5 (some .int) ∈ gU := (gU_mem (List.mem_of_getElem? (i := 1927) (by decide +kernel)) rfl)
theorem co_X9_isStored : Cond.code yX9_isStored cX9_isStored 3 (some .boolean) ∈ gU := (gU_mem (List.mem_of_getElem? (i := 1919) (by decide +kernel)) rfl)
theorem co_X9_missesWith : Cond.code yX9_missesWith cX9_missesWith 10 (some .int) ∈ gU := (gU_mem (List.mem_of_getElem? (i := 1915) (by decide +kernel)) rfl)
theorem co_X9_ideal : Cond.code yX9_ideal cX9_ideal 2 (some .int) ∈ gU := (gU_mem (List.mem_of_getElem? (i := 1911) (by decide +kernel)) rfl)
theorem co_X9_distance : Cond.code yX9_distance cX9_distance 6 (some .int) ∈ gU := (gU_mem (List.mem_of_getElem? (i := 1931) (by decide +kernel)) rfl)
theorem co_X9_recent : Cond.code yX9_recent cX9_recent 3 (some .int) ∈ gU := (gU_mem (List.mem_of_getElem? (i := 1935) (by decide +kernel)) rfl)
theorem co_X9_conflicts : Cond.code yX9_conflicts cX9_conflicts 2 (some .int) ∈ gU := (gU_mem (List.mem_of_getElem? (i := 1939) (by decide +kernel)) rfl)
theorem co_X9_ratio : Cond.code yX9_ratio cX9_ratio 1 (some .long) ∈ gU := (gU_mem (List.mem_of_getElem? (i := 1943) (by decide +kernel)) rfl)
theorem co_X9_image : Cond.code yX9_image cX9_image 1 (some .int) ∈ gU := (gU_mem (List.mem_of_getElem? (i := 1957) (by decide +kernel)) rfl)
theorem co_X9_back : Cond.code yX9_back cX9_back 1 (some .int) ∈ gU := (gU_mem (List.mem_of_getElem? (i := 1961) (by decide +kernel)) rfl)
theorem co_X9_about : Cond.code yX9_about cX9_about 2 (some .int) ∈ gU := (gU_mem (List.mem_of_getElem? (i := 1965) (by decide +kernel)) rfl)
theorem co_Jxe99ae_isNaN_b9ae7 : Cond.code yJxe99ae_isNaN_b9ae7 cJxe99ae_isNaN_b9ae7 2 (some .boolean) ∈ gU := (gU_mem (List.mem_of_getElem? (i := 1949) (by decide +kernel)) rfl)
theorem co_Jxe99ae_doubleToLongBits_ccdee : Cond.code yJxe99ae_doubleToLongBits_ccdee cJxe99ae_doubleToLongBits_ccdee 2 (some .long) ∈ gU := (gU_mem (List.mem_of_getElem? (i := 1946) (by decide +kernel)) rfl)
theorem co_J6_bitCount_0f7a4 : Cond.code yJ6_bitCount_0f7a4 cJ6_bitCount_0f7a4 1 (some .int) ∈ gU := (gU_mem (List.mem_of_getElem? (i := 647) (by decide +kernel)) rfl)
theorem co_J9_max_7cf53 : Cond.code yJ9_max_7cf53 cJ9_max_7cf53 2 (some .int) ∈ gU := (gU_mem (List.mem_of_getElem? (i := 675) (by decide +kernel)) rfl)
theorem co_J9_min_7cf53 : Cond.code yJ9_min_7cf53 cJ9_min_7cf53 2 (some .int) ∈ gU := (gU_mem (List.mem_of_getElem? (i := 483) (by decide +kernel)) rfl)
theorem co_J7_fill_53178 : Cond.code yJ7_fill_53178 cJ7_fill_53178 4 none ∈ gU := (gU_mem (List.mem_of_getElem? (i := 469) (by decide +kernel)) rfl)
theorem il_X8_85 : gIV RX8 85 yX3_begin 0 := ⟨⟨by decide +kernel, by decide +kernel, by decide +kernel⟩, (gU_mem (List.mem_of_getElem? (i := 454) (by decide +kernel)) rfl), (gU_mem (List.mem_of_getElem? (i := 0) (by decide +kernel)) rfl), (gU_mem (List.mem_of_getElem? (i := 163) (by decide +kernel)) rfl), Or.inr ⟨"SkewedWays", gNL_mem (List.mem_of_getElem? (i := 292) (by decide +kernel)) rfl⟩⟩
theorem il_X3_49 : gIV RX3 49 yX3_setFamily 1 := ⟨⟨by decide +kernel, by decide +kernel, by decide +kernel⟩, (gU_mem (List.mem_of_getElem? (i := 458) (by decide +kernel)) rfl), (gU_mem (List.mem_of_getElem? (i := 1) (by decide +kernel)) rfl), (gU_mem (List.mem_of_getElem? (i := 163) (by decide +kernel)) rfl), Or.inl (gU_mem (List.mem_of_getElem? (i := 456) (by decide +kernel)) rfl)⟩
theorem il_X3_93 : gIS RX3 93 yX8_maskAt 2 := ⟨⟨by decide +kernel, by decide +kernel, by decide +kernel⟩, (gU_mem (List.mem_of_getElem? (i := 461) (by decide +kernel)) rfl), (gU_mem (List.mem_of_getElem? (i := 161) (by decide +kernel)) rfl), Or.inr ⟨"SkewedWays", gNL_mem (List.mem_of_getElem? (i := 300) (by decide +kernel)) rfl⟩⟩
theorem il_X3_96 : gIV RX3 96 yX3_maskOfFamily 3 := ⟨⟨by decide +kernel, by decide +kernel, by decide +kernel⟩, (gU_mem (List.mem_of_getElem? (i := 465) (by decide +kernel)) rfl), (gU_mem (List.mem_of_getElem? (i := 2) (by decide +kernel)) rfl), (gU_mem (List.mem_of_getElem? (i := 163) (by decide +kernel)) rfl), Or.inl (gU_mem (List.mem_of_getElem? (i := 463) (by decide +kernel)) rfl)⟩
theorem il_X3_53 : gIS RX3 53 yJ7_fill_53178 2 := ⟨⟨by decide +kernel, by decide +kernel, by decide +kernel⟩, (gU_mem (List.mem_of_getElem? (i := 468) (by decide +kernel)) rfl), (gU_mem (List.mem_of_getElem? (i := 170) (by decide +kernel)) rfl), Or.inl (gU_mem (List.mem_of_getElem? (i := 467) (by decide +kernel)) rfl)⟩
theorem il_X8_88 : gIV RX8 88 yX6_takeAll 1 := ⟨⟨by decide +kernel, by decide +kernel, by decide +kernel⟩, (gU_mem (List.mem_of_getElem? (i := 472) (by decide +kernel)) rfl), (gU_mem (List.mem_of_getElem? (i := 3) (by decide +kernel)) rfl), (gU_mem (List.mem_of_getElem? (i := 162) (by decide +kernel)) rfl), Or.inr ⟨"SkewedWays", gNL_mem (List.mem_of_getElem? (i := 310) (by decide +kernel)) rfl⟩⟩
theorem il_X6_33 : gIV RX6 33 yX3_takeStore 1 := ⟨⟨by decide +kernel, by decide +kernel, by decide +kernel⟩, (gU_mem (List.mem_of_getElem? (i := 476) (by decide +kernel)) rfl), (gU_mem (List.mem_of_getElem? (i := 4) (by decide +kernel)) rfl), (gU_mem (List.mem_of_getElem? (i := 163) (by decide +kernel)) rfl), Or.inr ⟨"SkewedWays", gNL_mem (List.mem_of_getElem? (i := 314) (by decide +kernel)) rfl⟩⟩
theorem il_X3_65 : gIS RX3 65 yX3_takeRow 2 := ⟨⟨by decide +kernel, by decide +kernel, by decide +kernel⟩, (gU_mem (List.mem_of_getElem? (i := 479) (by decide +kernel)) rfl), (gU_mem (List.mem_of_getElem? (i := 163) (by decide +kernel)) rfl), Or.inl (gU_mem (List.mem_of_getElem? (i := 478) (by decide +kernel)) rfl)⟩
theorem il_X6_47 : gIV RX6 47 yX5_takeTrace 1 := ⟨⟨by decide +kernel, by decide +kernel, by decide +kernel⟩, (gU_mem (List.mem_of_getElem? (i := 489) (by decide +kernel)) rfl), (gU_mem (List.mem_of_getElem? (i := 5) (by decide +kernel)) rfl), (gU_mem (List.mem_of_getElem? (i := 164) (by decide +kernel)) rfl), Or.inr ⟨"SkewedWays", gNL_mem (List.mem_of_getElem? (i := 327) (by decide +kernel)) rfl⟩⟩
theorem il_X8_95 : gIV RX8 95 yX8_feedFour 1 := ⟨⟨by decide +kernel, by decide +kernel, by decide +kernel⟩, (gU_mem (List.mem_of_getElem? (i := 542) (by decide +kernel)) rfl), (gU_mem (List.mem_of_getElem? (i := 6) (by decide +kernel)) rfl), (gU_mem (List.mem_of_getElem? (i := 161) (by decide +kernel)) rfl), Or.inl (gU_mem (List.mem_of_getElem? (i := 540) (by decide +kernel)) rfl)⟩
theorem il_X8_102 : gIV RX8 102 yX0_read 3 := ⟨⟨by decide +kernel, by decide +kernel, by decide +kernel⟩, (gU_mem (List.mem_of_getElem? (i := 554) (by decide +kernel)) rfl), (gU_mem (List.mem_of_getElem? (i := 7) (by decide +kernel)) rfl), (gU_mem (List.mem_of_getElem? (i := 169) (by decide +kernel)) rfl), Or.inr ⟨"SkewedWays", gNL_mem (List.mem_of_getElem? (i := 392) (by decide +kernel)) rfl⟩⟩
theorem il_X0_40 : gIS RX0 40 yX0_isDigit 1 := ⟨⟨by decide +kernel, by decide +kernel, by decide +kernel⟩, (gU_mem (List.mem_of_getElem? (i := 557) (by decide +kernel)) rfl), (gU_mem (List.mem_of_getElem? (i := 169) (by decide +kernel)) rfl), Or.inl (gU_mem (List.mem_of_getElem? (i := 556) (by decide +kernel)) rfl)⟩
theorem il_X0_44 : gIV RX0 44 yX0_takeDigit 2 := ⟨⟨by decide +kernel, by decide +kernel, by decide +kernel⟩, (gU_mem (List.mem_of_getElem? (i := 561) (by decide +kernel)) rfl), (gU_mem (List.mem_of_getElem? (i := 8) (by decide +kernel)) rfl), (gU_mem (List.mem_of_getElem? (i := 169) (by decide +kernel)) rfl), Or.inl (gU_mem (List.mem_of_getElem? (i := 559) (by decide +kernel)) rfl)⟩
theorem il_X0_48 : gIV RX0 48 yX0_endNumber 1 := ⟨⟨by decide +kernel, by decide +kernel, by decide +kernel⟩, (gU_mem (List.mem_of_getElem? (i := 567) (by decide +kernel)) rfl), (gU_mem (List.mem_of_getElem? (i := 9) (by decide +kernel)) rfl), (gU_mem (List.mem_of_getElem? (i := 169) (by decide +kernel)) rfl), Or.inl (gU_mem (List.mem_of_getElem? (i := 565) (by decide +kernel)) rfl)⟩
theorem il_X0_70 : gIV RX0 70 yX0_takeNumber 1 := ⟨⟨by decide +kernel, by decide +kernel, by decide +kernel⟩, (gU_mem (List.mem_of_getElem? (i := 571) (by decide +kernel)) rfl), (gU_mem (List.mem_of_getElem? (i := 10) (by decide +kernel)) rfl), (gU_mem (List.mem_of_getElem? (i := 169) (by decide +kernel)) rfl), Or.inl (gU_mem (List.mem_of_getElem? (i := 569) (by decide +kernel)) rfl)⟩
theorem il_X0_84 : gIV RX0 84 yX0_isWithin 2 := ⟨⟨by decide +kernel, by decide +kernel, by decide +kernel⟩, (gU_mem (List.mem_of_getElem? (i := 575) (by decide +kernel)) rfl), (gU_mem (List.mem_of_getElem? (i := 11) (by decide +kernel)) rfl), (gU_mem (List.mem_of_getElem? (i := 169) (by decide +kernel)) rfl), Or.inl (gU_mem (List.mem_of_getElem? (i := 573) (by decide +kernel)) rfl)⟩
theorem il_X0_77 : gIV RX0 77 yX0_fail 2 := ⟨⟨by decide +kernel, by decide +kernel, by decide +kernel⟩, (gU_mem (List.mem_of_getElem? (i := 579) (by decide +kernel)) rfl), (gU_mem (List.mem_of_getElem? (i := 12) (by decide +kernel)) rfl), (gU_mem (List.mem_of_getElem? (i := 169) (by decide +kernel)) rfl), Or.inl (gU_mem (List.mem_of_getElem? (i := 577) (by decide +kernel)) rfl)⟩
theorem il_X0_91 : gIV RX0 91 yX0_emit 3 := ⟨⟨by decide +kernel, by decide +kernel, by decide +kernel⟩, (gU_mem (List.mem_of_getElem? (i := 583) (by decide +kernel)) rfl), (gU_mem (List.mem_of_getElem? (i := 13) (by decide +kernel)) rfl), (gU_mem (List.mem_of_getElem? (i := 169) (by decide +kernel)) rfl), Or.inl (gU_mem (List.mem_of_getElem? (i := 581) (by decide +kernel)) rfl)⟩
theorem il_X0_105 : gIV RX0 105 yX5_add 2 := ⟨⟨by decide +kernel, by decide +kernel, by decide +kernel⟩, (gU_mem (List.mem_of_getElem? (i := 587) (by decide +kernel)) rfl), (gU_mem (List.mem_of_getElem? (i := 14) (by decide +kernel)) rfl), (gU_mem (List.mem_of_getElem? (i := 164) (by decide +kernel)) rfl), Or.inr ⟨"SkewedWays", gNL_mem (List.mem_of_getElem? (i := 425) (by decide +kernel)) rfl⟩⟩
theorem il_X0_98 : gIV RX0 98 yX0_emitStrides 2 := ⟨⟨by decide +kernel, by decide +kernel, by decide +kernel⟩, (gU_mem (List.mem_of_getElem? (i := 591) (by decide +kernel)) rfl), (gU_mem (List.mem_of_getElem? (i := 15) (by decide +kernel)) rfl), (gU_mem (List.mem_of_getElem? (i := 169) (by decide +kernel)) rfl), Or.inl (gU_mem (List.mem_of_getElem? (i := 589) (by decide +kernel)) rfl)⟩
theorem il_X0_102 : gIV RX0 102 yX0_closeLoop 2 := ⟨⟨by decide +kernel, by decide +kernel, by decide +kernel⟩, (gU_mem (List.mem_of_getElem? (i := 595) (by decide +kernel)) rfl), (gU_mem (List.mem_of_getElem? (i := 16) (by decide +kernel)) rfl), (gU_mem (List.mem_of_getElem? (i := 169) (by decide +kernel)) rfl), Or.inl (gU_mem (List.mem_of_getElem? (i := 593) (by decide +kernel)) rfl)⟩
theorem il_X0_52 : gIV RX0 52 yX0_takeSign 3 := ⟨⟨by decide +kernel, by decide +kernel, by decide +kernel⟩, (gU_mem (List.mem_of_getElem? (i := 599) (by decide +kernel)) rfl), (gU_mem (List.mem_of_getElem? (i := 17) (by decide +kernel)) rfl), (gU_mem (List.mem_of_getElem? (i := 169) (by decide +kernel)) rfl), Or.inl (gU_mem (List.mem_of_getElem? (i := 597) (by decide +kernel)) rfl)⟩
theorem il_X0_73 : gIV RX0 73 yX0_mayItemCome 0 := ⟨⟨by decide +kernel, by decide +kernel, by decide +kernel⟩, (gU_mem (List.mem_of_getElem? (i := 603) (by decide +kernel)) rfl), (gU_mem (List.mem_of_getElem? (i := 18) (by decide +kernel)) rfl), (gU_mem (List.mem_of_getElem? (i := 169) (by decide +kernel)) rfl), Or.inl (gU_mem (List.mem_of_getElem? (i := 601) (by decide +kernel)) rfl)⟩
theorem il_X0_80 : gIV RX0 80 yX0_openLoop 2 := ⟨⟨by decide +kernel, by decide +kernel, by decide +kernel⟩, (gU_mem (List.mem_of_getElem? (i := 607) (by decide +kernel)) rfl), (gU_mem (List.mem_of_getElem? (i := 19) (by decide +kernel)) rfl), (gU_mem (List.mem_of_getElem? (i := 169) (by decide +kernel)) rfl), Or.inl (gU_mem (List.mem_of_getElem? (i := 605) (by decide +kernel)) rfl)⟩
theorem il_X0_56 : gIV RX0 56 yX0_takeEnd 1 := ⟨⟨by decide +kernel, by decide +kernel, by decide +kernel⟩, (gU_mem (List.mem_of_getElem? (i := 611) (by decide +kernel)) rfl), (gU_mem (List.mem_of_getElem? (i := 20) (by decide +kernel)) rfl), (gU_mem (List.mem_of_getElem? (i := 169) (by decide +kernel)) rfl), Or.inl (gU_mem (List.mem_of_getElem? (i := 609) (by decide +kernel)) rfl)⟩
theorem il_X8_116 : gIV RX8 116 yX5_takeTrace 1 := ⟨⟨by decide +kernel, by decide +kernel, by decide +kernel⟩, (gU_mem (List.mem_of_getElem? (i := 489) (by decide +kernel)) rfl), (gU_mem (List.mem_of_getElem? (i := 5) (by decide +kernel)) rfl), (gU_mem (List.mem_of_getElem? (i := 164) (by decide +kernel)) rfl), Or.inr ⟨"SkewedWays", gNL_mem (List.mem_of_getElem? (i := 453) (by decide +kernel)) rfl⟩⟩
theorem il_X8_120 : gIS RX8 120 yX8_isLine 1 := ⟨⟨by decide +kernel, by decide +kernel, by decide +kernel⟩, (gU_mem (List.mem_of_getElem? (i := 623) (by decide +kernel)) rfl), (gU_mem (List.mem_of_getElem? (i := 161) (by decide +kernel)) rfl), Or.inl (gU_mem (List.mem_of_getElem? (i := 622) (by decide +kernel)) rfl)⟩
theorem il_X8_124 : gIV RX8 124 yX6_remember 0 := ⟨⟨by decide +kernel, by decide +kernel, by decide +kernel⟩, (gU_mem (List.mem_of_getElem? (i := 627) (by decide +kernel)) rfl), (gU_mem (List.mem_of_getElem? (i := 21) (by decide +kernel)) rfl), (gU_mem (List.mem_of_getElem? (i := 162) (by decide +kernel)) rfl), Or.inr ⟨"SkewedWays", gNL_mem (List.mem_of_getElem? (i := 465) (by decide +kernel)) rfl⟩⟩
theorem il_X8_127 : gIV RX8 127 yX3_come 2 := ⟨⟨by decide +kernel, by decide +kernel, by decide +kernel⟩, (gU_mem (List.mem_of_getElem? (i := 631) (by decide +kernel)) rfl), (gU_mem (List.mem_of_getElem? (i := 22) (by decide +kernel)) rfl), (gU_mem (List.mem_of_getElem? (i := 163) (by decide +kernel)) rfl), Or.inr ⟨"SkewedWays", gNL_mem (List.mem_of_getElem? (i := 469) (by decide +kernel)) rfl⟩⟩
theorem il_X3_100 : gIV RX3 100 yX3_placeOf 1 := ⟨⟨by decide +kernel, by decide +kernel, by decide +kernel⟩, (gU_mem (List.mem_of_getElem? (i := 635) (by decide +kernel)) rfl), (gU_mem (List.mem_of_getElem? (i := 23) (by decide +kernel)) rfl), (gU_mem (List.mem_of_getElem? (i := 163) (by decide +kernel)) rfl), Or.inl (gU_mem (List.mem_of_getElem? (i := 633) (by decide +kernel)) rfl)⟩
theorem il_X3_90 : gIV RX3 90 yX3_placeIn 2 := ⟨⟨by decide +kernel, by decide +kernel, by decide +kernel⟩, (gU_mem (List.mem_of_getElem? (i := 639) (by decide +kernel)) rfl), (gU_mem (List.mem_of_getElem? (i := 24) (by decide +kernel)) rfl), (gU_mem (List.mem_of_getElem? (i := 163) (by decide +kernel)) rfl), Or.inl (gU_mem (List.mem_of_getElem? (i := 637) (by decide +kernel)) rfl)⟩
theorem il_X3_87 : gIV RX3 87 yX3_indexOf 2 := ⟨⟨by decide +kernel, by decide +kernel, by decide +kernel⟩, (gU_mem (List.mem_of_getElem? (i := 643) (by decide +kernel)) rfl), (gU_mem (List.mem_of_getElem? (i := 25) (by decide +kernel)) rfl), (gU_mem (List.mem_of_getElem? (i := 163) (by decide +kernel)) rfl), Or.inl (gU_mem (List.mem_of_getElem? (i := 641) (by decide +kernel)) rfl)⟩
theorem il_X3_81 : gIS RX3 81 yJ6_bitCount_0f7a4 1 := ⟨⟨by decide +kernel, by decide +kernel, by decide +kernel⟩, (gU_mem (List.mem_of_getElem? (i := 646) (by decide +kernel)) rfl), (gU_mem (List.mem_of_getElem? (i := 175) (by decide +kernel)) rfl), Or.inl (gU_mem (List.mem_of_getElem? (i := 645) (by decide +kernel)) rfl)⟩
theorem il_X3_103 : gIV RX3 103 yX1_look 3 := ⟨⟨by decide +kernel, by decide +kernel, by decide +kernel⟩, (gU_mem (List.mem_of_getElem? (i := 653) (by decide +kernel)) rfl), (gU_mem (List.mem_of_getElem? (i := 26) (by decide +kernel)) rfl), (gU_mem (List.mem_of_getElem? (i := 165) (by decide +kernel)) rfl), Or.inr ⟨"SkewedWays", gNL_mem (List.mem_of_getElem? (i := 491) (by decide +kernel)) rfl⟩⟩
theorem il_X1_35 : gIS RX1 35 yJ7_fill_53178 2 := ⟨⟨by decide +kernel, by decide +kernel, by decide +kernel⟩, (gU_mem (List.mem_of_getElem? (i := 468) (by decide +kernel)) rfl), (gU_mem (List.mem_of_getElem? (i := 170) (by decide +kernel)) rfl), Or.inl (gU_mem (List.mem_of_getElem? (i := 655) (by decide +kernel)) rfl)⟩
theorem il_X1_41 : gIV RX1 41 yX1_addSlotsOf 4 := ⟨⟨by decide +kernel, by decide +kernel, by decide +kernel⟩, (gU_mem (List.mem_of_getElem? (i := 658) (by decide +kernel)) rfl), (gU_mem (List.mem_of_getElem? (i := 27) (by decide +kernel)) rfl), (gU_mem (List.mem_of_getElem? (i := 165) (by decide +kernel)) rfl), Or.inl (gU_mem (List.mem_of_getElem? (i := 656) (by decide +kernel)) rfl)⟩
theorem il_X1_51 : gIV RX1 51 yX3_indexOf 2 := ⟨⟨by decide +kernel, by decide +kernel, by decide +kernel⟩, (gU_mem (List.mem_of_getElem? (i := 643) (by decide +kernel)) rfl), (gU_mem (List.mem_of_getElem? (i := 25) (by decide +kernel)) rfl), (gU_mem (List.mem_of_getElem? (i := 163) (by decide +kernel)) rfl), Or.inr ⟨"SkewedWays", gNL_mem (List.mem_of_getElem? (i := 500) (by decide +kernel)) rfl⟩⟩
theorem il_X3_109 : gIV RX3 109 yX1_choose 1 := ⟨⟨by decide +kernel, by decide +kernel, by decide +kernel⟩, (gU_mem (List.mem_of_getElem? (i := 663) (by decide +kernel)) rfl), (gU_mem (List.mem_of_getElem? (i := 28) (by decide +kernel)) rfl), (gU_mem (List.mem_of_getElem? (i := 165) (by decide +kernel)) rfl), Or.inr ⟨"SkewedWays", gNL_mem (List.mem_of_getElem? (i := 501) (by decide +kernel)) rfl⟩⟩
theorem il_X3_113 : gIV RX3 113 yX3_note 4 := ⟨⟨by decide +kernel, by decide +kernel, by decide +kernel⟩, (gU_mem (List.mem_of_getElem? (i := 667) (by decide +kernel)) rfl), (gU_mem (List.mem_of_getElem? (i := 29) (by decide +kernel)) rfl), (gU_mem (List.mem_of_getElem? (i := 163) (by decide +kernel)) rfl), Or.inl (gU_mem (List.mem_of_getElem? (i := 665) (by decide +kernel)) rfl)⟩
theorem il_X3_120 : gIV RX3 120 yX3_growOlder 1 := ⟨⟨by decide +kernel, by decide +kernel, by decide +kernel⟩, (gU_mem (List.mem_of_getElem? (i := 671) (by decide +kernel)) rfl), (gU_mem (List.mem_of_getElem? (i := 30) (by decide +kernel)) rfl), (gU_mem (List.mem_of_getElem? (i := 163) (by decide +kernel)) rfl), Or.inl (gU_mem (List.mem_of_getElem? (i := 669) (by decide +kernel)) rfl)⟩
theorem il_X3_124 : gIV RX3 124 yX3_bringBack 1 := ⟨⟨by decide +kernel, by decide +kernel, by decide +kernel⟩, (gU_mem (List.mem_of_getElem? (i := 678) (by decide +kernel)) rfl), (gU_mem (List.mem_of_getElem? (i := 31) (by decide +kernel)) rfl), (gU_mem (List.mem_of_getElem? (i := 163) (by decide +kernel)) rfl), Or.inl (gU_mem (List.mem_of_getElem? (i := 676) (by decide +kernel)) rfl)⟩
theorem il_X3_127 : gIV RX3 127 yX3_moveOn 2 := ⟨⟨by decide +kernel, by decide +kernel, by decide +kernel⟩, (gU_mem (List.mem_of_getElem? (i := 682) (by decide +kernel)) rfl), (gU_mem (List.mem_of_getElem? (i := 32) (by decide +kernel)) rfl), (gU_mem (List.mem_of_getElem? (i := 163) (by decide +kernel)) rfl), Or.inl (gU_mem (List.mem_of_getElem? (i := 680) (by decide +kernel)) rfl)⟩
theorem il_X3_147 : gIV RX3 147 yX3_moveLine 2 := ⟨⟨by decide +kernel, by decide +kernel, by decide +kernel⟩, (gU_mem (List.mem_of_getElem? (i := 686) (by decide +kernel)) rfl), (gU_mem (List.mem_of_getElem? (i := 33) (by decide +kernel)) rfl), (gU_mem (List.mem_of_getElem? (i := 163) (by decide +kernel)) rfl), Or.inl (gU_mem (List.mem_of_getElem? (i := 684) (by decide +kernel)) rfl)⟩
theorem il_X3_131 : gIV RX3 131 yX1_topOf 1 := ⟨⟨by decide +kernel, by decide +kernel, by decide +kernel⟩, (gU_mem (List.mem_of_getElem? (i := 690) (by decide +kernel)) rfl), (gU_mem (List.mem_of_getElem? (i := 34) (by decide +kernel)) rfl), (gU_mem (List.mem_of_getElem? (i := 165) (by decide +kernel)) rfl), Or.inr ⟨"SkewedWays", gNL_mem (List.mem_of_getElem? (i := 528) (by decide +kernel)) rfl⟩⟩
theorem il_X3_134 : gIV RX3 134 yX3_settle 2 := ⟨⟨by decide +kernel, by decide +kernel, by decide +kernel⟩, (gU_mem (List.mem_of_getElem? (i := 694) (by decide +kernel)) rfl), (gU_mem (List.mem_of_getElem? (i := 35) (by decide +kernel)) rfl), (gU_mem (List.mem_of_getElem? (i := 163) (by decide +kernel)) rfl), Or.inl (gU_mem (List.mem_of_getElem? (i := 692) (by decide +kernel)) rfl)⟩
theorem il_X8_131 : gIV RX8 131 yX3_valueOf 1 := ⟨⟨by decide +kernel, by decide +kernel, by decide +kernel⟩, (gU_mem (List.mem_of_getElem? (i := 698) (by decide +kernel)) rfl), (gU_mem (List.mem_of_getElem? (i := 36) (by decide +kernel)) rfl), (gU_mem (List.mem_of_getElem? (i := 163) (by decide +kernel)) rfl), Or.inr ⟨"SkewedWays", gNL_mem (List.mem_of_getElem? (i := 536) (by decide +kernel)) rfl⟩⟩
theorem il_X8_135 : gIV RX8 135 yX3_placeOf 1 := ⟨⟨by decide +kernel, by decide +kernel, by decide +kernel⟩, (gU_mem (List.mem_of_getElem? (i := 635) (by decide +kernel)) rfl), (gU_mem (List.mem_of_getElem? (i := 23) (by decide +kernel)) rfl), (gU_mem (List.mem_of_getElem? (i := 163) (by decide +kernel)) rfl), Or.inr ⟨"SkewedWays", gNL_mem (List.mem_of_getElem? (i := 544) (by decide +kernel)) rfl⟩⟩
theorem il_X8_138 : gIV RX8 138 yX3_put 3 := ⟨⟨by decide +kernel, by decide +kernel, by decide +kernel⟩, (gU_mem (List.mem_of_getElem? (i := 707) (by decide +kernel)) rfl), (gU_mem (List.mem_of_getElem? (i := 37) (by decide +kernel)) rfl), (gU_mem (List.mem_of_getElem? (i := 163) (by decide +kernel)) rfl), Or.inr ⟨"SkewedWays", gNL_mem (List.mem_of_getElem? (i := 545) (by decide +kernel)) rfl⟩⟩
theorem il_X8_142 : gIV RX8 142 yX8_placeHeld 1 := ⟨⟨by decide +kernel, by decide +kernel, by decide +kernel⟩, (gU_mem (List.mem_of_getElem? (i := 715) (by decide +kernel)) rfl), (gU_mem (List.mem_of_getElem? (i := 38) (by decide +kernel)) rfl), (gU_mem (List.mem_of_getElem? (i := 161) (by decide +kernel)) rfl), Or.inl (gU_mem (List.mem_of_getElem? (i := 713) (by decide +kernel)) rfl)⟩
theorem il_X8_151 : gIV RX8 151 yX3_bringBack 1 := ⟨⟨by decide +kernel, by decide +kernel, by decide +kernel⟩, (gU_mem (List.mem_of_getElem? (i := 678) (by decide +kernel)) rfl), (gU_mem (List.mem_of_getElem? (i := 31) (by decide +kernel)) rfl), (gU_mem (List.mem_of_getElem? (i := 163) (by decide +kernel)) rfl), Or.inr ⟨"SkewedWays", gNL_mem (List.mem_of_getElem? (i := 561) (by decide +kernel)) rfl⟩⟩
theorem il_X8_157 : gIV RX8 157 yX3_makeEmpty 1 := ⟨⟨by decide +kernel, by decide +kernel, by decide +kernel⟩, (gU_mem (List.mem_of_getElem? (i := 728) (by decide +kernel)) rfl), (gU_mem (List.mem_of_getElem? (i := 39) (by decide +kernel)) rfl), (gU_mem (List.mem_of_getElem? (i := 163) (by decide +kernel)) rfl), Or.inr ⟨"SkewedWays", gNL_mem (List.mem_of_getElem? (i := 566) (by decide +kernel)) rfl⟩⟩
theorem il_X8_160 : gIV RX8 160 yX3_coolAll 0 := ⟨⟨by decide +kernel, by decide +kernel, by decide +kernel⟩, (gU_mem (List.mem_of_getElem? (i := 736) (by decide +kernel)) rfl), (gU_mem (List.mem_of_getElem? (i := 40) (by decide +kernel)) rfl), (gU_mem (List.mem_of_getElem? (i := 163) (by decide +kernel)) rfl), Or.inr ⟨"SkewedWays", gNL_mem (List.mem_of_getElem? (i := 574) (by decide +kernel)) rfl⟩⟩
theorem il_X8_164 : gIV RX8 164 yX8_isWay 1 := ⟨⟨by decide +kernel, by decide +kernel, by decide +kernel⟩, (gU_mem (List.mem_of_getElem? (i := 744) (by decide +kernel)) rfl), (gU_mem (List.mem_of_getElem? (i := 41) (by decide +kernel)) rfl), (gU_mem (List.mem_of_getElem? (i := 161) (by decide +kernel)) rfl), Or.inl (gU_mem (List.mem_of_getElem? (i := 742) (by decide +kernel)) rfl)⟩
theorem il_X8_167 : gIV RX8 167 yX3_tradeWays 2 := ⟨⟨by decide +kernel, by decide +kernel, by decide +kernel⟩, (gU_mem (List.mem_of_getElem? (i := 748) (by decide +kernel)) rfl), (gU_mem (List.mem_of_getElem? (i := 42) (by decide +kernel)) rfl), (gU_mem (List.mem_of_getElem? (i := 163) (by decide +kernel)) rfl), Or.inr ⟨"SkewedWays", gNL_mem (List.mem_of_getElem? (i := 586) (by decide +kernel)) rfl⟩⟩
theorem il_X3_153 : gIS RX3 153 yX3_tradeParts 4 := ⟨⟨by decide +kernel, by decide +kernel, by decide +kernel⟩, (gU_mem (List.mem_of_getElem? (i := 751) (by decide +kernel)) rfl), (gU_mem (List.mem_of_getElem? (i := 163) (by decide +kernel)) rfl), Or.inl (gU_mem (List.mem_of_getElem? (i := 750) (by decide +kernel)) rfl)⟩
theorem il_X8_171 : gIV RX8 171 yX3_emptyAll 0 := ⟨⟨by decide +kernel, by decide +kernel, by decide +kernel⟩, (gU_mem (List.mem_of_getElem? (i := 759) (by decide +kernel)) rfl), (gU_mem (List.mem_of_getElem? (i := 43) (by decide +kernel)) rfl), (gU_mem (List.mem_of_getElem? (i := 163) (by decide +kernel)) rfl), Or.inr ⟨"SkewedWays", gNL_mem (List.mem_of_getElem? (i := 597) (by decide +kernel)) rfl⟩⟩
theorem il_X3_150 : gIV RX3 150 yX3_makeEmpty 1 := ⟨⟨by decide +kernel, by decide +kernel, by decide +kernel⟩, (gU_mem (List.mem_of_getElem? (i := 728) (by decide +kernel)) rfl), (gU_mem (List.mem_of_getElem? (i := 39) (by decide +kernel)) rfl), (gU_mem (List.mem_of_getElem? (i := 163) (by decide +kernel)) rfl), Or.inl (gU_mem (List.mem_of_getElem? (i := 761) (by decide +kernel)) rfl)⟩
theorem il_X8_180 : gIV RX8 180 yX3_setFamily 1 := ⟨⟨by decide +kernel, by decide +kernel, by decide +kernel⟩, (gU_mem (List.mem_of_getElem? (i := 458) (by decide +kernel)) rfl), (gU_mem (List.mem_of_getElem? (i := 1) (by decide +kernel)) rfl), (gU_mem (List.mem_of_getElem? (i := 163) (by decide +kernel)) rfl), Or.inr ⟨"SkewedWays", gNL_mem (List.mem_of_getElem? (i := 606) (by decide +kernel)) rfl⟩⟩
theorem il_X8_183 : gIV RX8 183 yX3_slotsInAll 0 := ⟨⟨by decide +kernel, by decide +kernel, by decide +kernel⟩, (gU_mem (List.mem_of_getElem? (i := 769) (by decide +kernel)) rfl), (gU_mem (List.mem_of_getElem? (i := 44) (by decide +kernel)) rfl), (gU_mem (List.mem_of_getElem? (i := 163) (by decide +kernel)) rfl), Or.inr ⟨"SkewedWays", gNL_mem (List.mem_of_getElem? (i := 607) (by decide +kernel)) rfl⟩⟩
theorem il_X8_186 : gIV RX8 186 yX7_rankOfAll 1 := ⟨⟨by decide +kernel, by decide +kernel, by decide +kernel⟩, (gU_mem (List.mem_of_getElem? (i := 777) (by decide +kernel)) rfl), (gU_mem (List.mem_of_getElem? (i := 45) (by decide +kernel)) rfl), (gU_mem (List.mem_of_getElem? (i := 166) (by decide +kernel)) rfl), Or.inr ⟨"SkewedWays", gNL_mem (List.mem_of_getElem? (i := 615) (by decide +kernel)) rfl⟩⟩
theorem il_X7_24 : gIV RX7 24 yX7_addMasks 3 := ⟨⟨by decide +kernel, by decide +kernel, by decide +kernel⟩, (gU_mem (List.mem_of_getElem? (i := 781) (by decide +kernel)) rfl), (gU_mem (List.mem_of_getElem? (i := 46) (by decide +kernel)) rfl), (gU_mem (List.mem_of_getElem? (i := 166) (by decide +kernel)) rfl), Or.inl (gU_mem (List.mem_of_getElem? (i := 779) (by decide +kernel)) rfl)⟩
theorem il_X7_38 : gIS RX7 38 yX8_maskAt 2 := ⟨⟨by decide +kernel, by decide +kernel, by decide +kernel⟩, (gU_mem (List.mem_of_getElem? (i := 461) (by decide +kernel)) rfl), (gU_mem (List.mem_of_getElem? (i := 161) (by decide +kernel)) rfl), Or.inr ⟨"SkewedWays", gNL_mem (List.mem_of_getElem? (i := 623) (by decide +kernel)) rfl⟩⟩
theorem il_X7_28 : gIV RX7 28 yX7_rankOfRows 1 := ⟨⟨by decide +kernel, by decide +kernel, by decide +kernel⟩, (gU_mem (List.mem_of_getElem? (i := 786) (by decide +kernel)) rfl), (gU_mem (List.mem_of_getElem? (i := 47) (by decide +kernel)) rfl), (gU_mem (List.mem_of_getElem? (i := 166) (by decide +kernel)) rfl), Or.inl (gU_mem (List.mem_of_getElem? (i := 784) (by decide +kernel)) rfl)⟩
theorem il_X7_42 : gIV RX7 42 yX7_clearBelow 2 := ⟨⟨by decide +kernel, by decide +kernel, by decide +kernel⟩, (gU_mem (List.mem_of_getElem? (i := 790) (by decide +kernel)) rfl), (gU_mem (List.mem_of_getElem? (i := 48) (by decide +kernel)) rfl), (gU_mem (List.mem_of_getElem? (i := 166) (by decide +kernel)) rfl), Or.inl (gU_mem (List.mem_of_getElem? (i := 788) (by decide +kernel)) rfl)⟩
theorem il_X8_190 : gIV RX8 190 yX8_isMask 2 := ⟨⟨by decide +kernel, by decide +kernel, by decide +kernel⟩, (gU_mem (List.mem_of_getElem? (i := 798) (by decide +kernel)) rfl), (gU_mem (List.mem_of_getElem? (i := 49) (by decide +kernel)) rfl), (gU_mem (List.mem_of_getElem? (i := 161) (by decide +kernel)) rfl), Or.inl (gU_mem (List.mem_of_getElem? (i := 796) (by decide +kernel)) rfl)⟩
theorem il_X8_197 : gIS RX8 197 yX8_maskAt 2 := ⟨⟨by decide +kernel, by decide +kernel, by decide +kernel⟩, (gU_mem (List.mem_of_getElem? (i := 461) (by decide +kernel)) rfl), (gU_mem (List.mem_of_getElem? (i := 161) (by decide +kernel)) rfl), Or.inl (gU_mem (List.mem_of_getElem? (i := 800) (by decide +kernel)) rfl)⟩
theorem il_X8_201 : gIV RX8 201 yX7_rankOfTwo 3 := ⟨⟨by decide +kernel, by decide +kernel, by decide +kernel⟩, (gU_mem (List.mem_of_getElem? (i := 803) (by decide +kernel)) rfl), (gU_mem (List.mem_of_getElem? (i := 50) (by decide +kernel)) rfl), (gU_mem (List.mem_of_getElem? (i := 166) (by decide +kernel)) rfl), Or.inr ⟨"SkewedWays", gNL_mem (List.mem_of_getElem? (i := 641) (by decide +kernel)) rfl⟩⟩
theorem il_X8_205 : gIS RX8 205 yX8_isDepth 1 := ⟨⟨by decide +kernel, by decide +kernel, by decide +kernel⟩, (gU_mem (List.mem_of_getElem? (i := 810) (by decide +kernel)) rfl), (gU_mem (List.mem_of_getElem? (i := 161) (by decide +kernel)) rfl), Or.inl (gU_mem (List.mem_of_getElem? (i := 809) (by decide +kernel)) rfl)⟩
theorem il_X8_211 : gIV RX8 211 yX8_isTrace 1 := ⟨⟨by decide +kernel, by decide +kernel, by decide +kernel⟩, (gU_mem (List.mem_of_getElem? (i := 818) (by decide +kernel)) rfl), (gU_mem (List.mem_of_getElem? (i := 51) (by decide +kernel)) rfl), (gU_mem (List.mem_of_getElem? (i := 161) (by decide +kernel)) rfl), Or.inl (gU_mem (List.mem_of_getElem? (i := 816) (by decide +kernel)) rfl)⟩
theorem il_X8_214 : gIV RX8 214 yX8_missesOn 2 := ⟨⟨by decide +kernel, by decide +kernel, by decide +kernel⟩, (gU_mem (List.mem_of_getElem? (i := 822) (by decide +kernel)) rfl), (gU_mem (List.mem_of_getElem? (i := 52) (by decide +kernel)) rfl), (gU_mem (List.mem_of_getElem? (i := 161) (by decide +kernel)) rfl), Or.inl (gU_mem (List.mem_of_getElem? (i := 820) (by decide +kernel)) rfl)⟩
theorem il_X8_218 : gIV RX8 218 yX6_takeBack 0 := ⟨⟨by decide +kernel, by decide +kernel, by decide +kernel⟩, (gU_mem (List.mem_of_getElem? (i := 830) (by decide +kernel)) rfl), (gU_mem (List.mem_of_getElem? (i := 53) (by decide +kernel)) rfl), (gU_mem (List.mem_of_getElem? (i := 162) (by decide +kernel)) rfl), Or.inr ⟨"SkewedWays", gNL_mem (List.mem_of_getElem? (i := 668) (by decide +kernel)) rfl⟩⟩
theorem il_X8_224 : gIV RX8 224 yX6_placeInSet 1 := ⟨⟨by decide +kernel, by decide +kernel, by decide +kernel⟩, (gU_mem (List.mem_of_getElem? (i := 842) (by decide +kernel)) rfl), (gU_mem (List.mem_of_getElem? (i := 54) (by decide +kernel)) rfl), (gU_mem (List.mem_of_getElem? (i := 162) (by decide +kernel)) rfl), Or.inr ⟨"SkewedWays", gNL_mem (List.mem_of_getElem? (i := 680) (by decide +kernel)) rfl⟩⟩
theorem il_X8_230 : gIV RX8 230 yX6_addToSet 1 := ⟨⟨by decide +kernel, by decide +kernel, by decide +kernel⟩, (gU_mem (List.mem_of_getElem? (i := 846) (by decide +kernel)) rfl), (gU_mem (List.mem_of_getElem? (i := 55) (by decide +kernel)) rfl), (gU_mem (List.mem_of_getElem? (i := 162) (by decide +kernel)) rfl), Or.inr ⟨"SkewedWays", gNL_mem (List.mem_of_getElem? (i := 684) (by decide +kernel)) rfl⟩⟩
theorem il_X8_233 : gIV RX8 233 yX6_collectFrom 1 := ⟨⟨by decide +kernel, by decide +kernel, by decide +kernel⟩, (gU_mem (List.mem_of_getElem? (i := 854) (by decide +kernel)) rfl), (gU_mem (List.mem_of_getElem? (i := 56) (by decide +kernel)) rfl), (gU_mem (List.mem_of_getElem? (i := 162) (by decide +kernel)) rfl), Or.inr ⟨"SkewedWays", gNL_mem (List.mem_of_getElem? (i := 692) (by decide +kernel)) rfl⟩⟩
theorem il_X6_66 : gIV RX6 66 yX6_placeInSet 1 := ⟨⟨by decide +kernel, by decide +kernel, by decide +kernel⟩, (gU_mem (List.mem_of_getElem? (i := 842) (by decide +kernel)) rfl), (gU_mem (List.mem_of_getElem? (i := 54) (by decide +kernel)) rfl), (gU_mem (List.mem_of_getElem? (i := 162) (by decide +kernel)) rfl), Or.inl (gU_mem (List.mem_of_getElem? (i := 856) (by decide +kernel)) rfl)⟩
theorem il_X6_70 : gIV RX6 70 yX6_addToSet 1 := ⟨⟨by decide +kernel, by decide +kernel, by decide +kernel⟩, (gU_mem (List.mem_of_getElem? (i := 846) (by decide +kernel)) rfl), (gU_mem (List.mem_of_getElem? (i := 55) (by decide +kernel)) rfl), (gU_mem (List.mem_of_getElem? (i := 162) (by decide +kernel)) rfl), Or.inl (gU_mem (List.mem_of_getElem? (i := 857) (by decide +kernel)) rfl)⟩
theorem il_X8_236 : gIV RX8 236 yX6_dropFromSet 1 := ⟨⟨by decide +kernel, by decide +kernel, by decide +kernel⟩, (gU_mem (List.mem_of_getElem? (i := 864) (by decide +kernel)) rfl), (gU_mem (List.mem_of_getElem? (i := 57) (by decide +kernel)) rfl), (gU_mem (List.mem_of_getElem? (i := 162) (by decide +kernel)) rfl), Or.inr ⟨"SkewedWays", gNL_mem (List.mem_of_getElem? (i := 702) (by decide +kernel)) rfl⟩⟩
theorem il_X8_242 : gIV RX8 242 yX3_linesHeld 0 := ⟨⟨by decide +kernel, by decide +kernel, by decide +kernel⟩, (gU_mem (List.mem_of_getElem? (i := 872) (by decide +kernel)) rfl), (gU_mem (List.mem_of_getElem? (i := 58) (by decide +kernel)) rfl), (gU_mem (List.mem_of_getElem? (i := 163) (by decide +kernel)) rfl), Or.inr ⟨"SkewedWays", gNL_mem (List.mem_of_getElem? (i := 710) (by decide +kernel)) rfl⟩⟩
theorem il_X8_245 : gIV RX8 245 yX3_linesPinned 0 := ⟨⟨by decide +kernel, by decide +kernel, by decide +kernel⟩, (gU_mem (List.mem_of_getElem? (i := 876) (by decide +kernel)) rfl), (gU_mem (List.mem_of_getElem? (i := 59) (by decide +kernel)) rfl), (gU_mem (List.mem_of_getElem? (i := 163) (by decide +kernel)) rfl), Or.inr ⟨"SkewedWays", gNL_mem (List.mem_of_getElem? (i := 714) (by decide +kernel)) rfl⟩⟩
theorem il_X8_248 : gIV RX8 248 yX3_indexOf 2 := ⟨⟨by decide +kernel, by decide +kernel, by decide +kernel⟩, (gU_mem (List.mem_of_getElem? (i := 643) (by decide +kernel)) rfl), (gU_mem (List.mem_of_getElem? (i := 25) (by decide +kernel)) rfl), (gU_mem (List.mem_of_getElem? (i := 163) (by decide +kernel)) rfl), Or.inr ⟨"SkewedWays", gNL_mem (List.mem_of_getElem? (i := 726) (by decide +kernel)) rfl⟩⟩
theorem il_X8_251 : gIV RX8 251 yX3_slotsOfWay 0 := ⟨⟨by decide +kernel, by decide +kernel, by decide +kernel⟩, (gU_mem (List.mem_of_getElem? (i := 893) (by decide +kernel)) rfl), (gU_mem (List.mem_of_getElem? (i := 60) (by decide +kernel)) rfl), (gU_mem (List.mem_of_getElem? (i := 163) (by decide +kernel)) rfl), Or.inr ⟨"SkewedWays", gNL_mem (List.mem_of_getElem? (i := 731) (by decide +kernel)) rfl⟩⟩
theorem il_X8_274 : gIV RX8 274 yX3_areTwins 2 := ⟨⟨by decide +kernel, by decide +kernel, by decide +kernel⟩, (gU_mem (List.mem_of_getElem? (i := 930) (by decide +kernel)) rfl), (gU_mem (List.mem_of_getElem? (i := 61) (by decide +kernel)) rfl), (gU_mem (List.mem_of_getElem? (i := 163) (by decide +kernel)) rfl), Or.inr ⟨"SkewedWays", gNL_mem (List.mem_of_getElem? (i := 768) (by decide +kernel)) rfl⟩⟩
theorem il_X8_277 : gIV RX8 277 yX3_waysShared 2 := ⟨⟨by decide +kernel, by decide +kernel, by decide +kernel⟩, (gU_mem (List.mem_of_getElem? (i := 942) (by decide +kernel)) rfl), (gU_mem (List.mem_of_getElem? (i := 62) (by decide +kernel)) rfl), (gU_mem (List.mem_of_getElem? (i := 163) (by decide +kernel)) rfl), Or.inr ⟨"SkewedWays", gNL_mem (List.mem_of_getElem? (i := 780) (by decide +kernel)) rfl⟩⟩
theorem il_X8_280 : gIS RX8 280 yX8_isStride 1 := ⟨⟨by decide +kernel, by decide +kernel, by decide +kernel⟩, (gU_mem (List.mem_of_getElem? (i := 949) (by decide +kernel)) rfl), (gU_mem (List.mem_of_getElem? (i := 161) (by decide +kernel)) rfl), Or.inl (gU_mem (List.mem_of_getElem? (i := 948) (by decide +kernel)) rfl)⟩
theorem il_X8_283 : gIS RX8 283 yX8_isSwept 1 := ⟨⟨by decide +kernel, by decide +kernel, by decide +kernel⟩, (gU_mem (List.mem_of_getElem? (i := 952) (by decide +kernel)) rfl), (gU_mem (List.mem_of_getElem? (i := 161) (by decide +kernel)) rfl), Or.inl (gU_mem (List.mem_of_getElem? (i := 951) (by decide +kernel)) rfl)⟩
theorem il_X8_286 : gIV RX8 286 yX7_layOut 4 := ⟨⟨by decide +kernel, by decide +kernel, by decide +kernel⟩, (gU_mem (List.mem_of_getElem? (i := 956) (by decide +kernel)) rfl), (gU_mem (List.mem_of_getElem? (i := 63) (by decide +kernel)) rfl), (gU_mem (List.mem_of_getElem? (i := 166) (by decide +kernel)) rfl), Or.inr ⟨"SkewedWays", gNL_mem (List.mem_of_getElem? (i := 794) (by decide +kernel)) rfl⟩⟩
theorem il_X7_46 : gIS RX7 46 yJ7_fill_53178 2 := ⟨⟨by decide +kernel, by decide +kernel, by decide +kernel⟩, (gU_mem (List.mem_of_getElem? (i := 468) (by decide +kernel)) rfl), (gU_mem (List.mem_of_getElem? (i := 170) (by decide +kernel)) rfl), Or.inl (gU_mem (List.mem_of_getElem? (i := 958) (by decide +kernel)) rfl)⟩
theorem il_X7_52 : gIV RX7 52 yX3_indexOf 2 := ⟨⟨by decide +kernel, by decide +kernel, by decide +kernel⟩, (gU_mem (List.mem_of_getElem? (i := 643) (by decide +kernel)) rfl), (gU_mem (List.mem_of_getElem? (i := 25) (by decide +kernel)) rfl), (gU_mem (List.mem_of_getElem? (i := 163) (by decide +kernel)) rfl), Or.inr ⟨"SkewedWays", gNL_mem (List.mem_of_getElem? (i := 799) (by decide +kernel)) rfl⟩⟩
theorem il_X8_290 : gIV RX8 290 yX7_slotsUsed 0 := ⟨⟨by decide +kernel, by decide +kernel, by decide +kernel⟩, (gU_mem (List.mem_of_getElem? (i := 962) (by decide +kernel)) rfl), (gU_mem (List.mem_of_getElem? (i := 64) (by decide +kernel)) rfl), (gU_mem (List.mem_of_getElem? (i := 166) (by decide +kernel)) rfl), Or.inr ⟨"SkewedWays", gNL_mem (List.mem_of_getElem? (i := 800) (by decide +kernel)) rfl⟩⟩
theorem il_X8_293 : gIV RX8 293 yX7_mostInOne 0 := ⟨⟨by decide +kernel, by decide +kernel, by decide +kernel⟩, (gU_mem (List.mem_of_getElem? (i := 966) (by decide +kernel)) rfl), (gU_mem (List.mem_of_getElem? (i := 65) (by decide +kernel)) rfl), (gU_mem (List.mem_of_getElem? (i := 166) (by decide +kernel)) rfl), Or.inr ⟨"SkewedWays", gNL_mem (List.mem_of_getElem? (i := 804) (by decide +kernel)) rfl⟩⟩
theorem il_X8_296 : gIV RX8 296 yX7_evenStrides 2 := ⟨⟨by decide +kernel, by decide +kernel, by decide +kernel⟩, (gU_mem (List.mem_of_getElem? (i := 975) (by decide +kernel)) rfl), (gU_mem (List.mem_of_getElem? (i := 66) (by decide +kernel)) rfl), (gU_mem (List.mem_of_getElem? (i := 166) (by decide +kernel)) rfl), Or.inr ⟨"SkewedWays", gNL_mem (List.mem_of_getElem? (i := 813) (by decide +kernel)) rfl⟩⟩
theorem il_X7_64 : gIV RX7 64 yX7_isEven 3 := ⟨⟨by decide +kernel, by decide +kernel, by decide +kernel⟩, (gU_mem (List.mem_of_getElem? (i := 979) (by decide +kernel)) rfl), (gU_mem (List.mem_of_getElem? (i := 67) (by decide +kernel)) rfl), (gU_mem (List.mem_of_getElem? (i := 166) (by decide +kernel)) rfl), Or.inl (gU_mem (List.mem_of_getElem? (i := 977) (by decide +kernel)) rfl)⟩
theorem il_X7_60 : gIV RX7 60 yX3_slotsOfWay 0 := ⟨⟨by decide +kernel, by decide +kernel, by decide +kernel⟩, (gU_mem (List.mem_of_getElem? (i := 893) (by decide +kernel)) rfl), (gU_mem (List.mem_of_getElem? (i := 60) (by decide +kernel)) rfl), (gU_mem (List.mem_of_getElem? (i := 163) (by decide +kernel)) rfl), Or.inr ⟨"SkewedWays", gNL_mem (List.mem_of_getElem? (i := 821) (by decide +kernel)) rfl⟩⟩
theorem il_X8_300 : gIV RX8 300 yX7_isEvenInAll 2 := ⟨⟨by decide +kernel, by decide +kernel, by decide +kernel⟩, (gU_mem (List.mem_of_getElem? (i := 988) (by decide +kernel)) rfl), (gU_mem (List.mem_of_getElem? (i := 68) (by decide +kernel)) rfl), (gU_mem (List.mem_of_getElem? (i := 166) (by decide +kernel)) rfl), Or.inr ⟨"SkewedWays", gNL_mem (List.mem_of_getElem? (i := 826) (by decide +kernel)) rfl⟩⟩
theorem il_X8_304 : gIV RX8 304 yX7_slotsScattered 4 := ⟨⟨by decide +kernel, by decide +kernel, by decide +kernel⟩, (gU_mem (List.mem_of_getElem? (i := 996) (by decide +kernel)) rfl), (gU_mem (List.mem_of_getElem? (i := 69) (by decide +kernel)) rfl), (gU_mem (List.mem_of_getElem? (i := 166) (by decide +kernel)) rfl), Or.inr ⟨"SkewedWays", gNL_mem (List.mem_of_getElem? (i := 834) (by decide +kernel)) rfl⟩⟩
theorem il_X7_68 : gIV RX7 68 yX7_slotsUsed 0 := ⟨⟨by decide +kernel, by decide +kernel, by decide +kernel⟩, (gU_mem (List.mem_of_getElem? (i := 962) (by decide +kernel)) rfl), (gU_mem (List.mem_of_getElem? (i := 64) (by decide +kernel)) rfl), (gU_mem (List.mem_of_getElem? (i := 166) (by decide +kernel)) rfl), Or.inl (gU_mem (List.mem_of_getElem? (i := 998) (by decide +kernel)) rfl)⟩
theorem il_X8_308 : gIV RX8 308 yX7_worstStride 3 := ⟨⟨by decide +kernel, by decide +kernel, by decide +kernel⟩, (gU_mem (List.mem_of_getElem? (i := 1005) (by decide +kernel)) rfl), (gU_mem (List.mem_of_getElem? (i := 70) (by decide +kernel)) rfl), (gU_mem (List.mem_of_getElem? (i := 166) (by decide +kernel)) rfl), Or.inr ⟨"SkewedWays", gNL_mem (List.mem_of_getElem? (i := 843) (by decide +kernel)) rfl⟩⟩
theorem il_X7_71 : gIV RX7 71 yX7_layOut 4 := ⟨⟨by decide +kernel, by decide +kernel, by decide +kernel⟩, (gU_mem (List.mem_of_getElem? (i := 956) (by decide +kernel)) rfl), (gU_mem (List.mem_of_getElem? (i := 63) (by decide +kernel)) rfl), (gU_mem (List.mem_of_getElem? (i := 166) (by decide +kernel)) rfl), Or.inl (gU_mem (List.mem_of_getElem? (i := 1007) (by decide +kernel)) rfl)⟩
theorem il_X7_75 : gIV RX7 75 yX7_mostInOne 0 := ⟨⟨by decide +kernel, by decide +kernel, by decide +kernel⟩, (gU_mem (List.mem_of_getElem? (i := 966) (by decide +kernel)) rfl), (gU_mem (List.mem_of_getElem? (i := 65) (by decide +kernel)) rfl), (gU_mem (List.mem_of_getElem? (i := 166) (by decide +kernel)) rfl), Or.inl (gU_mem (List.mem_of_getElem? (i := 1008) (by decide +kernel)) rfl)⟩
theorem il_X8_311 : gIV RX8 311 yX7_evenIfFlipped 4 := ⟨⟨by decide +kernel, by decide +kernel, by decide +kernel⟩, (gU_mem (List.mem_of_getElem? (i := 1015) (by decide +kernel)) rfl), (gU_mem (List.mem_of_getElem? (i := 71) (by decide +kernel)) rfl), (gU_mem (List.mem_of_getElem? (i := 166) (by decide +kernel)) rfl), Or.inr ⟨"SkewedWays", gNL_mem (List.mem_of_getElem? (i := 853) (by decide +kernel)) rfl⟩⟩
theorem il_X7_78 : gIV RX7 78 yX7_evenStrides 2 := ⟨⟨by decide +kernel, by decide +kernel, by decide +kernel⟩, (gU_mem (List.mem_of_getElem? (i := 975) (by decide +kernel)) rfl), (gU_mem (List.mem_of_getElem? (i := 66) (by decide +kernel)) rfl), (gU_mem (List.mem_of_getElem? (i := 166) (by decide +kernel)) rfl), Or.inl (gU_mem (List.mem_of_getElem? (i := 1017) (by decide +kernel)) rfl)⟩
theorem il_X8_314 : gIV RX8 314 yX7_bestFlipOf 2 := ⟨⟨by decide +kernel, by decide +kernel, by decide +kernel⟩, (gU_mem (List.mem_of_getElem? (i := 1024) (by decide +kernel)) rfl), (gU_mem (List.mem_of_getElem? (i := 72) (by decide +kernel)) rfl), (gU_mem (List.mem_of_getElem? (i := 166) (by decide +kernel)) rfl), Or.inr ⟨"SkewedWays", gNL_mem (List.mem_of_getElem? (i := 862) (by decide +kernel)) rfl⟩⟩
theorem il_X7_82 : gIV RX7 82 yX7_evenIfFlipped 4 := ⟨⟨by decide +kernel, by decide +kernel, by decide +kernel⟩, (gU_mem (List.mem_of_getElem? (i := 1015) (by decide +kernel)) rfl), (gU_mem (List.mem_of_getElem? (i := 71) (by decide +kernel)) rfl), (gU_mem (List.mem_of_getElem? (i := 166) (by decide +kernel)) rfl), Or.inl (gU_mem (List.mem_of_getElem? (i := 1026) (by decide +kernel)) rfl)⟩
theorem il_X8_317 : gIV RX8 317 yX8_sweepTrial 3 := ⟨⟨by decide +kernel, by decide +kernel, by decide +kernel⟩, (gU_mem (List.mem_of_getElem? (i := 1033) (by decide +kernel)) rfl), (gU_mem (List.mem_of_getElem? (i := 73) (by decide +kernel)) rfl), (gU_mem (List.mem_of_getElem? (i := 161) (by decide +kernel)) rfl), Or.inl (gU_mem (List.mem_of_getElem? (i := 1031) (by decide +kernel)) rfl)⟩
theorem il_X8_320 : gIV RX8 320 yX3_takeStore 1 := ⟨⟨by decide +kernel, by decide +kernel, by decide +kernel⟩, (gU_mem (List.mem_of_getElem? (i := 476) (by decide +kernel)) rfl), (gU_mem (List.mem_of_getElem? (i := 4) (by decide +kernel)) rfl), (gU_mem (List.mem_of_getElem? (i := 163) (by decide +kernel)) rfl), Or.inr ⟨"SkewedWays", gNL_mem (List.mem_of_getElem? (i := 875) (by decide +kernel)) rfl⟩⟩
theorem il_X8_327 : gIV RX8 327 yX2_clear 0 := ⟨⟨by decide +kernel, by decide +kernel, by decide +kernel⟩, (gU_mem (List.mem_of_getElem? (i := 1054) (by decide +kernel)) rfl), (gU_mem (List.mem_of_getElem? (i := 74) (by decide +kernel)) rfl), (gU_mem (List.mem_of_getElem? (i := 167) (by decide +kernel)) rfl), Or.inr ⟨"SkewedWays", gNL_mem (List.mem_of_getElem? (i := 892) (by decide +kernel)) rfl⟩⟩
theorem il_X2_31 : gIS RX2 31 yJ7_fill_53178 2 := ⟨⟨by decide +kernel, by decide +kernel, by decide +kernel⟩, (gU_mem (List.mem_of_getElem? (i := 468) (by decide +kernel)) rfl), (gU_mem (List.mem_of_getElem? (i := 170) (by decide +kernel)) rfl), Or.inl (gU_mem (List.mem_of_getElem? (i := 1056) (by decide +kernel)) rfl)⟩
theorem il_X8_330 : gIV RX8 330 yX2_admit 2 := ⟨⟨by decide +kernel, by decide +kernel, by decide +kernel⟩, (gU_mem (List.mem_of_getElem? (i := 1059) (by decide +kernel)) rfl), (gU_mem (List.mem_of_getElem? (i := 75) (by decide +kernel)) rfl), (gU_mem (List.mem_of_getElem? (i := 167) (by decide +kernel)) rfl), Or.inr ⟨"SkewedWays", gNL_mem (List.mem_of_getElem? (i := 897) (by decide +kernel)) rfl⟩⟩
theorem il_X2_42 : gIV RX2 42 yX3_placeIn 2 := ⟨⟨by decide +kernel, by decide +kernel, by decide +kernel⟩, (gU_mem (List.mem_of_getElem? (i := 639) (by decide +kernel)) rfl), (gU_mem (List.mem_of_getElem? (i := 24) (by decide +kernel)) rfl), (gU_mem (List.mem_of_getElem? (i := 163) (by decide +kernel)) rfl), Or.inr ⟨"SkewedWays", gNL_mem (List.mem_of_getElem? (i := 901) (by decide +kernel)) rfl⟩⟩
theorem il_X2_46 : gIV RX2 46 yX2_shiftTo 1 := ⟨⟨by decide +kernel, by decide +kernel, by decide +kernel⟩, (gU_mem (List.mem_of_getElem? (i := 1064) (by decide +kernel)) rfl), (gU_mem (List.mem_of_getElem? (i := 76) (by decide +kernel)) rfl), (gU_mem (List.mem_of_getElem? (i := 167) (by decide +kernel)) rfl), Or.inl (gU_mem (List.mem_of_getElem? (i := 1062) (by decide +kernel)) rfl)⟩
theorem il_X8_333 : gIV RX8 333 yX7_crowdedSlot 4 := ⟨⟨by decide +kernel, by decide +kernel, by decide +kernel⟩, (gU_mem (List.mem_of_getElem? (i := 1072) (by decide +kernel)) rfl), (gU_mem (List.mem_of_getElem? (i := 77) (by decide +kernel)) rfl), (gU_mem (List.mem_of_getElem? (i := 166) (by decide +kernel)) rfl), Or.inr ⟨"SkewedWays", gNL_mem (List.mem_of_getElem? (i := 910) (by decide +kernel)) rfl⟩⟩
theorem il_X8_337 : gIV RX8 337 yX7_inSlot 1 := ⟨⟨by decide +kernel, by decide +kernel, by decide +kernel⟩, (gU_mem (List.mem_of_getElem? (i := 1076) (by decide +kernel)) rfl), (gU_mem (List.mem_of_getElem? (i := 78) (by decide +kernel)) rfl), (gU_mem (List.mem_of_getElem? (i := 166) (by decide +kernel)) rfl), Or.inr ⟨"SkewedWays", gNL_mem (List.mem_of_getElem? (i := 914) (by decide +kernel)) rfl⟩⟩
theorem il_X8_343 : gIV RX8 343 yX7_fitPlainly 3 := ⟨⟨by decide +kernel, by decide +kernel, by decide +kernel⟩, (gU_mem (List.mem_of_getElem? (i := 1092) (by decide +kernel)) rfl), (gU_mem (List.mem_of_getElem? (i := 79) (by decide +kernel)) rfl), (gU_mem (List.mem_of_getElem? (i := 166) (by decide +kernel)) rfl), Or.inr ⟨"SkewedWays", gNL_mem (List.mem_of_getElem? (i := 930) (by decide +kernel)) rfl⟩⟩
theorem il_X8_347 : gIV RX8 347 yX8_partIntoPieces 0 := ⟨⟨by decide +kernel, by decide +kernel, by decide +kernel⟩, (gU_mem (List.mem_of_getElem? (i := 1101) (by decide +kernel)) rfl), (gU_mem (List.mem_of_getElem? (i := 80) (by decide +kernel)) rfl), (gU_mem (List.mem_of_getElem? (i := 161) (by decide +kernel)) rfl), Or.inl (gU_mem (List.mem_of_getElem? (i := 1099) (by decide +kernel)) rfl)⟩
theorem il_X8_350 : gIV RX8 350 yX8_joinPieces 2 := ⟨⟨by decide +kernel, by decide +kernel, by decide +kernel⟩, (gU_mem (List.mem_of_getElem? (i := 1105) (by decide +kernel)) rfl), (gU_mem (List.mem_of_getElem? (i := 81) (by decide +kernel)) rfl), (gU_mem (List.mem_of_getElem? (i := 161) (by decide +kernel)) rfl), Or.inl (gU_mem (List.mem_of_getElem? (i := 1103) (by decide +kernel)) rfl)⟩
theorem il_X8_353 : gIV RX8 353 yX1_lookUnlessHeld 3 := ⟨⟨by decide +kernel, by decide +kernel, by decide +kernel⟩, (gU_mem (List.mem_of_getElem? (i := 1117) (by decide +kernel)) rfl), (gU_mem (List.mem_of_getElem? (i := 82) (by decide +kernel)) rfl), (gU_mem (List.mem_of_getElem? (i := 165) (by decide +kernel)) rfl), Or.inr ⟨"SkewedWays", gNL_mem (List.mem_of_getElem? (i := 955) (by decide +kernel)) rfl⟩⟩
theorem il_X1_21 : gIV RX1 21 yX3_placeOf 1 := ⟨⟨by decide +kernel, by decide +kernel, by decide +kernel⟩, (gU_mem (List.mem_of_getElem? (i := 635) (by decide +kernel)) rfl), (gU_mem (List.mem_of_getElem? (i := 23) (by decide +kernel)) rfl), (gU_mem (List.mem_of_getElem? (i := 163) (by decide +kernel)) rfl), Or.inr ⟨"SkewedWays", gNL_mem (List.mem_of_getElem? (i := 959) (by decide +kernel)) rfl⟩⟩
theorem il_X1_27 : gIV RX1 27 yX1_look 3 := ⟨⟨by decide +kernel, by decide +kernel, by decide +kernel⟩, (gU_mem (List.mem_of_getElem? (i := 653) (by decide +kernel)) rfl), (gU_mem (List.mem_of_getElem? (i := 26) (by decide +kernel)) rfl), (gU_mem (List.mem_of_getElem? (i := 165) (by decide +kernel)) rfl), Or.inl (gU_mem (List.mem_of_getElem? (i := 1120) (by decide +kernel)) rfl)⟩
theorem il_X8_363 : gIV RX8 363 yX1_choose 1 := ⟨⟨by decide +kernel, by decide +kernel, by decide +kernel⟩, (gU_mem (List.mem_of_getElem? (i := 663) (by decide +kernel)) rfl), (gU_mem (List.mem_of_getElem? (i := 28) (by decide +kernel)) rfl), (gU_mem (List.mem_of_getElem? (i := 165) (by decide +kernel)) rfl), Or.inr ⟨"SkewedWays", gNL_mem (List.mem_of_getElem? (i := 969) (by decide +kernel)) rfl⟩⟩
theorem il_X8_373 : gIV RX8 373 yX4_mostUnlike 2 := ⟨⟨by decide +kernel, by decide +kernel, by decide +kernel⟩, (gU_mem (List.mem_of_getElem? (i := 1148) (by decide +kernel)) rfl), (gU_mem (List.mem_of_getElem? (i := 83) (by decide +kernel)) rfl), (gU_mem (List.mem_of_getElem? (i := 168) (by decide +kernel)) rfl), Or.inr ⟨"SkewedWays", gNL_mem (List.mem_of_getElem? (i := 986) (by decide +kernel)) rfl⟩⟩
theorem il_X4_24 : gIS RX4 24 yJ7_fill_53178 2 := ⟨⟨by decide +kernel, by decide +kernel, by decide +kernel⟩, (gU_mem (List.mem_of_getElem? (i := 468) (by decide +kernel)) rfl), (gU_mem (List.mem_of_getElem? (i := 170) (by decide +kernel)) rfl), Or.inl (gU_mem (List.mem_of_getElem? (i := 1150) (by decide +kernel)) rfl)⟩
theorem il_X8_377 : gIV RX8 377 yX5_written 0 := ⟨⟨by decide +kernel, by decide +kernel, by decide +kernel⟩, (gU_mem (List.mem_of_getElem? (i := 1158) (by decide +kernel)) rfl), (gU_mem (List.mem_of_getElem? (i := 84) (by decide +kernel)) rfl), (gU_mem (List.mem_of_getElem? (i := 164) (by decide +kernel)) rfl), Or.inr ⟨"SkewedWays", gNL_mem (List.mem_of_getElem? (i := 996) (by decide +kernel)) rfl⟩⟩
theorem il_X8_380 : gIV RX8 380 yX4_hottestLine 1 := ⟨⟨by decide +kernel, by decide +kernel, by decide +kernel⟩, (gU_mem (List.mem_of_getElem? (i := 1170) (by decide +kernel)) rfl), (gU_mem (List.mem_of_getElem? (i := 85) (by decide +kernel)) rfl), (gU_mem (List.mem_of_getElem? (i := 168) (by decide +kernel)) rfl), Or.inr ⟨"SkewedWays", gNL_mem (List.mem_of_getElem? (i := 1008) (by decide +kernel)) rfl⟩⟩
theorem il_X8_387 : gIV RX8 387 yX8_missesForetold 2 := ⟨⟨by decide +kernel, by decide +kernel, by decide +kernel⟩, (gU_mem (List.mem_of_getElem? (i := 1182) (by decide +kernel)) rfl), (gU_mem (List.mem_of_getElem? (i := 86) (by decide +kernel)) rfl), (gU_mem (List.mem_of_getElem? (i := 161) (by decide +kernel)) rfl), Or.inl (gU_mem (List.mem_of_getElem? (i := 1180) (by decide +kernel)) rfl)⟩
theorem il_X8_390 : gIV RX8 390 yX8_missesByFamily 2 := ⟨⟨by decide +kernel, by decide +kernel, by decide +kernel⟩, (gU_mem (List.mem_of_getElem? (i := 1194) (by decide +kernel)) rfl), (gU_mem (List.mem_of_getElem? (i := 87) (by decide +kernel)) rfl), (gU_mem (List.mem_of_getElem? (i := 161) (by decide +kernel)) rfl), Or.inl (gU_mem (List.mem_of_getElem? (i := 1192) (by decide +kernel)) rfl)⟩
theorem il_X8_393 : gIV RX8 393 yX4_fewestMisses 2 := ⟨⟨by decide +kernel, by decide +kernel, by decide +kernel⟩, (gU_mem (List.mem_of_getElem? (i := 1202) (by decide +kernel)) rfl), (gU_mem (List.mem_of_getElem? (i := 88) (by decide +kernel)) rfl), (gU_mem (List.mem_of_getElem? (i := 168) (by decide +kernel)) rfl), Or.inr ⟨"SkewedWays", gNL_mem (List.mem_of_getElem? (i := 1040) (by decide +kernel)) rfl⟩⟩
theorem il_X4_52 : gIV RX4 52 yX4_findNextUses 1 := ⟨⟨by decide +kernel, by decide +kernel, by decide +kernel⟩, (gU_mem (List.mem_of_getElem? (i := 1206) (by decide +kernel)) rfl), (gU_mem (List.mem_of_getElem? (i := 89) (by decide +kernel)) rfl), (gU_mem (List.mem_of_getElem? (i := 168) (by decide +kernel)) rfl), Or.inl (gU_mem (List.mem_of_getElem? (i := 1204) (by decide +kernel)) rfl)⟩
theorem il_X4_48 : gIV RX4 48 yX4_placeHolding 1 := ⟨⟨by decide +kernel, by decide +kernel, by decide +kernel⟩, (gU_mem (List.mem_of_getElem? (i := 1210) (by decide +kernel)) rfl), (gU_mem (List.mem_of_getElem? (i := 90) (by decide +kernel)) rfl), (gU_mem (List.mem_of_getElem? (i := 168) (by decide +kernel)) rfl), Or.inl (gU_mem (List.mem_of_getElem? (i := 1208) (by decide +kernel)) rfl)⟩
theorem il_X4_56 : gIV RX4 56 yX4_placeToFill 1 := ⟨⟨by decide +kernel, by decide +kernel, by decide +kernel⟩, (gU_mem (List.mem_of_getElem? (i := 1214) (by decide +kernel)) rfl), (gU_mem (List.mem_of_getElem? (i := 91) (by decide +kernel)) rfl), (gU_mem (List.mem_of_getElem? (i := 168) (by decide +kernel)) rfl), Or.inl (gU_mem (List.mem_of_getElem? (i := 1212) (by decide +kernel)) rfl)⟩
theorem il_X8_396 : gIV RX8 396 yX4_distanceAt 2 := ⟨⟨by decide +kernel, by decide +kernel, by decide +kernel⟩, (gU_mem (List.mem_of_getElem? (i := 1222) (by decide +kernel)) rfl), (gU_mem (List.mem_of_getElem? (i := 92) (by decide +kernel)) rfl), (gU_mem (List.mem_of_getElem? (i := 168) (by decide +kernel)) rfl), Or.inr ⟨"SkewedWays", gNL_mem (List.mem_of_getElem? (i := 1060) (by decide +kernel)) rfl⟩⟩
theorem il_X8_399 : gIV RX8 399 yX4_missesByRecency 2 := ⟨⟨by decide +kernel, by decide +kernel, by decide +kernel⟩, (gU_mem (List.mem_of_getElem? (i := 1230) (by decide +kernel)) rfl), (gU_mem (List.mem_of_getElem? (i := 93) (by decide +kernel)) rfl), (gU_mem (List.mem_of_getElem? (i := 168) (by decide +kernel)) rfl), Or.inr ⟨"SkewedWays", gNL_mem (List.mem_of_getElem? (i := 1068) (by decide +kernel)) rfl⟩⟩
theorem il_X9_69 : gIV RX9 69 yX9_layFamily 1 := ⟨⟨by decide +kernel, by decide +kernel, by decide +kernel⟩, (gU_mem (List.mem_of_getElem? (i := 1262) (by decide +kernel)) rfl), (gU_mem (List.mem_of_getElem? (i := 94) (by decide +kernel)) rfl), (gU_mem (List.mem_of_getElem? (i := 173) (by decide +kernel)) rfl), Or.inl (gU_mem (List.mem_of_getElem? (i := 1260) (by decide +kernel)) rfl)⟩
theorem il_X9_85 : gIS RX9 85 yX9_maskAt 2 := ⟨⟨by decide +kernel, by decide +kernel, by decide +kernel⟩, (gU_mem (List.mem_of_getElem? (i := 1265) (by decide +kernel)) rfl), (gU_mem (List.mem_of_getElem? (i := 173) (by decide +kernel)) rfl), Or.inl (gU_mem (List.mem_of_getElem? (i := 1264) (by decide +kernel)) rfl)⟩
theorem il_X9_205 : gIV RX9 205 yX9_maskBy 3 := ⟨⟨by decide +kernel, by decide +kernel, by decide +kernel⟩, (gU_mem (List.mem_of_getElem? (i := 1269) (by decide +kernel)) rfl), (gU_mem (List.mem_of_getElem? (i := 95) (by decide +kernel)) rfl), (gU_mem (List.mem_of_getElem? (i := 173) (by decide +kernel)) rfl), Or.inl (gU_mem (List.mem_of_getElem? (i := 1267) (by decide +kernel)) rfl)⟩
theorem il_X9_202 : gIV RX9 202 yX9_drawn 0 := ⟨⟨by decide +kernel, by decide +kernel, by decide +kernel⟩, (gU_mem (List.mem_of_getElem? (i := 1273) (by decide +kernel)) rfl), (gU_mem (List.mem_of_getElem? (i := 96) (by decide +kernel)) rfl), (gU_mem (List.mem_of_getElem? (i := 173) (by decide +kernel)) rfl), Or.inl (gU_mem (List.mem_of_getElem? (i := 1271) (by decide +kernel)) rfl)⟩
theorem il_X9_73 : gIS RX9 73 yX9_copy 2 := ⟨⟨by decide +kernel, by decide +kernel, by decide +kernel⟩, (gU_mem (List.mem_of_getElem? (i := 1276) (by decide +kernel)) rfl), (gU_mem (List.mem_of_getElem? (i := 173) (by decide +kernel)) rfl), Or.inl (gU_mem (List.mem_of_getElem? (i := 1275) (by decide +kernel)) rfl)⟩
theorem il_X9_108 : gIV RX9 108 yX9_four 1 := ⟨⟨by decide +kernel, by decide +kernel, by decide +kernel⟩, (gU_mem (List.mem_of_getElem? (i := 1379) (by decide +kernel)) rfl), (gU_mem (List.mem_of_getElem? (i := 97) (by decide +kernel)) rfl), (gU_mem (List.mem_of_getElem? (i := 173) (by decide +kernel)) rfl), Or.inl (gU_mem (List.mem_of_getElem? (i := 1377) (by decide +kernel)) rfl)⟩
theorem il_X9_77 : gIS RX9 77 yX9_isIn 3 := ⟨⟨by decide +kernel, by decide +kernel, by decide +kernel⟩, (gU_mem (List.mem_of_getElem? (i := 1386) (by decide +kernel)) rfl), (gU_mem (List.mem_of_getElem? (i := 173) (by decide +kernel)) rfl), Or.inl (gU_mem (List.mem_of_getElem? (i := 1385) (by decide +kernel)) rfl)⟩
theorem il_X9_168 : gIV RX9 168 yX9_readText 0 := ⟨⟨by decide +kernel, by decide +kernel, by decide +kernel⟩, (gU_mem (List.mem_of_getElem? (i := 1394) (by decide +kernel)) rfl), (gU_mem (List.mem_of_getElem? (i := 98) (by decide +kernel)) rfl), (gU_mem (List.mem_of_getElem? (i := 173) (by decide +kernel)) rfl), Or.inl (gU_mem (List.mem_of_getElem? (i := 1392) (by decide +kernel)) rfl)⟩
theorem il_X9_140 : gIV RX9 140 yX9_nextToken 0 := ⟨⟨by decide +kernel, by decide +kernel, by decide +kernel⟩, (gU_mem (List.mem_of_getElem? (i := 1398) (by decide +kernel)) rfl), (gU_mem (List.mem_of_getElem? (i := 99) (by decide +kernel)) rfl), (gU_mem (List.mem_of_getElem? (i := 173) (by decide +kernel)) rfl), Or.inl (gU_mem (List.mem_of_getElem? (i := 1396) (by decide +kernel)) rfl)⟩
theorem il_X9_113 : gIV RX9 113 yX9_byteAt 1 := ⟨⟨by decide +kernel, by decide +kernel, by decide +kernel⟩, (gU_mem (List.mem_of_getElem? (i := 1402) (by decide +kernel)) rfl), (gU_mem (List.mem_of_getElem? (i := 100) (by decide +kernel)) rfl), (gU_mem (List.mem_of_getElem? (i := 173) (by decide +kernel)) rfl), Or.inl (gU_mem (List.mem_of_getElem? (i := 1400) (by decide +kernel)) rfl)⟩
theorem il_X9_125 : gIS RX9 125 yX9_isFigure 1 := ⟨⟨by decide +kernel, by decide +kernel, by decide +kernel⟩, (gU_mem (List.mem_of_getElem? (i := 1405) (by decide +kernel)) rfl), (gU_mem (List.mem_of_getElem? (i := 173) (by decide +kernel)) rfl), Or.inl (gU_mem (List.mem_of_getElem? (i := 1404) (by decide +kernel)) rfl)⟩
theorem il_X9_130 : gIS RX9 130 yX9_isSign 1 := ⟨⟨by decide +kernel, by decide +kernel, by decide +kernel⟩, (gU_mem (List.mem_of_getElem? (i := 1409) (by decide +kernel)) rfl), (gU_mem (List.mem_of_getElem? (i := 173) (by decide +kernel)) rfl), Or.inl (gU_mem (List.mem_of_getElem? (i := 1408) (by decide +kernel)) rfl)⟩
theorem il_X9_165 : gIV RX9 165 yX9_item 0 := ⟨⟨by decide +kernel, by decide +kernel, by decide +kernel⟩, (gU_mem (List.mem_of_getElem? (i := 1413) (by decide +kernel)) rfl), (gU_mem (List.mem_of_getElem? (i := 101) (by decide +kernel)) rfl), (gU_mem (List.mem_of_getElem? (i := 173) (by decide +kernel)) rfl), Or.inl (gU_mem (List.mem_of_getElem? (i := 1411) (by decide +kernel)) rfl)⟩
theorem il_X9_153 : gIV RX9 153 yX9_askItem 0 := ⟨⟨by decide +kernel, by decide +kernel, by decide +kernel⟩, (gU_mem (List.mem_of_getElem? (i := 1417) (by decide +kernel)) rfl), (gU_mem (List.mem_of_getElem? (i := 102) (by decide +kernel)) rfl), (gU_mem (List.mem_of_getElem? (i := 173) (by decide +kernel)) rfl), Or.inl (gU_mem (List.mem_of_getElem? (i := 1415) (by decide +kernel)) rfl)⟩
theorem il_X9_143 : gIV RX9 143 yX9_numberIn 2 := ⟨⟨by decide +kernel, by decide +kernel, by decide +kernel⟩, (gU_mem (List.mem_of_getElem? (i := 1421) (by decide +kernel)) rfl), (gU_mem (List.mem_of_getElem? (i := 103) (by decide +kernel)) rfl), (gU_mem (List.mem_of_getElem? (i := 173) (by decide +kernel)) rfl), Or.inl (gU_mem (List.mem_of_getElem? (i := 1419) (by decide +kernel)) rfl)⟩
theorem il_X9_146 : gIV RX9 146 yX9_lay 2 := ⟨⟨by decide +kernel, by decide +kernel, by decide +kernel⟩, (gU_mem (List.mem_of_getElem? (i := 1425) (by decide +kernel)) rfl), (gU_mem (List.mem_of_getElem? (i := 104) (by decide +kernel)) rfl), (gU_mem (List.mem_of_getElem? (i := 173) (by decide +kernel)) rfl), Or.inl (gU_mem (List.mem_of_getElem? (i := 1423) (by decide +kernel)) rfl)⟩
theorem il_X9_156 : gIV RX9 156 yX9_writeItem 0 := ⟨⟨by decide +kernel, by decide +kernel, by decide +kernel⟩, (gU_mem (List.mem_of_getElem? (i := 1429) (by decide +kernel)) rfl), (gU_mem (List.mem_of_getElem? (i := 105) (by decide +kernel)) rfl), (gU_mem (List.mem_of_getElem? (i := 173) (by decide +kernel)) rfl), Or.inl (gU_mem (List.mem_of_getElem? (i := 1427) (by decide +kernel)) rfl)⟩
theorem il_X9_159 : gIV RX9 159 yX9_openItem 0 := ⟨⟨by decide +kernel, by decide +kernel, by decide +kernel⟩, (gU_mem (List.mem_of_getElem? (i := 1433) (by decide +kernel)) rfl), (gU_mem (List.mem_of_getElem? (i := 106) (by decide +kernel)) rfl), (gU_mem (List.mem_of_getElem? (i := 173) (by decide +kernel)) rfl), Or.inl (gU_mem (List.mem_of_getElem? (i := 1431) (by decide +kernel)) rfl)⟩
theorem il_X9_162 : gIV RX9 162 yX9_shutItem 0 := ⟨⟨by decide +kernel, by decide +kernel, by decide +kernel⟩, (gU_mem (List.mem_of_getElem? (i := 1437) (by decide +kernel)) rfl), (gU_mem (List.mem_of_getElem? (i := 107) (by decide +kernel)) rfl), (gU_mem (List.mem_of_getElem? (i := 173) (by decide +kernel)) rfl), Or.inl (gU_mem (List.mem_of_getElem? (i := 1435) (by decide +kernel)) rfl)⟩
theorem il_X9_209 : gIS RX9 209 yX9_stepAt 2 := ⟨⟨by decide +kernel, by decide +kernel, by decide +kernel⟩, (gU_mem (List.mem_of_getElem? (i := 1448) (by decide +kernel)) rfl), (gU_mem (List.mem_of_getElem? (i := 173) (by decide +kernel)) rfl), Or.inl (gU_mem (List.mem_of_getElem? (i := 1447) (by decide +kernel)) rfl)⟩
theorem il_X9_212 : gIS RX9 212 yX9_isLine 1 := ⟨⟨by decide +kernel, by decide +kernel, by decide +kernel⟩, (gU_mem (List.mem_of_getElem? (i := 1455) (by decide +kernel)) rfl), (gU_mem (List.mem_of_getElem? (i := 173) (by decide +kernel)) rfl), Or.inl (gU_mem (List.mem_of_getElem? (i := 1454) (by decide +kernel)) rfl)⟩
theorem il_X9_215 : gIV RX9 215 yX9_keep 0 := ⟨⟨by decide +kernel, by decide +kernel, by decide +kernel⟩, (gU_mem (List.mem_of_getElem? (i := 1459) (by decide +kernel)) rfl), (gU_mem (List.mem_of_getElem? (i := 108) (by decide +kernel)) rfl), (gU_mem (List.mem_of_getElem? (i := 173) (by decide +kernel)) rfl), Or.inl (gU_mem (List.mem_of_getElem? (i := 1457) (by decide +kernel)) rfl)⟩
theorem il_X9_199 : gIV RX9 199 yX9_askNow 1 := ⟨⟨by decide +kernel, by decide +kernel, by decide +kernel⟩, (gU_mem (List.mem_of_getElem? (i := 1463) (by decide +kernel)) rfl), (gU_mem (List.mem_of_getElem? (i := 109) (by decide +kernel)) rfl), (gU_mem (List.mem_of_getElem? (i := 173) (by decide +kernel)) rfl), Or.inl (gU_mem (List.mem_of_getElem? (i := 1461) (by decide +kernel)) rfl)⟩
theorem il_X9_174 : gIV RX9 174 yX9_placeWith 1 := ⟨⟨by decide +kernel, by decide +kernel, by decide +kernel⟩, (gU_mem (List.mem_of_getElem? (i := 1467) (by decide +kernel)) rfl), (gU_mem (List.mem_of_getElem? (i := 110) (by decide +kernel)) rfl), (gU_mem (List.mem_of_getElem? (i := 173) (by decide +kernel)) rfl), Or.inl (gU_mem (List.mem_of_getElem? (i := 1465) (by decide +kernel)) rfl)⟩
theorem il_X9_99 : gIV RX9 99 yX9_placeOf 2 := ⟨⟨by decide +kernel, by decide +kernel, by decide +kernel⟩, (gU_mem (List.mem_of_getElem? (i := 1471) (by decide +kernel)) rfl), (gU_mem (List.mem_of_getElem? (i := 111) (by decide +kernel)) rfl), (gU_mem (List.mem_of_getElem? (i := 173) (by decide +kernel)) rfl), Or.inl (gU_mem (List.mem_of_getElem? (i := 1469) (by decide +kernel)) rfl)⟩
theorem il_X9_93 : gIV RX9 93 yX9_indexOf 2 := ⟨⟨by decide +kernel, by decide +kernel, by decide +kernel⟩, (gU_mem (List.mem_of_getElem? (i := 1475) (by decide +kernel)) rfl), (gU_mem (List.mem_of_getElem? (i := 112) (by decide +kernel)) rfl), (gU_mem (List.mem_of_getElem? (i := 173) (by decide +kernel)) rfl), Or.inl (gU_mem (List.mem_of_getElem? (i := 1473) (by decide +kernel)) rfl)⟩
theorem il_X9_89 : gIS RX9 89 yX9_many 1 := ⟨⟨by decide +kernel, by decide +kernel, by decide +kernel⟩, (gU_mem (List.mem_of_getElem? (i := 1478) (by decide +kernel)) rfl), (gU_mem (List.mem_of_getElem? (i := 173) (by decide +kernel)) rfl), Or.inl (gU_mem (List.mem_of_getElem? (i := 1477) (by decide +kernel)) rfl)⟩
theorem il_X9_102 : gIV RX9 102 yX9_lineAt 1 := ⟨⟨by decide +kernel, by decide +kernel, by decide +kernel⟩, (gU_mem (List.mem_of_getElem? (i := 1482) (by decide +kernel)) rfl), (gU_mem (List.mem_of_getElem? (i := 113) (by decide +kernel)) rfl), (gU_mem (List.mem_of_getElem? (i := 173) (by decide +kernel)) rfl), Or.inl (gU_mem (List.mem_of_getElem? (i := 1480) (by decide +kernel)) rfl)⟩
theorem il_X9_96 : gIS RX9 96 yX9_at 1 := ⟨⟨by decide +kernel, by decide +kernel, by decide +kernel⟩, (gU_mem (List.mem_of_getElem? (i := 1485) (by decide +kernel)) rfl), (gU_mem (List.mem_of_getElem? (i := 173) (by decide +kernel)) rfl), Or.inl (gU_mem (List.mem_of_getElem? (i := 1484) (by decide +kernel)) rfl)⟩
theorem il_X9_193 : gIV RX9 193 yX9_layFound 2 := ⟨⟨by decide +kernel, by decide +kernel, by decide +kernel⟩, (gU_mem (List.mem_of_getElem? (i := 1489) (by decide +kernel)) rfl), (gU_mem (List.mem_of_getElem? (i := 114) (by decide +kernel)) rfl), (gU_mem (List.mem_of_getElem? (i := 173) (by decide +kernel)) rfl), Or.inl (gU_mem (List.mem_of_getElem? (i := 1487) (by decide +kernel)) rfl)⟩
theorem il_X9_177 : gIV RX9 177 yX9_find 2 := ⟨⟨by decide +kernel, by decide +kernel, by decide +kernel⟩, (gU_mem (List.mem_of_getElem? (i := 1493) (by decide +kernel)) rfl), (gU_mem (List.mem_of_getElem? (i := 115) (by decide +kernel)) rfl), (gU_mem (List.mem_of_getElem? (i := 173) (by decide +kernel)) rfl), Or.inl (gU_mem (List.mem_of_getElem? (i := 1491) (by decide +kernel)) rfl)⟩
theorem il_X9_196 : gIV RX9 196 yX9_comeIn 1 := ⟨⟨by decide +kernel, by decide +kernel, by decide +kernel⟩, (gU_mem (List.mem_of_getElem? (i := 1497) (by decide +kernel)) rfl), (gU_mem (List.mem_of_getElem? (i := 116) (by decide +kernel)) rfl), (gU_mem (List.mem_of_getElem? (i := 173) (by decide +kernel)) rfl), Or.inl (gU_mem (List.mem_of_getElem? (i := 1495) (by decide +kernel)) rfl)⟩
theorem il_X9_180 : gIV RX9 180 yX9_taken 0 := ⟨⟨by decide +kernel, by decide +kernel, by decide +kernel⟩, (gU_mem (List.mem_of_getElem? (i := 1501) (by decide +kernel)) rfl), (gU_mem (List.mem_of_getElem? (i := 117) (by decide +kernel)) rfl), (gU_mem (List.mem_of_getElem? (i := 173) (by decide +kernel)) rfl), Or.inl (gU_mem (List.mem_of_getElem? (i := 1499) (by decide +kernel)) rfl)⟩
theorem il_X9_183 : gIV RX9 183 yX9_goesBack 1 := ⟨⟨by decide +kernel, by decide +kernel, by decide +kernel⟩, (gU_mem (List.mem_of_getElem? (i := 1505) (by decide +kernel)) rfl), (gU_mem (List.mem_of_getElem? (i := 118) (by decide +kernel)) rfl), (gU_mem (List.mem_of_getElem? (i := 173) (by decide +kernel)) rfl), Or.inl (gU_mem (List.mem_of_getElem? (i := 1503) (by decide +kernel)) rfl)⟩
theorem il_X9_186 : gIV RX9 186 yX9_layLine 2 := ⟨⟨by decide +kernel, by decide +kernel, by decide +kernel⟩, (gU_mem (List.mem_of_getElem? (i := 1509) (by decide +kernel)) rfl), (gU_mem (List.mem_of_getElem? (i := 119) (by decide +kernel)) rfl), (gU_mem (List.mem_of_getElem? (i := 173) (by decide +kernel)) rfl), Or.inl (gU_mem (List.mem_of_getElem? (i := 1507) (by decide +kernel)) rfl)⟩
theorem il_X9_189 : gIV RX9 189 yX9_writeDown 4 := ⟨⟨by decide +kernel, by decide +kernel, by decide +kernel⟩, (gU_mem (List.mem_of_getElem? (i := 1513) (by decide +kernel)) rfl), (gU_mem (List.mem_of_getElem? (i := 120) (by decide +kernel)) rfl), (gU_mem (List.mem_of_getElem? (i := 173) (by decide +kernel)) rfl), Or.inl (gU_mem (List.mem_of_getElem? (i := 1511) (by decide +kernel)) rfl)⟩
theorem il_X9_218 : gIV RX9 218 yX9_valueOf 1 := ⟨⟨by decide +kernel, by decide +kernel, by decide +kernel⟩, (gU_mem (List.mem_of_getElem? (i := 1517) (by decide +kernel)) rfl), (gU_mem (List.mem_of_getElem? (i := 121) (by decide +kernel)) rfl), (gU_mem (List.mem_of_getElem? (i := 173) (by decide +kernel)) rfl), Or.inl (gU_mem (List.mem_of_getElem? (i := 1515) (by decide +kernel)) rfl)⟩
theorem il_X9_221 : gIV RX9 221 yX9_writeNow 2 := ⟨⟨by decide +kernel, by decide +kernel, by decide +kernel⟩, (gU_mem (List.mem_of_getElem? (i := 1525) (by decide +kernel)) rfl), (gU_mem (List.mem_of_getElem? (i := 122) (by decide +kernel)) rfl), (gU_mem (List.mem_of_getElem? (i := 173) (by decide +kernel)) rfl), Or.inl (gU_mem (List.mem_of_getElem? (i := 1523) (by decide +kernel)) rfl)⟩
theorem il_X9_225 : gIV RX9 225 yX9_isDirty 1 := ⟨⟨by decide +kernel, by decide +kernel, by decide +kernel⟩, (gU_mem (List.mem_of_getElem? (i := 1537) (by decide +kernel)) rfl), (gU_mem (List.mem_of_getElem? (i := 123) (by decide +kernel)) rfl), (gU_mem (List.mem_of_getElem? (i := 173) (by decide +kernel)) rfl), Or.inl (gU_mem (List.mem_of_getElem? (i := 1535) (by decide +kernel)) rfl)⟩
theorem il_X9_228 : gIV RX9 228 yX9_isWay 1 := ⟨⟨by decide +kernel, by decide +kernel, by decide +kernel⟩, (gU_mem (List.mem_of_getElem? (i := 1553) (by decide +kernel)) rfl), (gU_mem (List.mem_of_getElem? (i := 124) (by decide +kernel)) rfl), (gU_mem (List.mem_of_getElem? (i := 173) (by decide +kernel)) rfl), Or.inl (gU_mem (List.mem_of_getElem? (i := 1551) (by decide +kernel)) rfl)⟩
theorem il_X9_231 : gIV RX9 231 yX9_change 2 := ⟨⟨by decide +kernel, by decide +kernel, by decide +kernel⟩, (gU_mem (List.mem_of_getElem? (i := 1557) (by decide +kernel)) rfl), (gU_mem (List.mem_of_getElem? (i := 125) (by decide +kernel)) rfl), (gU_mem (List.mem_of_getElem? (i := 173) (by decide +kernel)) rfl), Or.inl (gU_mem (List.mem_of_getElem? (i := 1555) (by decide +kernel)) rfl)⟩
theorem il_X9_234 : gIV RX9 234 yX9_emptyNow 0 := ⟨⟨by decide +kernel, by decide +kernel, by decide +kernel⟩, (gU_mem (List.mem_of_getElem? (i := 1565) (by decide +kernel)) rfl), (gU_mem (List.mem_of_getElem? (i := 126) (by decide +kernel)) rfl), (gU_mem (List.mem_of_getElem? (i := 173) (by decide +kernel)) rfl), Or.inl (gU_mem (List.mem_of_getElem? (i := 1563) (by decide +kernel)) rfl)⟩
theorem il_X9_237 : gIV RX9 237 yX9_slotsAll 0 := ⟨⟨by decide +kernel, by decide +kernel, by decide +kernel⟩, (gU_mem (List.mem_of_getElem? (i := 1573) (by decide +kernel)) rfl), (gU_mem (List.mem_of_getElem? (i := 127) (by decide +kernel)) rfl), (gU_mem (List.mem_of_getElem? (i := 173) (by decide +kernel)) rfl), Or.inl (gU_mem (List.mem_of_getElem? (i := 1571) (by decide +kernel)) rfl)⟩
theorem il_X9_81 : gIV RX9 81 yX9_slotsOf 0 := ⟨⟨by decide +kernel, by decide +kernel, by decide +kernel⟩, (gU_mem (List.mem_of_getElem? (i := 1577) (by decide +kernel)) rfl), (gU_mem (List.mem_of_getElem? (i := 128) (by decide +kernel)) rfl), (gU_mem (List.mem_of_getElem? (i := 173) (by decide +kernel)) rfl), Or.inl (gU_mem (List.mem_of_getElem? (i := 1575) (by decide +kernel)) rfl)⟩
theorem il_X9_240 : gIV RX9 240 yX9_rankOf 1 := ⟨⟨by decide +kernel, by decide +kernel, by decide +kernel⟩, (gU_mem (List.mem_of_getElem? (i := 1585) (by decide +kernel)) rfl), (gU_mem (List.mem_of_getElem? (i := 129) (by decide +kernel)) rfl), (gU_mem (List.mem_of_getElem? (i := 173) (by decide +kernel)) rfl), Or.inl (gU_mem (List.mem_of_getElem? (i := 1583) (by decide +kernel)) rfl)⟩
theorem il_X9_243 : gIV RX9 243 yX9_isBit 2 := ⟨⟨by decide +kernel, by decide +kernel, by decide +kernel⟩, (gU_mem (List.mem_of_getElem? (i := 1593) (by decide +kernel)) rfl), (gU_mem (List.mem_of_getElem? (i := 130) (by decide +kernel)) rfl), (gU_mem (List.mem_of_getElem? (i := 173) (by decide +kernel)) rfl), Or.inl (gU_mem (List.mem_of_getElem? (i := 1591) (by decide +kernel)) rfl)⟩
theorem il_X9_255 : gIV RX9 255 yX9_isTrace 1 := ⟨⟨by decide +kernel, by decide +kernel, by decide +kernel⟩, (gU_mem (List.mem_of_getElem? (i := 1605) (by decide +kernel)) rfl), (gU_mem (List.mem_of_getElem? (i := 131) (by decide +kernel)) rfl), (gU_mem (List.mem_of_getElem? (i := 173) (by decide +kernel)) rfl), Or.inl (gU_mem (List.mem_of_getElem? (i := 1603) (by decide +kernel)) rfl)⟩
theorem il_X9_258 : gIV RX9 258 yX9_runNow 1 := ⟨⟨by decide +kernel, by decide +kernel, by decide +kernel⟩, (gU_mem (List.mem_of_getElem? (i := 1609) (by decide +kernel)) rfl), (gU_mem (List.mem_of_getElem? (i := 132) (by decide +kernel)) rfl), (gU_mem (List.mem_of_getElem? (i := 173) (by decide +kernel)) rfl), Or.inl (gU_mem (List.mem_of_getElem? (i := 1607) (by decide +kernel)) rfl)⟩
theorem il_X9_246 : gIV RX9 246 yX9_lengthOf 1 := ⟨⟨by decide +kernel, by decide +kernel, by decide +kernel⟩, (gU_mem (List.mem_of_getElem? (i := 1613) (by decide +kernel)) rfl), (gU_mem (List.mem_of_getElem? (i := 133) (by decide +kernel)) rfl), (gU_mem (List.mem_of_getElem? (i := 173) (by decide +kernel)) rfl), Or.inl (gU_mem (List.mem_of_getElem? (i := 1611) (by decide +kernel)) rfl)⟩
theorem il_X9_249 : gIV RX9 249 yX9_valueIn 2 := ⟨⟨by decide +kernel, by decide +kernel, by decide +kernel⟩, (gU_mem (List.mem_of_getElem? (i := 1617) (by decide +kernel)) rfl), (gU_mem (List.mem_of_getElem? (i := 134) (by decide +kernel)) rfl), (gU_mem (List.mem_of_getElem? (i := 173) (by decide +kernel)) rfl), Or.inl (gU_mem (List.mem_of_getElem? (i := 1615) (by decide +kernel)) rfl)⟩
theorem il_X9_252 : gIV RX9 252 yX9_lineOf 2 := ⟨⟨by decide +kernel, by decide +kernel, by decide +kernel⟩, (gU_mem (List.mem_of_getElem? (i := 1621) (by decide +kernel)) rfl), (gU_mem (List.mem_of_getElem? (i := 135) (by decide +kernel)) rfl), (gU_mem (List.mem_of_getElem? (i := 173) (by decide +kernel)) rfl), Or.inl (gU_mem (List.mem_of_getElem? (i := 1619) (by decide +kernel)) rfl)⟩
theorem il_X9_261 : gIV RX9 261 yX9_gatheredAt 1 := ⟨⟨by decide +kernel, by decide +kernel, by decide +kernel⟩, (gU_mem (List.mem_of_getElem? (i := 1633) (by decide +kernel)) rfl), (gU_mem (List.mem_of_getElem? (i := 136) (by decide +kernel)) rfl), (gU_mem (List.mem_of_getElem? (i := 173) (by decide +kernel)) rfl), Or.inl (gU_mem (List.mem_of_getElem? (i := 1631) (by decide +kernel)) rfl)⟩
theorem il_X9_264 : gIV RX9 264 yX9_gather 1 := ⟨⟨by decide +kernel, by decide +kernel, by decide +kernel⟩, (gU_mem (List.mem_of_getElem? (i := 1628) (by decide +kernel)) rfl), (gU_mem (List.mem_of_getElem? (i := 1629) (by decide +kernel)) rfl), (gU_mem (List.mem_of_getElem? (i := 173) (by decide +kernel)) rfl), Or.inl (gU_mem (List.mem_of_getElem? (i := 1643) (by decide +kernel)) rfl)⟩
theorem il_X9_267 : gIV RX9 267 yX9_inSlots 0 := ⟨⟨by decide +kernel, by decide +kernel, by decide +kernel⟩, (gU_mem (List.mem_of_getElem? (i := 1654) (by decide +kernel)) rfl), (gU_mem (List.mem_of_getElem? (i := 137) (by decide +kernel)) rfl), (gU_mem (List.mem_of_getElem? (i := 173) (by decide +kernel)) rfl), Or.inl (gU_mem (List.mem_of_getElem? (i := 1652) (by decide +kernel)) rfl)⟩
theorem il_X9_270 : gIV RX9 270 yX9_pinned 0 := ⟨⟨by decide +kernel, by decide +kernel, by decide +kernel⟩, (gU_mem (List.mem_of_getElem? (i := 1658) (by decide +kernel)) rfl), (gU_mem (List.mem_of_getElem? (i := 138) (by decide +kernel)) rfl), (gU_mem (List.mem_of_getElem? (i := 173) (by decide +kernel)) rfl), Or.inl (gU_mem (List.mem_of_getElem? (i := 1656) (by decide +kernel)) rfl)⟩
theorem il_X9_273 : gIV RX9 273 yX9_togetherIn 2 := ⟨⟨by decide +kernel, by decide +kernel, by decide +kernel⟩, (gU_mem (List.mem_of_getElem? (i := 1706) (by decide +kernel)) rfl), (gU_mem (List.mem_of_getElem? (i := 139) (by decide +kernel)) rfl), (gU_mem (List.mem_of_getElem? (i := 173) (by decide +kernel)) rfl), Or.inl (gU_mem (List.mem_of_getElem? (i := 1704) (by decide +kernel)) rfl)⟩
theorem il_X9_276 : gIV RX9 276 yX9_areTwins 2 := ⟨⟨by decide +kernel, by decide +kernel, by decide +kernel⟩, (gU_mem (List.mem_of_getElem? (i := 1722) (by decide +kernel)) rfl), (gU_mem (List.mem_of_getElem? (i := 140) (by decide +kernel)) rfl), (gU_mem (List.mem_of_getElem? (i := 173) (by decide +kernel)) rfl), Or.inl (gU_mem (List.mem_of_getElem? (i := 1720) (by decide +kernel)) rfl)⟩
theorem il_X9_285 : gIV RX9 285 yX9_isStride 2 := ⟨⟨by decide +kernel, by decide +kernel, by decide +kernel⟩, (gU_mem (List.mem_of_getElem? (i := 1734) (by decide +kernel)) rfl), (gU_mem (List.mem_of_getElem? (i := 141) (by decide +kernel)) rfl), (gU_mem (List.mem_of_getElem? (i := 173) (by decide +kernel)) rfl), Or.inl (gU_mem (List.mem_of_getElem? (i := 1732) (by decide +kernel)) rfl)⟩
theorem il_X9_288 : gIV RX9 288 yX9_laySpread 3 := ⟨⟨by decide +kernel, by decide +kernel, by decide +kernel⟩, (gU_mem (List.mem_of_getElem? (i := 1738) (by decide +kernel)) rfl), (gU_mem (List.mem_of_getElem? (i := 142) (by decide +kernel)) rfl), (gU_mem (List.mem_of_getElem? (i := 173) (by decide +kernel)) rfl), Or.inl (gU_mem (List.mem_of_getElem? (i := 1736) (by decide +kernel)) rfl)⟩
theorem il_X9_295 : gIV RX9 295 yX9_evenOf 1 := ⟨⟨by decide +kernel, by decide +kernel, by decide +kernel⟩, (gU_mem (List.mem_of_getElem? (i := 1746) (by decide +kernel)) rfl), (gU_mem (List.mem_of_getElem? (i := 143) (by decide +kernel)) rfl), (gU_mem (List.mem_of_getElem? (i := 173) (by decide +kernel)) rfl), Or.inl (gU_mem (List.mem_of_getElem? (i := 1744) (by decide +kernel)) rfl)⟩
theorem il_X9_292 : gIV RX9 292 yX9_isEven 2 := ⟨⟨by decide +kernel, by decide +kernel, by decide +kernel⟩, (gU_mem (List.mem_of_getElem? (i := 1750) (by decide +kernel)) rfl), (gU_mem (List.mem_of_getElem? (i := 144) (by decide +kernel)) rfl), (gU_mem (List.mem_of_getElem? (i := 173) (by decide +kernel)) rfl), Or.inl (gU_mem (List.mem_of_getElem? (i := 1748) (by decide +kernel)) rfl)⟩
theorem il_X9_298 : gIV RX9 298 yX9_flippedBy 3 := ⟨⟨by decide +kernel, by decide +kernel, by decide +kernel⟩, (gU_mem (List.mem_of_getElem? (i := 1770) (by decide +kernel)) rfl), (gU_mem (List.mem_of_getElem? (i := 145) (by decide +kernel)) rfl), (gU_mem (List.mem_of_getElem? (i := 173) (by decide +kernel)) rfl), Or.inl (gU_mem (List.mem_of_getElem? (i := 1768) (by decide +kernel)) rfl)⟩
theorem il_X9_304 : gIV RX9 304 yX9_layFitted 0 := ⟨⟨by decide +kernel, by decide +kernel, by decide +kernel⟩, (gU_mem (List.mem_of_getElem? (i := 1782) (by decide +kernel)) rfl), (gU_mem (List.mem_of_getElem? (i := 146) (by decide +kernel)) rfl), (gU_mem (List.mem_of_getElem? (i := 173) (by decide +kernel)) rfl), Or.inl (gU_mem (List.mem_of_getElem? (i := 1780) (by decide +kernel)) rfl)⟩
theorem il_X9_307 : gIV RX9 307 yX9_fits 1 := ⟨⟨by decide +kernel, by decide +kernel, by decide +kernel⟩, (gU_mem (List.mem_of_getElem? (i := 1786) (by decide +kernel)) rfl), (gU_mem (List.mem_of_getElem? (i := 147) (by decide +kernel)) rfl), (gU_mem (List.mem_of_getElem? (i := 173) (by decide +kernel)) rfl), Or.inl (gU_mem (List.mem_of_getElem? (i := 1784) (by decide +kernel)) rfl)⟩
theorem il_X9_301 : gIV RX9 301 yX9_goOn 1 := ⟨⟨by decide +kernel, by decide +kernel, by decide +kernel⟩, (gU_mem (List.mem_of_getElem? (i := 1790) (by decide +kernel)) rfl), (gU_mem (List.mem_of_getElem? (i := 148) (by decide +kernel)) rfl), (gU_mem (List.mem_of_getElem? (i := 173) (by decide +kernel)) rfl), Or.inl (gU_mem (List.mem_of_getElem? (i := 1788) (by decide +kernel)) rfl)⟩
theorem il_X9_310 : gIV RX9 310 yX9_putAside 0 := ⟨⟨by decide +kernel, by decide +kernel, by decide +kernel⟩, (gU_mem (List.mem_of_getElem? (i := 1806) (by decide +kernel)) rfl), (gU_mem (List.mem_of_getElem? (i := 149) (by decide +kernel)) rfl), (gU_mem (List.mem_of_getElem? (i := 173) (by decide +kernel)) rfl), Or.inl (gU_mem (List.mem_of_getElem? (i := 1804) (by decide +kernel)) rfl)⟩
theorem il_X9_313 : gIV RX9 313 yX9_fitting 0 := ⟨⟨by decide +kernel, by decide +kernel, by decide +kernel⟩, (gU_mem (List.mem_of_getElem? (i := 1777) (by decide +kernel)) rfl), (gU_mem (List.mem_of_getElem? (i := 1778) (by decide +kernel)) rfl), (gU_mem (List.mem_of_getElem? (i := 173) (by decide +kernel)) rfl), Or.inl (gU_mem (List.mem_of_getElem? (i := 1808) (by decide +kernel)) rfl)⟩
theorem il_X9_316 : gIV RX9 316 yX9_bringBack 0 := ⟨⟨by decide +kernel, by decide +kernel, by decide +kernel⟩, (gU_mem (List.mem_of_getElem? (i := 1811) (by decide +kernel)) rfl), (gU_mem (List.mem_of_getElem? (i := 150) (by decide +kernel)) rfl), (gU_mem (List.mem_of_getElem? (i := 173) (by decide +kernel)) rfl), Or.inl (gU_mem (List.mem_of_getElem? (i := 1809) (by decide +kernel)) rfl)⟩
theorem il_X9_319 : gIV RX9 319 yX9_pieceOf 1 := ⟨⟨by decide +kernel, by decide +kernel, by decide +kernel⟩, (gU_mem (List.mem_of_getElem? (i := 1819) (by decide +kernel)) rfl), (gU_mem (List.mem_of_getElem? (i := 151) (by decide +kernel)) rfl), (gU_mem (List.mem_of_getElem? (i := 173) (by decide +kernel)) rfl), Or.inl (gU_mem (List.mem_of_getElem? (i := 1817) (by decide +kernel)) rfl)⟩
theorem il_X9_322 : gIV RX9 322 yX9_latest 2 := ⟨⟨by decide +kernel, by decide +kernel, by decide +kernel⟩, (gU_mem (List.mem_of_getElem? (i := 1855) (by decide +kernel)) rfl), (gU_mem (List.mem_of_getElem? (i := 152) (by decide +kernel)) rfl), (gU_mem (List.mem_of_getElem? (i := 173) (by decide +kernel)) rfl), Or.inl (gU_mem (List.mem_of_getElem? (i := 1853) (by decide +kernel)) rfl)⟩
theorem il_X9_325 : gIV RX9 325 yX9_timesOf 2 := ⟨⟨by decide +kernel, by decide +kernel, by decide +kernel⟩, (gU_mem (List.mem_of_getElem? (i := 1871) (by decide +kernel)) rfl), (gU_mem (List.mem_of_getElem? (i := 153) (by decide +kernel)) rfl), (gU_mem (List.mem_of_getElem? (i := 173) (by decide +kernel)) rfl), Or.inl (gU_mem (List.mem_of_getElem? (i := 1869) (by decide +kernel)) rfl)⟩
theorem il_X9_328 : gIV RX9 328 yX9_missesBy 3 := ⟨⟨by decide +kernel, by decide +kernel, by decide +kernel⟩, (gU_mem (List.mem_of_getElem? (i := 1883) (by decide +kernel)) rfl), (gU_mem (List.mem_of_getElem? (i := 154) (by decide +kernel)) rfl), (gU_mem (List.mem_of_getElem? (i := 173) (by decide +kernel)) rfl), Or.inl (gU_mem (List.mem_of_getElem? (i := 1881) (by decide +kernel)) rfl)⟩
theorem il_X9_331 : gIS RX9 331 yX9_isSwept 2 := ⟨⟨by decide +kernel, by decide +kernel, by decide +kernel⟩, (gU_mem (List.mem_of_getElem? (i := 1890) (by decide +kernel)) rfl), (gU_mem (List.mem_of_getElem? (i := 173) (by decide +kernel)) rfl), Or.inl (gU_mem (List.mem_of_getElem? (i := 1889) (by decide +kernel)) rfl)⟩
theorem il_X9_334 : gIV RX9 334 yX9_sweepNow 3 := ⟨⟨by decide +kernel, by decide +kernel, by decide +kernel⟩, (gU_mem (List.mem_of_getElem? (i := 1894) (by decide +kernel)) rfl), (gU_mem (List.mem_of_getElem? (i := 155) (by decide +kernel)) rfl), (gU_mem (List.mem_of_getElem? (i := 173) (by decide +kernel)) rfl), Or.inl (gU_mem (List.mem_of_getElem? (i := 1892) (by decide +kernel)) rfl)⟩
theorem il_X9_349 : gIV RX9 349 yX9_missesWith 3 := ⟨⟨by decide +kernel, by decide +kernel, by decide +kernel⟩, (gU_mem (List.mem_of_getElem? (i := 1914) (by decide +kernel)) rfl), (gU_mem (List.mem_of_getElem? (i := 156) (by decide +kernel)) rfl), (gU_mem (List.mem_of_getElem? (i := 173) (by decide +kernel)) rfl), Or.inl (gU_mem (List.mem_of_getElem? (i := 1912) (by decide +kernel)) rfl)⟩
theorem il_X9_340 : gIV RX9 340 yX9_isStored 1 := ⟨⟨by decide +kernel, by decide +kernel, by decide +kernel⟩, (gU_mem (List.mem_of_getElem? (i := 1918) (by decide +kernel)) rfl), (gU_mem (List.mem_of_getElem? (i := 157) (by decide +kernel)) rfl), (gU_mem (List.mem_of_getElem? (i := 173) (by decide +kernel)) rfl), Or.inl (gU_mem (List.mem_of_getElem? (i := 1916) (by decide +kernel)) rfl)⟩
theorem il_X9_343 : gIV RX9 343 yX9_nextOf 3 := ⟨⟨by decide +kernel, by decide +kernel, by decide +kernel⟩, (gU_mem (List.mem_of_getElem? (i := 1922) (by decide +kernel)) rfl), (gU_mem (List.mem_of_getElem? (i := 158) (by decide +kernel)) rfl), (gU_mem (List.mem_of_getElem? (i := 173) (by decide +kernel)) rfl), Or.inl (gU_mem (List.mem_of_getElem? (i := 1920) (by decide +kernel)) rfl)⟩
theorem il_X9_346 : gIV RX9 346 yX9_latestOf 3 := ⟨⟨by decide +kernel, by decide +kernel, by decide +kernel⟩, (gU_mem (List.mem_of_getElem? (i := 1926) (by decide +kernel)) rfl), (gU_mem (List.mem_of_getElem? (i := 159) (by decide +kernel)) rfl), (gU_mem (List.mem_of_getElem? (i := 173) (by decide +kernel)) rfl), Or.inl (gU_mem (List.mem_of_getElem? (i := 1924) (by decide +kernel)) rfl)⟩
theorem im_X3_69 : Cond.methodLink RX3 69 Lib.Math.min.name ∈ gU ∧ Cond.static Lib.Math.min.name ∈ gU ∧ Cond.initialized "java/lang/Math" ∈ gU ∧ Cond.code Lib.Math.min.name Lib.Math.min.code 2 (some .int) ∈ gU := ⟨(gU_mem (List.mem_of_getElem? (i := 481) (by decide +kernel)) rfl), (gU_mem (List.mem_of_getElem? (i := 482) (by decide +kernel)) rfl), (gU_mem (List.mem_of_getElem? (i := 171) (by decide +kernel)) rfl), (gU_mem (List.mem_of_getElem? (i := 483) (by decide +kernel)) rfl)⟩
theorem ia_X3_75 : Cond.methodLink RX3 75 arraycopyName ∈ gU ∧ Cond.native arraycopyName ∈ gU ∧ Cond.static arraycopyName ∈ gU ∧ Cond.initialized "java/lang/System" ∈ gU := ⟨(gU_mem (List.mem_of_getElem? (i := 484) (by decide +kernel)) rfl), (gU_mem (List.mem_of_getElem? (i := 486) (by decide +kernel)) rfl), (gU_mem (List.mem_of_getElem? (i := 485) (by decide +kernel)) rfl), (gU_mem (List.mem_of_getElem? (i := 172) (by decide +kernel)) rfl)⟩
theorem ia_X5_22 : Cond.methodLink RX5 22 arraycopyName ∈ gU ∧ Cond.native arraycopyName ∈ gU ∧ Cond.static arraycopyName ∈ gU ∧ Cond.initialized "java/lang/System" ∈ gU := ⟨(gU_mem (List.mem_of_getElem? (i := 491) (by decide +kernel)) rfl), (gU_mem (List.mem_of_getElem? (i := 486) (by decide +kernel)) rfl), (gU_mem (List.mem_of_getElem? (i := 485) (by decide +kernel)) rfl), (gU_mem (List.mem_of_getElem? (i := 172) (by decide +kernel)) rfl)⟩
theorem ia_X6_54 : Cond.methodLink RX6 54 arraycopyName ∈ gU ∧ Cond.native arraycopyName ∈ gU ∧ Cond.static arraycopyName ∈ gU ∧ Cond.initialized "java/lang/System" ∈ gU := ⟨(gU_mem (List.mem_of_getElem? (i := 492) (by decide +kernel)) rfl), (gU_mem (List.mem_of_getElem? (i := 486) (by decide +kernel)) rfl), (gU_mem (List.mem_of_getElem? (i := 485) (by decide +kernel)) rfl), (gU_mem (List.mem_of_getElem? (i := 172) (by decide +kernel)) rfl)⟩
theorem im_X0_64 : Cond.methodLink RX0 64 Lib.Math.min.name ∈ gU ∧ Cond.static Lib.Math.min.name ∈ gU ∧ Cond.initialized "java/lang/Math" ∈ gU ∧ Cond.code Lib.Math.min.name Lib.Math.min.code 2 (some .int) ∈ gU := ⟨(gU_mem (List.mem_of_getElem? (i := 564) (by decide +kernel)) rfl), (gU_mem (List.mem_of_getElem? (i := 482) (by decide +kernel)) rfl), (gU_mem (List.mem_of_getElem? (i := 171) (by decide +kernel)) rfl), (gU_mem (List.mem_of_getElem? (i := 483) (by decide +kernel)) rfl)⟩
theorem im_X3_141 : Cond.methodLink RX3 141 Lib.Math.max.name ∈ gU ∧ Cond.static Lib.Math.max.name ∈ gU ∧ Cond.initialized "java/lang/Math" ∈ gU ∧ Cond.code Lib.Math.max.name Lib.Math.max.code 2 (some .int) ∈ gU := ⟨(gU_mem (List.mem_of_getElem? (i := 673) (by decide +kernel)) rfl), (gU_mem (List.mem_of_getElem? (i := 674) (by decide +kernel)) rfl), (gU_mem (List.mem_of_getElem? (i := 171) (by decide +kernel)) rfl), (gU_mem (List.mem_of_getElem? (i := 675) (by decide +kernel)) rfl)⟩
theorem im_X8_266 : Cond.methodLink RX8 266 Lib.Math.min.name ∈ gU ∧ Cond.static Lib.Math.min.name ∈ gU ∧ Cond.initialized "java/lang/Math" ∈ gU ∧ Cond.code Lib.Math.min.name Lib.Math.min.code 2 (some .int) ∈ gU := ⟨(gU_mem (List.mem_of_getElem? (i := 915) (by decide +kernel)) rfl), (gU_mem (List.mem_of_getElem? (i := 482) (by decide +kernel)) rfl), (gU_mem (List.mem_of_getElem? (i := 171) (by decide +kernel)) rfl), (gU_mem (List.mem_of_getElem? (i := 483) (by decide +kernel)) rfl)⟩
theorem im_X7_55 : Cond.methodLink RX7 55 Lib.Math.max.name ∈ gU ∧ Cond.static Lib.Math.max.name ∈ gU ∧ Cond.initialized "java/lang/Math" ∈ gU ∧ Cond.code Lib.Math.max.name Lib.Math.max.code 2 (some .int) ∈ gU := ⟨(gU_mem (List.mem_of_getElem? (i := 968) (by decide +kernel)) rfl), (gU_mem (List.mem_of_getElem? (i := 674) (by decide +kernel)) rfl), (gU_mem (List.mem_of_getElem? (i := 171) (by decide +kernel)) rfl), (gU_mem (List.mem_of_getElem? (i := 675) (by decide +kernel)) rfl)⟩
theorem im_X7_86 : Cond.methodLink RX7 86 Lib.Math.min.name ∈ gU ∧ Cond.static Lib.Math.min.name ∈ gU ∧ Cond.initialized "java/lang/Math" ∈ gU ∧ Cond.code Lib.Math.min.name Lib.Math.min.code 2 (some .int) ∈ gU := ⟨(gU_mem (List.mem_of_getElem? (i := 1094) (by decide +kernel)) rfl), (gU_mem (List.mem_of_getElem? (i := 482) (by decide +kernel)) rfl), (gU_mem (List.mem_of_getElem? (i := 171) (by decide +kernel)) rfl), (gU_mem (List.mem_of_getElem? (i := 483) (by decide +kernel)) rfl)⟩
theorem im_X4_39 : Cond.methodLink RX4 39 Lib.Math.max.name ∈ gU ∧ Cond.static Lib.Math.max.name ∈ gU ∧ Cond.initialized "java/lang/Math" ∈ gU ∧ Cond.code Lib.Math.max.name Lib.Math.max.code 2 (some .int) ∈ gU := ⟨(gU_mem (List.mem_of_getElem? (i := 1151) (by decide +kernel)) rfl), (gU_mem (List.mem_of_getElem? (i := 674) (by decide +kernel)) rfl), (gU_mem (List.mem_of_getElem? (i := 171) (by decide +kernel)) rfl), (gU_mem (List.mem_of_getElem? (i := 675) (by decide +kernel)) rfl)⟩
theorem kc_X0_63 : Cond.constant RX0 63 100000 ∈ gU := (gU_mem (List.mem_of_getElem? (i := 563) (by decide +kernel)) rfl)
theorem kc_J6_265 : Cond.constant RJ6 265 1431655765 ∈ gU := (gU_mem (List.mem_of_getElem? (i := 648) (by decide +kernel)) rfl)
theorem kc_J6_266 : Cond.constant RJ6 266 858993459 ∈ gU := (gU_mem (List.mem_of_getElem? (i := 649) (by decide +kernel)) rfl)
theorem kc_J6_267 : Cond.constant RJ6 267 252645135 ∈ gU := (gU_mem (List.mem_of_getElem? (i := 650) (by decide +kernel)) rfl)
theorem kc_X9_129 : Cond.constant RX9 129 99999 ∈ gU := (gU_mem (List.mem_of_getElem? (i := 1407) (by decide +kernel)) rfl)
end
