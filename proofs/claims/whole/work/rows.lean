section
-- ===== PART A: goes FIRST, ahead of the names: the tables' words, and 'selects' of the private methods out of them =====
/-- a private method of a class that the tables say can be made, by its rows of tables_1 -/
def lw_okq (q : MethodName × Nat) : Prop := (q.1.cls ≠ "java/lang/invoke/MethodHandle" ∧ q.1.cls ≠ "java/lang/invoke/VarHandle") ∧ Cond.instantiable q.1.cls q.2 ∈ tables_1 ∧ Cond.privateMethod q.1 ∈ tables_1 ∧ Cond.instanceMethod q.1 ∈ tables_1
theorem lw_p0 : lw_okq (⟨"OneMark$Board", "addPlace", "(II)I"⟩, 8) := ⟨⟨by decide +kernel, by decide +kernel⟩, List.mem_of_getElem? (i := 25) (by decide +kernel), List.mem_of_getElem? (i := 270) (by decide +kernel), List.mem_of_getElem? (i := 271) (by decide +kernel)⟩
theorem lw_p1 : lw_okq (⟨"OneMark$Board", "giveTo", "(II)V"⟩, 8) := ⟨⟨by decide +kernel, by decide +kernel⟩, List.mem_of_getElem? (i := 25) (by decide +kernel), List.mem_of_getElem? (i := 274) (by decide +kernel), List.mem_of_getElem? (i := 275) (by decide +kernel)⟩
theorem lw_p2 : lw_okq (⟨"OneMark", "isPlace", "(I)Z"⟩, 7) := ⟨⟨by decide +kernel, by decide +kernel⟩, List.mem_of_getElem? (i := 17) (by decide +kernel), List.mem_of_getElem? (i := 282) (by decide +kernel), List.mem_of_getElem? (i := 283) (by decide +kernel)⟩
theorem lw_p3 : lw_okq (⟨"OneMark$Board", "find", "(II)I"⟩, 8) := ⟨⟨by decide +kernel, by decide +kernel⟩, List.mem_of_getElem? (i := 25) (by decide +kernel), List.mem_of_getElem? (i := 289) (by decide +kernel), List.mem_of_getElem? (i := 290) (by decide +kernel)⟩
theorem lw_p4 : lw_okq (⟨"OneMark$Board", "addArrow", "(III)I"⟩, 8) := ⟨⟨by decide +kernel, by decide +kernel⟩, List.mem_of_getElem? (i := 25) (by decide +kernel), List.mem_of_getElem? (i := 293) (by decide +kernel), List.mem_of_getElem? (i := 294) (by decide +kernel)⟩
theorem lw_p5 : lw_okq (⟨"OneMark", "isArrow", "(I)Z"⟩, 7) := ⟨⟨by decide +kernel, by decide +kernel⟩, List.mem_of_getElem? (i := 17) (by decide +kernel), List.mem_of_getElem? (i := 301) (by decide +kernel), List.mem_of_getElem? (i := 302) (by decide +kernel)⟩
theorem lw_p6 : lw_okq (⟨"OneMark$Board", "removeArrow", "(I)V"⟩, 8) := ⟨⟨by decide +kernel, by decide +kernel⟩, List.mem_of_getElem? (i := 25) (by decide +kernel), List.mem_of_getElem? (i := 305) (by decide +kernel), List.mem_of_getElem? (i := 306) (by decide +kernel)⟩
theorem lw_p7 : lw_okq (⟨"OneMark$Board", "ownerOf", "(I)I"⟩, 8) := ⟨⟨by decide +kernel, by decide +kernel⟩, List.mem_of_getElem? (i := 25) (by decide +kernel), List.mem_of_getElem? (i := 313) (by decide +kernel), List.mem_of_getElem? (i := 314) (by decide +kernel)⟩
theorem lw_p8 : lw_okq (⟨"OneMark", "isSet", "(I)Z"⟩, 7) := ⟨⟨by decide +kernel, by decide +kernel⟩, List.mem_of_getElem? (i := 17) (by decide +kernel), List.mem_of_getElem? (i := 331) (by decide +kernel), List.mem_of_getElem? (i := 332) (by decide +kernel)⟩
theorem lw_p9 : lw_okq (⟨"OneMark$Moves", "load", "(LOneMark$Board;II)V"⟩, 7) := ⟨⟨by decide +kernel, by decide +kernel⟩, List.mem_of_getElem? (i := 72) (by decide +kernel), List.mem_of_getElem? (i := 335) (by decide +kernel), List.mem_of_getElem? (i := 336) (by decide +kernel)⟩
theorem lw_p10 : lw_okq (⟨"OneMark$Moves", "clear", "(LOneMark$Board;I)V"⟩, 7) := ⟨⟨by decide +kernel, by decide +kernel⟩, List.mem_of_getElem? (i := 72) (by decide +kernel), List.mem_of_getElem? (i := 339) (by decide +kernel), List.mem_of_getElem? (i := 340) (by decide +kernel)⟩
theorem lw_p11 : lw_okq (⟨"OneMark$Moves", "add", "(III)V"⟩, 7) := ⟨⟨by decide +kernel, by decide +kernel⟩, List.mem_of_getElem? (i := 72) (by decide +kernel), List.mem_of_getElem? (i := 343) (by decide +kernel), List.mem_of_getElem? (i := 344) (by decide +kernel)⟩
theorem lw_p12 : lw_okq (⟨"OneMark$Moves", "addStays", "()V"⟩, 7) := ⟨⟨by decide +kernel, by decide +kernel⟩, List.mem_of_getElem? (i := 72) (by decide +kernel), List.mem_of_getElem? (i := 347) (by decide +kernel), List.mem_of_getElem? (i := 348) (by decide +kernel)⟩
theorem lw_p13 : lw_okq (⟨"OneMark$Moves", "everywhere", "()I"⟩, 7) := ⟨⟨by decide +kernel, by decide +kernel⟩, List.mem_of_getElem? (i := 72) (by decide +kernel), List.mem_of_getElem? (i := 351) (by decide +kernel), List.mem_of_getElem? (i := 352) (by decide +kernel)⟩
theorem lw_p14 : lw_okq (⟨"OneMark$Moves", "attracted", "(III)I"⟩, 7) := ⟨⟨by decide +kernel, by decide +kernel⟩, List.mem_of_getElem? (i := 72) (by decide +kernel), List.mem_of_getElem? (i := 355) (by decide +kernel), List.mem_of_getElem? (i := 356) (by decide +kernel)⟩
theorem lw_p15 : lw_okq (⟨"OneMark$Moves", "oneMoveFrom", "(III)I"⟩, 7) := ⟨⟨by decide +kernel, by decide +kernel⟩, List.mem_of_getElem? (i := 72) (by decide +kernel), List.mem_of_getElem? (i := 359) (by decide +kernel), List.mem_of_getElem? (i := 360) (by decide +kernel)⟩
def lw_privs_1 : List (MethodName × Nat) := [(⟨"OneMark$Board", "addPlace", "(II)I"⟩, 8), (⟨"OneMark$Board", "giveTo", "(II)V"⟩, 8), (⟨"OneMark", "isPlace", "(I)Z"⟩, 7), (⟨"OneMark$Board", "find", "(II)I"⟩, 8), (⟨"OneMark$Board", "addArrow", "(III)I"⟩, 8), (⟨"OneMark", "isArrow", "(I)Z"⟩, 7), (⟨"OneMark$Board", "removeArrow", "(I)V"⟩, 8), (⟨"OneMark$Board", "ownerOf", "(I)I"⟩, 8), (⟨"OneMark", "isSet", "(I)Z"⟩, 7), (⟨"OneMark$Moves", "load", "(LOneMark$Board;II)V"⟩, 7), (⟨"OneMark$Moves", "clear", "(LOneMark$Board;I)V"⟩, 7), (⟨"OneMark$Moves", "add", "(III)V"⟩, 7), (⟨"OneMark$Moves", "addStays", "()V"⟩, 7), (⟨"OneMark$Moves", "everywhere", "()I"⟩, 7), (⟨"OneMark$Moves", "attracted", "(III)I"⟩, 7), (⟨"OneMark$Moves", "oneMoveFrom", "(III)I"⟩, 7)]
theorem lw_r1 : ∀ q ∈ lw_privs_1, lw_okq q := List.forall_mem_cons.mpr ⟨lw_p0, List.forall_mem_cons.mpr ⟨lw_p1, List.forall_mem_cons.mpr ⟨lw_p2, List.forall_mem_cons.mpr ⟨lw_p3, List.forall_mem_cons.mpr ⟨lw_p4, List.forall_mem_cons.mpr ⟨lw_p5, List.forall_mem_cons.mpr ⟨lw_p6, List.forall_mem_cons.mpr ⟨lw_p7, List.forall_mem_cons.mpr ⟨lw_p8, List.forall_mem_cons.mpr ⟨lw_p9, List.forall_mem_cons.mpr ⟨lw_p10, List.forall_mem_cons.mpr ⟨lw_p11, List.forall_mem_cons.mpr ⟨lw_p12, List.forall_mem_cons.mpr ⟨lw_p13, List.forall_mem_cons.mpr ⟨lw_p14, List.forall_mem_cons.mpr ⟨lw_p15, fun _ h => absurd h List.not_mem_nil⟩⟩⟩⟩⟩⟩⟩⟩⟩⟩⟩⟩⟩⟩⟩⟩
theorem lw_p16 : lw_okq (⟨"OneMark$Moves", "movesInto", "(III)I"⟩, 7) := ⟨⟨by decide +kernel, by decide +kernel⟩, List.mem_of_getElem? (i := 72) (by decide +kernel), List.mem_of_getElem? (i := 367) (by decide +kernel), List.mem_of_getElem? (i := 368) (by decide +kernel)⟩
theorem lw_p17 : lw_okq (⟨"OneMark$Moves", "keeping", "(II)I"⟩, 7) := ⟨⟨by decide +kernel, by decide +kernel⟩, List.mem_of_getElem? (i := 72) (by decide +kernel), List.mem_of_getElem? (i := 376) (by decide +kernel), List.mem_of_getElem? (i := 377) (by decide +kernel)⟩
theorem lw_p18 : lw_okq (⟨"OneMark$Moves", "meeting", "(III)I"⟩, 7) := ⟨⟨by decide +kernel, by decide +kernel⟩, List.mem_of_getElem? (i := 72) (by decide +kernel), List.mem_of_getElem? (i := 389) (by decide +kernel), List.mem_of_getElem? (i := 390) (by decide +kernel)⟩
theorem lw_p19 : lw_okq (⟨"OneMark$Moves", "withoutLost", "(III)I"⟩, 7) := ⟨⟨by decide +kernel, by decide +kernel⟩, List.mem_of_getElem? (i := 72) (by decide +kernel), List.mem_of_getElem? (i := 393) (by decide +kernel), List.mem_of_getElem? (i := 394) (by decide +kernel)⟩
theorem lw_p20 : lw_okq (⟨"OneMark$Moves", "wonBy", "(I[I)I"⟩, 7) := ⟨⟨by decide +kernel, by decide +kernel⟩, List.mem_of_getElem? (i := 72) (by decide +kernel), List.mem_of_getElem? (i := 402) (by decide +kernel), List.mem_of_getElem? (i := 403) (by decide +kernel)⟩
theorem lw_p21 : lw_okq (⟨"OneMark", "narrowed", "(III)I"⟩, 7) := ⟨⟨by decide +kernel, by decide +kernel⟩, List.mem_of_getElem? (i := 17) (by decide +kernel), List.mem_of_getElem? (i := 422) (by decide +kernel), List.mem_of_getElem? (i := 423) (by decide +kernel)⟩
theorem lw_p22 : lw_okq (⟨"OneMark$Means", "sumAfter", "(LOneMark$Moves;II)I"⟩, 8) := ⟨⟨by decide +kernel, by decide +kernel⟩, List.mem_of_getElem? (i := 125) (by decide +kernel), List.mem_of_getElem? (i := 430) (by decide +kernel), List.mem_of_getElem? (i := 431) (by decide +kernel)⟩
theorem lw_p23 : lw_okq (⟨"OneMark$Means", "addMove", "(LOneMark$Moves;)V"⟩, 8) := ⟨⟨by decide +kernel, by decide +kernel⟩, List.mem_of_getElem? (i := 125) (by decide +kernel), List.mem_of_getElem? (i := 434) (by decide +kernel), List.mem_of_getElem? (i := 435) (by decide +kernel)⟩
theorem lw_p24 : lw_okq (⟨"OneMark$Means", "findSure", "(LOneMark$Moves;II)V"⟩, 8) := ⟨⟨by decide +kernel, by decide +kernel⟩, List.mem_of_getElem? (i := 125) (by decide +kernel), List.mem_of_getElem? (i := 452) (by decide +kernel), List.mem_of_getElem? (i := 453) (by decide +kernel)⟩
theorem lw_p25 : lw_okq (⟨"OneMark$Means", "plansOf", "(LOneMark$Moves;I)I"⟩, 8) := ⟨⟨by decide +kernel, by decide +kernel⟩, List.mem_of_getElem? (i := 125) (by decide +kernel), List.mem_of_getElem? (i := 456) (by decide +kernel), List.mem_of_getElem? (i := 457) (by decide +kernel)⟩
theorem lw_p26 : lw_okq (⟨"OneMark$Moves", "placesOf", "(I)I"⟩, 7) := ⟨⟨by decide +kernel, by decide +kernel⟩, List.mem_of_getElem? (i := 72) (by decide +kernel), List.mem_of_getElem? (i := 460) (by decide +kernel), List.mem_of_getElem? (i := 461) (by decide +kernel)⟩
theorem lw_p27 : lw_okq (⟨"OneMark$Means", "findBest", "(LOneMark$Moves;IIII)V"⟩, 8) := ⟨⟨by decide +kernel, by decide +kernel⟩, List.mem_of_getElem? (i := 125) (by decide +kernel), List.mem_of_getElem? (i := 470) (by decide +kernel), List.mem_of_getElem? (i := 471) (by decide +kernel)⟩
theorem lw_p28 : lw_okq (⟨"OneMark$Means", "choosePlan", "(LOneMark$Moves;II)V"⟩, 8) := ⟨⟨by decide +kernel, by decide +kernel⟩, List.mem_of_getElem? (i := 125) (by decide +kernel), List.mem_of_getElem? (i := 474) (by decide +kernel), List.mem_of_getElem? (i := 475) (by decide +kernel)⟩
theorem lw_p29 : lw_okq (⟨"OneMark$Means", "findLeastLoop", "(LOneMark$Moves;II)V"⟩, 8) := ⟨⟨by decide +kernel, by decide +kernel⟩, List.mem_of_getElem? (i := 125) (by decide +kernel), List.mem_of_getElem? (i := 481) (by decide +kernel), List.mem_of_getElem? (i := 482) (by decide +kernel)⟩
theorem lw_p30 : lw_okq (⟨"OneMark$Means", "walk", "(LOneMark$Moves;II)V"⟩, 8) := ⟨⟨by decide +kernel, by decide +kernel⟩, List.mem_of_getElem? (i := 125) (by decide +kernel), List.mem_of_getElem? (i := 485) (by decide +kernel), List.mem_of_getElem? (i := 486) (by decide +kernel)⟩
theorem lw_p31 : lw_okq (⟨"OneMark$Moves", "weighBySet", "(I)V"⟩, 7) := ⟨⟨by decide +kernel, by decide +kernel⟩, List.mem_of_getElem? (i := 72) (by decide +kernel), List.mem_of_getElem? (i := 494) (by decide +kernel), List.mem_of_getElem? (i := 495) (by decide +kernel)⟩
def lw_privs_2 : List (MethodName × Nat) := [(⟨"OneMark$Moves", "movesInto", "(III)I"⟩, 7), (⟨"OneMark$Moves", "keeping", "(II)I"⟩, 7), (⟨"OneMark$Moves", "meeting", "(III)I"⟩, 7), (⟨"OneMark$Moves", "withoutLost", "(III)I"⟩, 7), (⟨"OneMark$Moves", "wonBy", "(I[I)I"⟩, 7), (⟨"OneMark", "narrowed", "(III)I"⟩, 7), (⟨"OneMark$Means", "sumAfter", "(LOneMark$Moves;II)I"⟩, 8), (⟨"OneMark$Means", "addMove", "(LOneMark$Moves;)V"⟩, 8), (⟨"OneMark$Means", "findSure", "(LOneMark$Moves;II)V"⟩, 8), (⟨"OneMark$Means", "plansOf", "(LOneMark$Moves;I)I"⟩, 8), (⟨"OneMark$Moves", "placesOf", "(I)I"⟩, 7), (⟨"OneMark$Means", "findBest", "(LOneMark$Moves;IIII)V"⟩, 8), (⟨"OneMark$Means", "choosePlan", "(LOneMark$Moves;II)V"⟩, 8), (⟨"OneMark$Means", "findLeastLoop", "(LOneMark$Moves;II)V"⟩, 8), (⟨"OneMark$Means", "walk", "(LOneMark$Moves;II)V"⟩, 8), (⟨"OneMark$Moves", "weighBySet", "(I)V"⟩, 7)]
theorem lw_r2 : ∀ q ∈ lw_privs_2, lw_okq q := List.forall_mem_cons.mpr ⟨lw_p16, List.forall_mem_cons.mpr ⟨lw_p17, List.forall_mem_cons.mpr ⟨lw_p18, List.forall_mem_cons.mpr ⟨lw_p19, List.forall_mem_cons.mpr ⟨lw_p20, List.forall_mem_cons.mpr ⟨lw_p21, List.forall_mem_cons.mpr ⟨lw_p22, List.forall_mem_cons.mpr ⟨lw_p23, List.forall_mem_cons.mpr ⟨lw_p24, List.forall_mem_cons.mpr ⟨lw_p25, List.forall_mem_cons.mpr ⟨lw_p26, List.forall_mem_cons.mpr ⟨lw_p27, List.forall_mem_cons.mpr ⟨lw_p28, List.forall_mem_cons.mpr ⟨lw_p29, List.forall_mem_cons.mpr ⟨lw_p30, List.forall_mem_cons.mpr ⟨lw_p31, fun _ h => absurd h List.not_mem_nil⟩⟩⟩⟩⟩⟩⟩⟩⟩⟩⟩⟩⟩⟩⟩⟩
theorem lw_p32 : lw_okq (⟨"OneMark$Moves", "loadTold", "(LOneMark$Board;I)V"⟩, 7) := ⟨⟨by decide +kernel, by decide +kernel⟩, List.mem_of_getElem? (i := 72) (by decide +kernel), List.mem_of_getElem? (i := 510) (by decide +kernel), List.mem_of_getElem? (i := 511) (by decide +kernel)⟩
theorem lw_p33 : lw_okq (⟨"OneMark$Board", "isOpen", "(II)Z"⟩, 8) := ⟨⟨by decide +kernel, by decide +kernel⟩, List.mem_of_getElem? (i := 25) (by decide +kernel), List.mem_of_getElem? (i := 514) (by decide +kernel), List.mem_of_getElem? (i := 515) (by decide +kernel)⟩
theorem lw_p34 : lw_okq (⟨"OneMark$Loops", "wrongPlaces", "(LOneMark$Moves;[II)I"⟩, 2) := ⟨⟨by decide +kernel, by decide +kernel⟩, List.mem_of_getElem? (i := 110) (by decide +kernel), List.mem_of_getElem? (i := 522) (by decide +kernel), List.mem_of_getElem? (i := 523) (by decide +kernel)⟩
theorem lw_p35 : lw_okq (⟨"OneMark$Loops", "isLeastOfLoop", "(LOneMark$Moves;[II)Z"⟩, 2) := ⟨⟨by decide +kernel, by decide +kernel⟩, List.mem_of_getElem? (i := 110) (by decide +kernel), List.mem_of_getElem? (i := 526) (by decide +kernel), List.mem_of_getElem? (i := 527) (by decide +kernel)⟩
theorem lw_p36 : lw_okq (⟨"OneMark$Loops", "findBreaker", "(LOneMark$Moves;[III)V"⟩, 2) := ⟨⟨by decide +kernel, by decide +kernel⟩, List.mem_of_getElem? (i := 110) (by decide +kernel), List.mem_of_getElem? (i := 534) (by decide +kernel), List.mem_of_getElem? (i := 535) (by decide +kernel)⟩
theorem lw_p37 : lw_okq (⟨"OneMark$Loops", "indexOf", "(II)I"⟩, 2) := ⟨⟨by decide +kernel, by decide +kernel⟩, List.mem_of_getElem? (i := 110) (by decide +kernel), List.mem_of_getElem? (i := 541) (by decide +kernel), List.mem_of_getElem? (i := 542) (by decide +kernel)⟩
theorem lw_p38 : lw_okq (⟨"OneMark$Loops", "leastOf", "([III)I"⟩, 2) := ⟨⟨by decide +kernel, by decide +kernel⟩, List.mem_of_getElem? (i := 110) (by decide +kernel), List.mem_of_getElem? (i := 545) (by decide +kernel), List.mem_of_getElem? (i := 546) (by decide +kernel)⟩
theorem lw_p39 : lw_okq (⟨"OneMark$Means", "findLeft", "(LOneMark$Moves;II)V"⟩, 8) := ⟨⟨by decide +kernel, by decide +kernel⟩, List.mem_of_getElem? (i := 125) (by decide +kernel), List.mem_of_getElem? (i := 554) (by decide +kernel), List.mem_of_getElem? (i := 555) (by decide +kernel)⟩
theorem lw_p40 : lw_okq (⟨"OneMark$Reader", "add", "(I)V"⟩, 8) := ⟨⟨by decide +kernel, by decide +kernel⟩, List.mem_of_getElem? (i := 160) (by decide +kernel), List.mem_of_getElem? (i := 563) (by decide +kernel), List.mem_of_getElem? (i := 564) (by decide +kernel)⟩
theorem lw_p41 : lw_okq (⟨"OneMark$Reader", "read", "(LOneMark$Question;I)I"⟩, 8) := ⟨⟨by decide +kernel, by decide +kernel⟩, List.mem_of_getElem? (i := 160) (by decide +kernel), List.mem_of_getElem? (i := 575) (by decide +kernel), List.mem_of_getElem? (i := 576) (by decide +kernel)⟩
theorem lw_p42 : lw_okq (⟨"OneMark$Question", "clear", "()V"⟩, 11) := ⟨⟨by decide +kernel, by decide +kernel⟩, List.mem_of_getElem? (i := 192) (by decide +kernel), List.mem_of_getElem? (i := 579) (by decide +kernel), List.mem_of_getElem? (i := 580) (by decide +kernel)⟩
theorem lw_p43 : lw_okq (⟨"OneMark$Reader", "readToken", "()V"⟩, 8) := ⟨⟨by decide +kernel, by decide +kernel⟩, List.mem_of_getElem? (i := 160) (by decide +kernel), List.mem_of_getElem? (i := 583) (by decide +kernel), List.mem_of_getElem? (i := 584) (by decide +kernel)⟩
theorem lw_p44 : lw_okq (⟨"OneMark$Reader", "wordToken", "()I"⟩, 8) := ⟨⟨by decide +kernel, by decide +kernel⟩, List.mem_of_getElem? (i := 160) (by decide +kernel), List.mem_of_getElem? (i := 590) (by decide +kernel), List.mem_of_getElem? (i := 591) (by decide +kernel)⟩
theorem lw_p45 : lw_okq (⟨"OneMark$Reader", "isWord", "(Ljava/lang/String;)Z"⟩, 8) := ⟨⟨by decide +kernel, by decide +kernel⟩, List.mem_of_getElem? (i := 160) (by decide +kernel), List.mem_of_getElem? (i := 595) (by decide +kernel), List.mem_of_getElem? (i := 596) (by decide +kernel)⟩
theorem lw_p46 : lw_okq (⟨"OneMark$Reader", "numberValue", "()I"⟩, 8) := ⟨⟨by decide +kernel, by decide +kernel⟩, List.mem_of_getElem? (i := 160) (by decide +kernel), List.mem_of_getElem? (i := 662) (by decide +kernel), List.mem_of_getElem? (i := 663) (by decide +kernel)⟩
theorem lw_p47 : lw_okq (⟨"OneMark$Reader", "stateAfter", "(II)I"⟩, 8) := ⟨⟨by decide +kernel, by decide +kernel⟩, List.mem_of_getElem? (i := 160) (by decide +kernel), List.mem_of_getElem? (i := 666) (by decide +kernel), List.mem_of_getElem? (i := 667) (by decide +kernel)⟩
def lw_privs_3 : List (MethodName × Nat) := [(⟨"OneMark$Moves", "loadTold", "(LOneMark$Board;I)V"⟩, 7), (⟨"OneMark$Board", "isOpen", "(II)Z"⟩, 8), (⟨"OneMark$Loops", "wrongPlaces", "(LOneMark$Moves;[II)I"⟩, 2), (⟨"OneMark$Loops", "isLeastOfLoop", "(LOneMark$Moves;[II)Z"⟩, 2), (⟨"OneMark$Loops", "findBreaker", "(LOneMark$Moves;[III)V"⟩, 2), (⟨"OneMark$Loops", "indexOf", "(II)I"⟩, 2), (⟨"OneMark$Loops", "leastOf", "([III)I"⟩, 2), (⟨"OneMark$Means", "findLeft", "(LOneMark$Moves;II)V"⟩, 8), (⟨"OneMark$Reader", "add", "(I)V"⟩, 8), (⟨"OneMark$Reader", "read", "(LOneMark$Question;I)I"⟩, 8), (⟨"OneMark$Question", "clear", "()V"⟩, 11), (⟨"OneMark$Reader", "readToken", "()V"⟩, 8), (⟨"OneMark$Reader", "wordToken", "()I"⟩, 8), (⟨"OneMark$Reader", "isWord", "(Ljava/lang/String;)Z"⟩, 8), (⟨"OneMark$Reader", "numberValue", "()I"⟩, 8), (⟨"OneMark$Reader", "stateAfter", "(II)I"⟩, 8)]
theorem lw_r3 : ∀ q ∈ lw_privs_3, lw_okq q := List.forall_mem_cons.mpr ⟨lw_p32, List.forall_mem_cons.mpr ⟨lw_p33, List.forall_mem_cons.mpr ⟨lw_p34, List.forall_mem_cons.mpr ⟨lw_p35, List.forall_mem_cons.mpr ⟨lw_p36, List.forall_mem_cons.mpr ⟨lw_p37, List.forall_mem_cons.mpr ⟨lw_p38, List.forall_mem_cons.mpr ⟨lw_p39, List.forall_mem_cons.mpr ⟨lw_p40, List.forall_mem_cons.mpr ⟨lw_p41, List.forall_mem_cons.mpr ⟨lw_p42, List.forall_mem_cons.mpr ⟨lw_p43, List.forall_mem_cons.mpr ⟨lw_p44, List.forall_mem_cons.mpr ⟨lw_p45, List.forall_mem_cons.mpr ⟨lw_p46, List.forall_mem_cons.mpr ⟨lw_p47, fun _ h => absurd h List.not_mem_nil⟩⟩⟩⟩⟩⟩⟩⟩⟩⟩⟩⟩⟩⟩⟩⟩
theorem lw_p48 : lw_okq (⟨"OneMark$Reader", "beginUnit", "()I"⟩, 8) := ⟨⟨by decide +kernel, by decide +kernel⟩, List.mem_of_getElem? (i := 160) (by decide +kernel), List.mem_of_getElem? (i := 670) (by decide +kernel), List.mem_of_getElem? (i := 671) (by decide +kernel)⟩
theorem lw_p49 : lw_okq (⟨"OneMark$Question", "hold", "(I)V"⟩, 11) := ⟨⟨by decide +kernel, by decide +kernel⟩, List.mem_of_getElem? (i := 192) (by decide +kernel), List.mem_of_getElem? (i := 674) (by decide +kernel), List.mem_of_getElem? (i := 675) (by decide +kernel)⟩
theorem lw_p50 : lw_okq (⟨"OneMark$Question", "begin", "(II)V"⟩, 11) := ⟨⟨by decide +kernel, by decide +kernel⟩, List.mem_of_getElem? (i := 192) (by decide +kernel), List.mem_of_getElem? (i := 678) (by decide +kernel), List.mem_of_getElem? (i := 679) (by decide +kernel)⟩
theorem lw_p51 : lw_okq (⟨"OneMark$Reader", "joinUnits", "()I"⟩, 8) := ⟨⟨by decide +kernel, by decide +kernel⟩, List.mem_of_getElem? (i := 160) (by decide +kernel), List.mem_of_getElem? (i := 683) (by decide +kernel), List.mem_of_getElem? (i := 684) (by decide +kernel)⟩
theorem lw_p52 : lw_okq (⟨"OneMark$Question", "join", "(I)V"⟩, 11) := ⟨⟨by decide +kernel, by decide +kernel⟩, List.mem_of_getElem? (i := 192) (by decide +kernel), List.mem_of_getElem? (i := 687) (by decide +kernel), List.mem_of_getElem? (i := 688) (by decide +kernel)⟩
theorem lw_p53 : lw_okq (⟨"OneMark$Question", "lastHeld", "()I"⟩, 11) := ⟨⟨by decide +kernel, by decide +kernel⟩, List.mem_of_getElem? (i := 192) (by decide +kernel), List.mem_of_getElem? (i := 691) (by decide +kernel), List.mem_of_getElem? (i := 692) (by decide +kernel)⟩
theorem lw_p54 : lw_okq (⟨"OneMark$Question", "emit", "(I)V"⟩, 11) := ⟨⟨by decide +kernel, by decide +kernel⟩, List.mem_of_getElem? (i := 192) (by decide +kernel), List.mem_of_getElem? (i := 695) (by decide +kernel), List.mem_of_getElem? (i := 696) (by decide +kernel)⟩
theorem lw_p55 : lw_okq (⟨"OneMark$Question", "closeParenthesis", "()V"⟩, 11) := ⟨⟨by decide +kernel, by decide +kernel⟩, List.mem_of_getElem? (i := 192) (by decide +kernel), List.mem_of_getElem? (i := 700) (by decide +kernel), List.mem_of_getElem? (i := 701) (by decide +kernel)⟩
theorem lw_p56 : lw_okq (⟨"OneMark$Question", "emitHeld", "()V"⟩, 11) := ⟨⟨by decide +kernel, by decide +kernel⟩, List.mem_of_getElem? (i := 192) (by decide +kernel), List.mem_of_getElem? (i := 704) (by decide +kernel), List.mem_of_getElem? (i := 705) (by decide +kernel)⟩
theorem lw_p57 : lw_okq (⟨"OneMark$Question", "emitNots", "()V"⟩, 11) := ⟨⟨by decide +kernel, by decide +kernel⟩, List.mem_of_getElem? (i := 192) (by decide +kernel), List.mem_of_getElem? (i := 708) (by decide +kernel), List.mem_of_getElem? (i := 709) (by decide +kernel)⟩
theorem lw_p58 : lw_okq (⟨"OneMark$Reader", "takeVerb", "()I"⟩, 8) := ⟨⟨by decide +kernel, by decide +kernel⟩, List.mem_of_getElem? (i := 160) (by decide +kernel), List.mem_of_getElem? (i := 712) (by decide +kernel), List.mem_of_getElem? (i := 713) (by decide +kernel)⟩
theorem lw_p59 : lw_okq (⟨"OneMark$Reader", "takeMember", "(I)I"⟩, 8) := ⟨⟨by decide +kernel, by decide +kernel⟩, List.mem_of_getElem? (i := 160) (by decide +kernel), List.mem_of_getElem? (i := 716) (by decide +kernel), List.mem_of_getElem? (i := 717) (by decide +kernel)⟩
theorem lw_p60 : lw_okq (⟨"OneMark$Reader", "isPlaceNumber", "(I)Z"⟩, 8) := ⟨⟨by decide +kernel, by decide +kernel⟩, List.mem_of_getElem? (i := 160) (by decide +kernel), List.mem_of_getElem? (i := 720) (by decide +kernel), List.mem_of_getElem? (i := 721) (by decide +kernel)⟩
theorem lw_p61 : lw_okq (⟨"OneMark$Reader", "takePlace", "(I)Z"⟩, 8) := ⟨⟨by decide +kernel, by decide +kernel⟩, List.mem_of_getElem? (i := 160) (by decide +kernel), List.mem_of_getElem? (i := 724) (by decide +kernel), List.mem_of_getElem? (i := 725) (by decide +kernel)⟩
theorem lw_p62 : lw_okq (⟨"OneMark$Reader", "endUnit", "()I"⟩, 8) := ⟨⟨by decide +kernel, by decide +kernel⟩, List.mem_of_getElem? (i := 160) (by decide +kernel), List.mem_of_getElem? (i := 728) (by decide +kernel), List.mem_of_getElem? (i := 729) (by decide +kernel)⟩
theorem lw_p63 : lw_okq (⟨"OneMark$Question", "endUnit", "()V"⟩, 11) := ⟨⟨by decide +kernel, by decide +kernel⟩, List.mem_of_getElem? (i := 192) (by decide +kernel), List.mem_of_getElem? (i := 732) (by decide +kernel), List.mem_of_getElem? (i := 733) (by decide +kernel)⟩
def lw_privs_4 : List (MethodName × Nat) := [(⟨"OneMark$Reader", "beginUnit", "()I"⟩, 8), (⟨"OneMark$Question", "hold", "(I)V"⟩, 11), (⟨"OneMark$Question", "begin", "(II)V"⟩, 11), (⟨"OneMark$Reader", "joinUnits", "()I"⟩, 8), (⟨"OneMark$Question", "join", "(I)V"⟩, 11), (⟨"OneMark$Question", "lastHeld", "()I"⟩, 11), (⟨"OneMark$Question", "emit", "(I)V"⟩, 11), (⟨"OneMark$Question", "closeParenthesis", "()V"⟩, 11), (⟨"OneMark$Question", "emitHeld", "()V"⟩, 11), (⟨"OneMark$Question", "emitNots", "()V"⟩, 11), (⟨"OneMark$Reader", "takeVerb", "()I"⟩, 8), (⟨"OneMark$Reader", "takeMember", "(I)I"⟩, 8), (⟨"OneMark$Reader", "isPlaceNumber", "(I)Z"⟩, 8), (⟨"OneMark$Reader", "takePlace", "(I)Z"⟩, 8), (⟨"OneMark$Reader", "endUnit", "()I"⟩, 8), (⟨"OneMark$Question", "endUnit", "()V"⟩, 11)]
theorem lw_r4 : ∀ q ∈ lw_privs_4, lw_okq q := List.forall_mem_cons.mpr ⟨lw_p48, List.forall_mem_cons.mpr ⟨lw_p49, List.forall_mem_cons.mpr ⟨lw_p50, List.forall_mem_cons.mpr ⟨lw_p51, List.forall_mem_cons.mpr ⟨lw_p52, List.forall_mem_cons.mpr ⟨lw_p53, List.forall_mem_cons.mpr ⟨lw_p54, List.forall_mem_cons.mpr ⟨lw_p55, List.forall_mem_cons.mpr ⟨lw_p56, List.forall_mem_cons.mpr ⟨lw_p57, List.forall_mem_cons.mpr ⟨lw_p58, List.forall_mem_cons.mpr ⟨lw_p59, List.forall_mem_cons.mpr ⟨lw_p60, List.forall_mem_cons.mpr ⟨lw_p61, List.forall_mem_cons.mpr ⟨lw_p62, List.forall_mem_cons.mpr ⟨lw_p63, fun _ h => absurd h List.not_mem_nil⟩⟩⟩⟩⟩⟩⟩⟩⟩⟩⟩⟩⟩⟩⟩⟩
theorem lw_p64 : lw_okq (⟨"OneMark$Reader", "takeSide", "()I"⟩, 8) := ⟨⟨by decide +kernel, by decide +kernel⟩, List.mem_of_getElem? (i := 160) (by decide +kernel), List.mem_of_getElem? (i := 736) (by decide +kernel), List.mem_of_getElem? (i := 737) (by decide +kernel)⟩
theorem lw_p65 : lw_okq (⟨"OneMark$Reader", "takeBound", "()Z"⟩, 8) := ⟨⟨by decide +kernel, by decide +kernel⟩, List.mem_of_getElem? (i := 160) (by decide +kernel), List.mem_of_getElem? (i := 740) (by decide +kernel), List.mem_of_getElem? (i := 741) (by decide +kernel)⟩
theorem lw_p66 : lw_okq (⟨"OneMark$Question", "isTrue", "(LOneMark$Board;LOneMark$Moves;LOneMark$Means;II)Z"⟩, 11) := ⟨⟨by decide +kernel, by decide +kernel⟩, List.mem_of_getElem? (i := 192) (by decide +kernel), List.mem_of_getElem? (i := 751) (by decide +kernel), List.mem_of_getElem? (i := 752) (by decide +kernel)⟩
theorem lw_p67 : lw_okq (⟨"OneMark$Question", "isUnitTrue", "(ILOneMark$Moves;LOneMark$Means;[I)Z"⟩, 11) := ⟨⟨by decide +kernel, by decide +kernel⟩, List.mem_of_getElem? (i := 192) (by decide +kernel), List.mem_of_getElem? (i := 756) (by decide +kernel), List.mem_of_getElem? (i := 757) (by decide +kernel)⟩
theorem lw_p68 : lw_okq (⟨"OneMark$Means", "isHeld", "(LOneMark$Moves;III)Z"⟩, 8) := ⟨⟨by decide +kernel, by decide +kernel⟩, List.mem_of_getElem? (i := 125) (by decide +kernel), List.mem_of_getElem? (i := 765) (by decide +kernel), List.mem_of_getElem? (i := 766) (by decide +kernel)⟩
theorem lw_p69 : lw_okq (⟨"OneMark$Means", "isRaised", "(LOneMark$Moves;III)Z"⟩, 8) := ⟨⟨by decide +kernel, by decide +kernel⟩, List.mem_of_getElem? (i := 125) (by decide +kernel), List.mem_of_getElem? (i := 769) (by decide +kernel), List.mem_of_getElem? (i := 770) (by decide +kernel)⟩
theorem lw_p70 : lw_okq (⟨"OneMark$Moves", "branching", "()I"⟩, 7) := ⟨⟨by decide +kernel, by decide +kernel⟩, List.mem_of_getElem? (i := 72) (by decide +kernel), List.mem_of_getElem? (i := 786) (by decide +kernel), List.mem_of_getElem? (i := 787) (by decide +kernel)⟩
theorem lw_p71 : lw_okq (⟨"OneMark$Board", "toldPlaces", "()I"⟩, 8) := ⟨⟨by decide +kernel, by decide +kernel⟩, List.mem_of_getElem? (i := 25) (by decide +kernel), List.mem_of_getElem? (i := 796) (by decide +kernel), List.mem_of_getElem? (i := 797) (by decide +kernel)⟩
theorem lw_p72 : lw_okq (⟨"OneMarkModel", "isPlace", "(I)Z"⟩, 37) := ⟨⟨by decide +kernel, by decide +kernel⟩, List.mem_of_getElem? (i := 800) (by decide +kernel), List.mem_of_getElem? (i := 934) (by decide +kernel), List.mem_of_getElem? (i := 935) (by decide +kernel)⟩
theorem lw_p73 : lw_okq (⟨"OneMarkModel", "arrowOf", "(II)I"⟩, 37) := ⟨⟨by decide +kernel, by decide +kernel⟩, List.mem_of_getElem? (i := 800) (by decide +kernel), List.mem_of_getElem? (i := 940) (by decide +kernel), List.mem_of_getElem? (i := 941) (by decide +kernel)⟩
theorem lw_p74 : lw_okq (⟨"OneMarkModel", "isArrow", "(I)Z"⟩, 37) := ⟨⟨by decide +kernel, by decide +kernel⟩, List.mem_of_getElem? (i := 800) (by decide +kernel), List.mem_of_getElem? (i := 948) (by decide +kernel), List.mem_of_getElem? (i := 949) (by decide +kernel)⟩
theorem lw_p75 : lw_okq (⟨"OneMarkModel", "isSet", "(I)Z"⟩, 37) := ⟨⟨by decide +kernel, by decide +kernel⟩, List.mem_of_getElem? (i := 800) (by decide +kernel), List.mem_of_getElem? (i := 969) (by decide +kernel), List.mem_of_getElem? (i := 970) (by decide +kernel)⟩
theorem lw_p76 : lw_okq (⟨"OneMarkModel", "layMoves", "()V"⟩, 37) := ⟨⟨by decide +kernel, by decide +kernel⟩, List.mem_of_getElem? (i := 800) (by decide +kernel), List.mem_of_getElem? (i := 973) (by decide +kernel), List.mem_of_getElem? (i := 974) (by decide +kernel)⟩
theorem lw_p77 : lw_okq (⟨"OneMarkModel", "isUsed", "(I)Z"⟩, 37) := ⟨⟨by decide +kernel, by decide +kernel⟩, List.mem_of_getElem? (i := 800) (by decide +kernel), List.mem_of_getElem? (i := 977) (by decide +kernel), List.mem_of_getElem? (i := 978) (by decide +kernel)⟩
theorem lw_p78 : lw_okq (⟨"OneMarkModel", "forcedTo", "(II)I"⟩, 37) := ⟨⟨by decide +kernel, by decide +kernel⟩, List.mem_of_getElem? (i := 800) (by decide +kernel), List.mem_of_getElem? (i := 981) (by decide +kernel), List.mem_of_getElem? (i := 982) (by decide +kernel)⟩
theorem lw_p79 : lw_okq (⟨"OneMarkModel", "bring", "(II)I"⟩, 37) := ⟨⟨by decide +kernel, by decide +kernel⟩, List.mem_of_getElem? (i := 800) (by decide +kernel), List.mem_of_getElem? (i := 985) (by decide +kernel), List.mem_of_getElem? (i := 986) (by decide +kernel)⟩
def lw_privs_5 : List (MethodName × Nat) := [(⟨"OneMark$Reader", "takeSide", "()I"⟩, 8), (⟨"OneMark$Reader", "takeBound", "()Z"⟩, 8), (⟨"OneMark$Question", "isTrue", "(LOneMark$Board;LOneMark$Moves;LOneMark$Means;II)Z"⟩, 11), (⟨"OneMark$Question", "isUnitTrue", "(ILOneMark$Moves;LOneMark$Means;[I)Z"⟩, 11), (⟨"OneMark$Means", "isHeld", "(LOneMark$Moves;III)Z"⟩, 8), (⟨"OneMark$Means", "isRaised", "(LOneMark$Moves;III)Z"⟩, 8), (⟨"OneMark$Moves", "branching", "()I"⟩, 7), (⟨"OneMark$Board", "toldPlaces", "()I"⟩, 8), (⟨"OneMarkModel", "isPlace", "(I)Z"⟩, 37), (⟨"OneMarkModel", "arrowOf", "(II)I"⟩, 37), (⟨"OneMarkModel", "isArrow", "(I)Z"⟩, 37), (⟨"OneMarkModel", "isSet", "(I)Z"⟩, 37), (⟨"OneMarkModel", "layMoves", "()V"⟩, 37), (⟨"OneMarkModel", "isUsed", "(I)Z"⟩, 37), (⟨"OneMarkModel", "forcedTo", "(II)I"⟩, 37), (⟨"OneMarkModel", "bring", "(II)I"⟩, 37)]
theorem lw_r5 : ∀ q ∈ lw_privs_5, lw_okq q := List.forall_mem_cons.mpr ⟨lw_p64, List.forall_mem_cons.mpr ⟨lw_p65, List.forall_mem_cons.mpr ⟨lw_p66, List.forall_mem_cons.mpr ⟨lw_p67, List.forall_mem_cons.mpr ⟨lw_p68, List.forall_mem_cons.mpr ⟨lw_p69, List.forall_mem_cons.mpr ⟨lw_p70, List.forall_mem_cons.mpr ⟨lw_p71, List.forall_mem_cons.mpr ⟨lw_p72, List.forall_mem_cons.mpr ⟨lw_p73, List.forall_mem_cons.mpr ⟨lw_p74, List.forall_mem_cons.mpr ⟨lw_p75, List.forall_mem_cons.mpr ⟨lw_p76, List.forall_mem_cons.mpr ⟨lw_p77, List.forall_mem_cons.mpr ⟨lw_p78, List.forall_mem_cons.mpr ⟨lw_p79, fun _ h => absurd h List.not_mem_nil⟩⟩⟩⟩⟩⟩⟩⟩⟩⟩⟩⟩⟩⟩⟩⟩
theorem lw_p80 : lw_okq (⟨"OneMarkModel", "keptIn", "(II)I"⟩, 37) := ⟨⟨by decide +kernel, by decide +kernel⟩, List.mem_of_getElem? (i := 800) (by decide +kernel), List.mem_of_getElem? (i := 997) (by decide +kernel), List.mem_of_getElem? (i := 998) (by decide +kernel)⟩
theorem lw_p81 : lw_okq (⟨"OneMarkModel", "bothOf", "(III)I"⟩, 37) := ⟨⟨by decide +kernel, by decide +kernel⟩, List.mem_of_getElem? (i := 800) (by decide +kernel), List.mem_of_getElem? (i := 1005) (by decide +kernel), List.mem_of_getElem? (i := 1006) (by decide +kernel)⟩
theorem lw_p82 : lw_okq (⟨"OneMarkModel", "wonNow", "()I"⟩, 37) := ⟨⟨by decide +kernel, by decide +kernel⟩, List.mem_of_getElem? (i := 800) (by decide +kernel), List.mem_of_getElem? (i := 1017) (by decide +kernel), List.mem_of_getElem? (i := 1018) (by decide +kernel)⟩
theorem lw_p83 : lw_okq (⟨"OneMarkModel", "liftOf", "(I)I"⟩, 37) := ⟨⟨by decide +kernel, by decide +kernel⟩, List.mem_of_getElem? (i := 800) (by decide +kernel), List.mem_of_getElem? (i := 1021) (by decide +kernel), List.mem_of_getElem? (i := 1022) (by decide +kernel)⟩
theorem lw_p84 : lw_okq (⟨"OneMarkModel", "needed", "(II)I"⟩, 37) := ⟨⟨by decide +kernel, by decide +kernel⟩, List.mem_of_getElem? (i := 800) (by decide +kernel), List.mem_of_getElem? (i := 1026) (by decide +kernel), List.mem_of_getElem? (i := 1027) (by decide +kernel)⟩
theorem lw_p85 : lw_okq (⟨"OneMarkModel", "wonBy", "(I)I"⟩, 37) := ⟨⟨by decide +kernel, by decide +kernel⟩, List.mem_of_getElem? (i := 800) (by decide +kernel), List.mem_of_getElem? (i := 1037) (by decide +kernel), List.mem_of_getElem? (i := 1038) (by decide +kernel)⟩
theorem lw_p86 : lw_okq (⟨"OneMarkModel", "hasArrows", "(I)Z"⟩, 37) := ⟨⟨by decide +kernel, by decide +kernel⟩, List.mem_of_getElem? (i := 800) (by decide +kernel), List.mem_of_getElem? (i := 1041) (by decide +kernel), List.mem_of_getElem? (i := 1042) (by decide +kernel)⟩
theorem lw_p87 : lw_okq (⟨"OneMarkModel", "noneAlone", "()V"⟩, 37) := ⟨⟨by decide +kernel, by decide +kernel⟩, List.mem_of_getElem? (i := 800) (by decide +kernel), List.mem_of_getElem? (i := 1045) (by decide +kernel), List.mem_of_getElem? (i := 1046) (by decide +kernel)⟩
theorem lw_p88 : lw_okq (⟨"OneMarkModel", "layValues", "(III)V"⟩, 37) := ⟨⟨by decide +kernel, by decide +kernel⟩, List.mem_of_getElem? (i := 800) (by decide +kernel), List.mem_of_getElem? (i := 1054) (by decide +kernel), List.mem_of_getElem? (i := 1055) (by decide +kernel)⟩
theorem lw_p89 : lw_okq (⟨"OneMarkModel", "oneMore", "(II)V"⟩, 37) := ⟨⟨by decide +kernel, by decide +kernel⟩, List.mem_of_getElem? (i := 800) (by decide +kernel), List.mem_of_getElem? (i := 1058) (by decide +kernel), List.mem_of_getElem? (i := 1059) (by decide +kernel)⟩
theorem lw_p90 : lw_okq (⟨"OneMarkModel", "weightOf", "(II)I"⟩, 37) := ⟨⟨by decide +kernel, by decide +kernel⟩, List.mem_of_getElem? (i := 800) (by decide +kernel), List.mem_of_getElem? (i := 1062) (by decide +kernel), List.mem_of_getElem? (i := 1063) (by decide +kernel)⟩
theorem lw_p91 : lw_okq (⟨"OneMarkModel", "nearest", "(I)V"⟩, 37) := ⟨⟨by decide +kernel, by decide +kernel⟩, List.mem_of_getElem? (i := 800) (by decide +kernel), List.mem_of_getElem? (i := 1070) (by decide +kernel), List.mem_of_getElem? (i := 1071) (by decide +kernel)⟩
theorem lw_p92 : lw_okq (⟨"OneMarkModel", "rightOf", "(I)I"⟩, 37) := ⟨⟨by decide +kernel, by decide +kernel⟩, List.mem_of_getElem? (i := 800) (by decide +kernel), List.mem_of_getElem? (i := 1094) (by decide +kernel), List.mem_of_getElem? (i := 1095) (by decide +kernel)⟩
theorem lw_p93 : lw_okq (⟨"OneMarkModel", "layTold", "(I)V"⟩, 37) := ⟨⟨by decide +kernel, by decide +kernel⟩, List.mem_of_getElem? (i := 800) (by decide +kernel), List.mem_of_getElem? (i := 1098) (by decide +kernel), List.mem_of_getElem? (i := 1099) (by decide +kernel)⟩
theorem lw_p94 : lw_okq (⟨"OneMarkModel", "badFor", "(I)I"⟩, 37) := ⟨⟨by decide +kernel, by decide +kernel⟩, List.mem_of_getElem? (i := 800) (by decide +kernel), List.mem_of_getElem? (i := 1102) (by decide +kernel), List.mem_of_getElem? (i := 1103) (by decide +kernel)⟩
theorem lw_p95 : lw_okq (⟨"OneMarkModel", "reachFrom", "(II)I"⟩, 37) := ⟨⟨by decide +kernel, by decide +kernel⟩, List.mem_of_getElem? (i := 800) (by decide +kernel), List.mem_of_getElem? (i := 1106) (by decide +kernel), List.mem_of_getElem? (i := 1107) (by decide +kernel)⟩
def lw_privs_6 : List (MethodName × Nat) := [(⟨"OneMarkModel", "keptIn", "(II)I"⟩, 37), (⟨"OneMarkModel", "bothOf", "(III)I"⟩, 37), (⟨"OneMarkModel", "wonNow", "()I"⟩, 37), (⟨"OneMarkModel", "liftOf", "(I)I"⟩, 37), (⟨"OneMarkModel", "needed", "(II)I"⟩, 37), (⟨"OneMarkModel", "wonBy", "(I)I"⟩, 37), (⟨"OneMarkModel", "hasArrows", "(I)Z"⟩, 37), (⟨"OneMarkModel", "noneAlone", "()V"⟩, 37), (⟨"OneMarkModel", "layValues", "(III)V"⟩, 37), (⟨"OneMarkModel", "oneMore", "(II)V"⟩, 37), (⟨"OneMarkModel", "weightOf", "(II)I"⟩, 37), (⟨"OneMarkModel", "nearest", "(I)V"⟩, 37), (⟨"OneMarkModel", "rightOf", "(I)I"⟩, 37), (⟨"OneMarkModel", "layTold", "(I)V"⟩, 37), (⟨"OneMarkModel", "badFor", "(I)I"⟩, 37), (⟨"OneMarkModel", "reachFrom", "(II)I"⟩, 37)]
theorem lw_r6 : ∀ q ∈ lw_privs_6, lw_okq q := List.forall_mem_cons.mpr ⟨lw_p80, List.forall_mem_cons.mpr ⟨lw_p81, List.forall_mem_cons.mpr ⟨lw_p82, List.forall_mem_cons.mpr ⟨lw_p83, List.forall_mem_cons.mpr ⟨lw_p84, List.forall_mem_cons.mpr ⟨lw_p85, List.forall_mem_cons.mpr ⟨lw_p86, List.forall_mem_cons.mpr ⟨lw_p87, List.forall_mem_cons.mpr ⟨lw_p88, List.forall_mem_cons.mpr ⟨lw_p89, List.forall_mem_cons.mpr ⟨lw_p90, List.forall_mem_cons.mpr ⟨lw_p91, List.forall_mem_cons.mpr ⟨lw_p92, List.forall_mem_cons.mpr ⟨lw_p93, List.forall_mem_cons.mpr ⟨lw_p94, List.forall_mem_cons.mpr ⟨lw_p95, fun _ h => absurd h List.not_mem_nil⟩⟩⟩⟩⟩⟩⟩⟩⟩⟩⟩⟩⟩⟩⟩⟩
theorem lw_p96 : lw_okq (⟨"OneMarkModel", "closes", "(III)Z"⟩, 37) := ⟨⟨by decide +kernel, by decide +kernel⟩, List.mem_of_getElem? (i := 800) (by decide +kernel), List.mem_of_getElem? (i := 1114) (by decide +kernel), List.mem_of_getElem? (i := 1115) (by decide +kernel)⟩
theorem lw_p97 : lw_okq (⟨"OneMarkModel", "placeIn", "(I)I"⟩, 37) := ⟨⟨by decide +kernel, by decide +kernel⟩, List.mem_of_getElem? (i := 800) (by decide +kernel), List.mem_of_getElem? (i := 1118) (by decide +kernel), List.mem_of_getElem? (i := 1119) (by decide +kernel)⟩
theorem lw_p98 : lw_okq (⟨"OneMarkModel", "isBadFrom", "(II)Z"⟩, 37) := ⟨⟨by decide +kernel, by decide +kernel⟩, List.mem_of_getElem? (i := 800) (by decide +kernel), List.mem_of_getElem? (i := 1122) (by decide +kernel), List.mem_of_getElem? (i := 1123) (by decide +kernel)⟩
theorem lw_p99 : lw_okq (⟨"OneMarkModel", "addMoves", "(I)V"⟩, 37) := ⟨⟨by decide +kernel, by decide +kernel⟩, List.mem_of_getElem? (i := 800) (by decide +kernel), List.mem_of_getElem? (i := 1130) (by decide +kernel), List.mem_of_getElem? (i := 1131) (by decide +kernel)⟩
theorem lw_p100 : lw_okq (⟨"OneMarkModel", "token", "()V"⟩, 37) := ⟨⟨by decide +kernel, by decide +kernel⟩, List.mem_of_getElem? (i := 800) (by decide +kernel), List.mem_of_getElem? (i := 1151) (by decide +kernel), List.mem_of_getElem? (i := 1152) (by decide +kernel)⟩
theorem lw_p101 : lw_okq (⟨"OneMarkModel", "readsUnit", "()Z"⟩, 37) := ⟨⟨by decide +kernel, by decide +kernel⟩, List.mem_of_getElem? (i := 800) (by decide +kernel), List.mem_of_getElem? (i := 1158) (by decide +kernel), List.mem_of_getElem? (i := 1159) (by decide +kernel)⟩
theorem lw_p102 : lw_okq (⟨"OneMarkModel", "skips", "(II)Z"⟩, 37) := ⟨⟨by decide +kernel, by decide +kernel⟩, List.mem_of_getElem? (i := 800) (by decide +kernel), List.mem_of_getElem? (i := 1162) (by decide +kernel), List.mem_of_getElem? (i := 1163) (by decide +kernel)⟩
theorem lw_p103 : lw_okq (⟨"OneMarkModel", "isWord", "(II)Z"⟩, 37) := ⟨⟨by decide +kernel, by decide +kernel⟩, List.mem_of_getElem? (i := 800) (by decide +kernel), List.mem_of_getElem? (i := 1166) (by decide +kernel), List.mem_of_getElem? (i := 1167) (by decide +kernel)⟩
theorem lw_p104 : lw_okq (⟨"OneMarkModel", "isSign", "(I)Z"⟩, 37) := ⟨⟨by decide +kernel, by decide +kernel⟩, List.mem_of_getElem? (i := 800) (by decide +kernel), List.mem_of_getElem? (i := 1170) (by decide +kernel), List.mem_of_getElem? (i := 1171) (by decide +kernel)⟩
theorem lw_p105 : lw_okq (⟨"OneMarkModel", "readsPlain", "()Z"⟩, 37) := ⟨⟨by decide +kernel, by decide +kernel⟩, List.mem_of_getElem? (i := 800) (by decide +kernel), List.mem_of_getElem? (i := 1174) (by decide +kernel), List.mem_of_getElem? (i := 1175) (by decide +kernel)⟩
theorem lw_p106 : lw_okq (⟨"OneMarkModel", "readsFrom", "(III)Z"⟩, 37) := ⟨⟨by decide +kernel, by decide +kernel⟩, List.mem_of_getElem? (i := 800) (by decide +kernel), List.mem_of_getElem? (i := 1179) (by decide +kernel), List.mem_of_getElem? (i := 1180) (by decide +kernel)⟩
theorem lw_p107 : lw_okq (⟨"OneMarkModel", "readsPlace", "()Z"⟩, 37) := ⟨⟨by decide +kernel, by decide +kernel⟩, List.mem_of_getElem? (i := 800) (by decide +kernel), List.mem_of_getElem? (i := 1184) (by decide +kernel), List.mem_of_getElem? (i := 1185) (by decide +kernel)⟩
theorem lw_p108 : lw_okq (⟨"OneMarkModel", "isNumber", "(I)Z"⟩, 37) := ⟨⟨by decide +kernel, by decide +kernel⟩, List.mem_of_getElem? (i := 800) (by decide +kernel), List.mem_of_getElem? (i := 1188) (by decide +kernel), List.mem_of_getElem? (i := 1189) (by decide +kernel)⟩
theorem lw_p109 : lw_okq (⟨"OneMarkModel", "emit", "(IIII)V"⟩, 37) := ⟨⟨by decide +kernel, by decide +kernel⟩, List.mem_of_getElem? (i := 800) (by decide +kernel), List.mem_of_getElem? (i := 1192) (by decide +kernel), List.mem_of_getElem? (i := 1193) (by decide +kernel)⟩
theorem lw_p110 : lw_okq (⟨"OneMarkModel", "readsMean", "()Z"⟩, 37) := ⟨⟨by decide +kernel, by decide +kernel⟩, List.mem_of_getElem? (i := 800) (by decide +kernel), List.mem_of_getElem? (i := 1197) (by decide +kernel), List.mem_of_getElem? (i := 1198) (by decide +kernel)⟩
theorem lw_p111 : lw_okq (⟨"OneMarkModel", "readsForce", "(I)Z"⟩, 37) := ⟨⟨by decide +kernel, by decide +kernel⟩, List.mem_of_getElem? (i := 800) (by decide +kernel), List.mem_of_getElem? (i := 1203) (by decide +kernel), List.mem_of_getElem? (i := 1204) (by decide +kernel)⟩
def lw_privs_7 : List (MethodName × Nat) := [(⟨"OneMarkModel", "closes", "(III)Z"⟩, 37), (⟨"OneMarkModel", "placeIn", "(I)I"⟩, 37), (⟨"OneMarkModel", "isBadFrom", "(II)Z"⟩, 37), (⟨"OneMarkModel", "addMoves", "(I)V"⟩, 37), (⟨"OneMarkModel", "token", "()V"⟩, 37), (⟨"OneMarkModel", "readsUnit", "()Z"⟩, 37), (⟨"OneMarkModel", "skips", "(II)Z"⟩, 37), (⟨"OneMarkModel", "isWord", "(II)Z"⟩, 37), (⟨"OneMarkModel", "isSign", "(I)Z"⟩, 37), (⟨"OneMarkModel", "readsPlain", "()Z"⟩, 37), (⟨"OneMarkModel", "readsFrom", "(III)Z"⟩, 37), (⟨"OneMarkModel", "readsPlace", "()Z"⟩, 37), (⟨"OneMarkModel", "isNumber", "(I)Z"⟩, 37), (⟨"OneMarkModel", "emit", "(IIII)V"⟩, 37), (⟨"OneMarkModel", "readsMean", "()Z"⟩, 37), (⟨"OneMarkModel", "readsForce", "(I)Z"⟩, 37)]
theorem lw_r7 : ∀ q ∈ lw_privs_7, lw_okq q := List.forall_mem_cons.mpr ⟨lw_p96, List.forall_mem_cons.mpr ⟨lw_p97, List.forall_mem_cons.mpr ⟨lw_p98, List.forall_mem_cons.mpr ⟨lw_p99, List.forall_mem_cons.mpr ⟨lw_p100, List.forall_mem_cons.mpr ⟨lw_p101, List.forall_mem_cons.mpr ⟨lw_p102, List.forall_mem_cons.mpr ⟨lw_p103, List.forall_mem_cons.mpr ⟨lw_p104, List.forall_mem_cons.mpr ⟨lw_p105, List.forall_mem_cons.mpr ⟨lw_p106, List.forall_mem_cons.mpr ⟨lw_p107, List.forall_mem_cons.mpr ⟨lw_p108, List.forall_mem_cons.mpr ⟨lw_p109, List.forall_mem_cons.mpr ⟨lw_p110, List.forall_mem_cons.mpr ⟨lw_p111, fun _ h => absurd h List.not_mem_nil⟩⟩⟩⟩⟩⟩⟩⟩⟩⟩⟩⟩⟩⟩⟩⟩
theorem lw_p112 : lw_okq (⟨"OneMarkModel", "closeAll", "()V"⟩, 37) := ⟨⟨by decide +kernel, by decide +kernel⟩, List.mem_of_getElem? (i := 800) (by decide +kernel), List.mem_of_getElem? (i := 1211) (by decide +kernel), List.mem_of_getElem? (i := 1212) (by decide +kernel)⟩
theorem lw_p113 : lw_okq (⟨"OneMarkModel", "emitWhile", "(I)V"⟩, 37) := ⟨⟨by decide +kernel, by decide +kernel⟩, List.mem_of_getElem? (i := 800) (by decide +kernel), List.mem_of_getElem? (i := 1215) (by decide +kernel), List.mem_of_getElem? (i := 1216) (by decide +kernel)⟩
theorem lw_p114 : lw_okq (⟨"OneMarkModel", "holdsNow", "()Z"⟩, 37) := ⟨⟨by decide +kernel, by decide +kernel⟩, List.mem_of_getElem? (i := 800) (by decide +kernel), List.mem_of_getElem? (i := 1224) (by decide +kernel), List.mem_of_getElem? (i := 1225) (by decide +kernel)⟩
theorem lw_p115 : lw_okq (⟨"OneMarkModel", "plainHolds", "(I)Z"⟩, 37) := ⟨⟨by decide +kernel, by decide +kernel⟩, List.mem_of_getElem? (i := 800) (by decide +kernel), List.mem_of_getElem? (i := 1228) (by decide +kernel), List.mem_of_getElem? (i := 1229) (by decide +kernel)⟩
theorem lw_p116 : lw_okq (⟨"OneMarkModel", "change", "(I)V"⟩, 37) := ⟨⟨by decide +kernel, by decide +kernel⟩, List.mem_of_getElem? (i := 800) (by decide +kernel), List.mem_of_getElem? (i := 1244) (by decide +kernel), List.mem_of_getElem? (i := 1245) (by decide +kernel)⟩
def lw_privs_8 : List (MethodName × Nat) := [(⟨"OneMarkModel", "closeAll", "()V"⟩, 37), (⟨"OneMarkModel", "emitWhile", "(I)V"⟩, 37), (⟨"OneMarkModel", "holdsNow", "()Z"⟩, 37), (⟨"OneMarkModel", "plainHolds", "(I)Z"⟩, 37), (⟨"OneMarkModel", "change", "(I)V"⟩, 37)]
theorem lw_r8 : ∀ q ∈ lw_privs_8, lw_okq q := List.forall_mem_cons.mpr ⟨lw_p112, List.forall_mem_cons.mpr ⟨lw_p113, List.forall_mem_cons.mpr ⟨lw_p114, List.forall_mem_cons.mpr ⟨lw_p115, List.forall_mem_cons.mpr ⟨lw_p116, fun _ h => absurd h List.not_mem_nil⟩⟩⟩⟩⟩
def lw_privs : List (MethodName × Nat) := lw_privs_1 ++ (lw_privs_2 ++ (lw_privs_3 ++ (lw_privs_4 ++ (lw_privs_5 ++ (lw_privs_6 ++ (lw_privs_7 ++ (lw_privs_8)))))))
def lw_tbl : List Cond := k2_sels lw_privs ++ tables_1
theorem lw_privs_ok : ∀ q ∈ lw_privs, lw_okq q := by
  show ∀ q ∈ lw_privs_1 ++ (lw_privs_2 ++ (lw_privs_3 ++ (lw_privs_4 ++ (lw_privs_5 ++ (lw_privs_6 ++ (lw_privs_7 ++ (lw_privs_8))))))), lw_okq q
  exact List.forall_mem_append.mpr ⟨lw_r1, List.forall_mem_append.mpr ⟨lw_r2, List.forall_mem_append.mpr ⟨lw_r3, List.forall_mem_append.mpr ⟨lw_r4, List.forall_mem_append.mpr ⟨lw_r5, List.forall_mem_append.mpr ⟨lw_r6, List.forall_mem_append.mpr ⟨lw_r7, lw_r8⟩⟩⟩⟩⟩⟩⟩
-- ===== end of PART A; then your names; then what follows =====
end
section
def RX0 : String := "OneMark$Board"
def TX0 : u_T := fun k => match k with
  | 0 => ("OneMark$Board", "places", "I", false)
  | 1 => ("OneMark$Board", "arrows", "I", false)
  | 2 => ("OneMark$Board", "ones", "I", false)
  | 3 => ("OneMark$Board", "number", "[I", true)
  | 4 => ("OneMark$Board", "told", "[I", true)
  | 5 => ("OneMark$Board", "start", "[I", true)
  | 6 => ("OneMark$Board", "end", "[I", true)
  | _ => ("OneMark$Board", "weight", "[I", true)
def tyX0 : Nat → FieldType := fun k => match k with
  | 0 => .int
  | 1 => .int
  | 2 => .int
  | 3 => .array .int
  | 4 => .array .int
  | 5 => .array .int
  | 6 => .array .int
  | _ => .array .int
abbrev wsX00 : List Cond := u_ws RX0 TX0 8
theorem nmX0 : ∀ a, a < 8 → ∀ b, b < 8 → a ≠ b → (TX0 a).2.1 ≠ (TX0 b).2.1 := by decide +kernel
theorem tyX0_ok : ∀ k, k < 8 → parseFieldDescriptor (TX0 k).2.2.1 = some (tyX0 k) := by decide +kernel
abbrev cX0_init : ByteArray := prog_2_method_1_code
def yX0_init : MethodName := ⟨RX0, "<init>", "()V"⟩
abbrev cX0_addPlace : ByteArray := prog_2_method_2_code
def yX0_addPlace : MethodName := ⟨RX0, "addPlace", "(II)I"⟩
abbrev cX0_addArrow : ByteArray := prog_2_method_3_code
def yX0_addArrow : MethodName := ⟨RX0, "addArrow", "(III)I"⟩
abbrev cX0_removeArrow : ByteArray := prog_2_method_4_code
def yX0_removeArrow : MethodName := ⟨RX0, "removeArrow", "(I)V"⟩
abbrev cX0_find : ByteArray := prog_2_method_5_code
def yX0_find : MethodName := ⟨RX0, "find", "(II)I"⟩
abbrev cX0_ownerOf : ByteArray := prog_2_method_6_code
def yX0_ownerOf : MethodName := ⟨RX0, "ownerOf", "(I)I"⟩
abbrev cX0_giveTo : ByteArray := prog_2_method_7_code
def yX0_giveTo : MethodName := ⟨RX0, "giveTo", "(II)V"⟩
abbrev cX0_isOpen : ByteArray := prog_2_method_8_code
def yX0_isOpen : MethodName := ⟨RX0, "isOpen", "(II)Z"⟩
abbrev cX0_toldPlaces : ByteArray := prog_2_method_9_code
def yX0_toldPlaces : MethodName := ⟨RX0, "toldPlaces", "()I"⟩
def RX1 : String := "OneMark$Loops"
def TX1 : u_T := fun k => match k with
  | 0 => ("OneMark$Loops", "row", "[I", true)
  | _ => ("OneMark$Loops", "moved", "I", false)
def tyX1 : Nat → FieldType := fun k => match k with
  | 0 => .array .int
  | _ => .int
abbrev wsX10 : List Cond := u_ws RX1 TX1 2
theorem nmX1 : ∀ a, a < 2 → ∀ b, b < 2 → a ≠ b → (TX1 a).2.1 ≠ (TX1 b).2.1 := by decide +kernel
theorem tyX1_ok : ∀ k, k < 2 → parseFieldDescriptor (TX1 k).2.2.1 = some (tyX1 k) := by decide +kernel
abbrev cX1_init : ByteArray := prog_3_method_1_code
def yX1_init : MethodName := ⟨RX1, "<init>", "()V"⟩
abbrev cX1_wrongPlaces : ByteArray := prog_3_method_2_code
def yX1_wrongPlaces : MethodName := ⟨RX1, "wrongPlaces", "(LOneMark$Moves;[II)I"⟩
abbrev cX1_isLeastOfLoop : ByteArray := prog_3_method_3_code
def yX1_isLeastOfLoop : MethodName := ⟨RX1, "isLeastOfLoop", "(LOneMark$Moves;[II)Z"⟩
abbrev cX1_findBreaker : ByteArray := prog_3_method_4_code
def yX1_findBreaker : MethodName := ⟨RX1, "findBreaker", "(LOneMark$Moves;[III)V"⟩
abbrev cX1_isExtended : ByteArray := prog_3_method_5_code
def yX1_isExtended : MethodName := ⟨RX1, "isExtended", "(LOneMark$Loops;LOneMark$Moves;[III)Z"⟩
abbrev cX1_indexOf : ByteArray := prog_3_method_6_code
def yX1_indexOf : MethodName := ⟨RX1, "indexOf", "(II)I"⟩
abbrev cX1_leastOf : ByteArray := prog_3_method_7_code
def yX1_leastOf : MethodName := ⟨RX1, "leastOf", "([III)I"⟩
def RX2 : String := "OneMark$Means"
def TX2 : u_T := fun k => match k with
  | 0 => ("OneMark$Means", "above", "I", false)
  | 1 => ("OneMark$Means", "below", "I", false)
  | 2 => ("OneMark$Means", "loopAbove", "I", false)
  | 3 => ("OneMark$Means", "loopBelow", "I", false)
  | 4 => ("OneMark$Means", "open", "[I", true)
  | 5 => ("OneMark$Means", "least", "[[I", true)
  | 6 => ("OneMark$Means", "sum", "[I", true)
  | _ => ("OneMark$Means", "newSum", "[I", true)
def tyX2 : Nat → FieldType := fun k => match k with
  | 0 => .int
  | 1 => .int
  | 2 => .int
  | 3 => .int
  | 4 => .array .int
  | 5 => .array (.array .int)
  | 6 => .array .int
  | _ => .array .int
abbrev wsX20 : List Cond := u_ws RX2 TX2 8
theorem nmX2 : ∀ a, a < 8 → ∀ b, b < 8 → a ≠ b → (TX2 a).2.1 ≠ (TX2 b).2.1 := by decide +kernel
theorem tyX2_ok : ∀ k, k < 8 → parseFieldDescriptor (TX2 k).2.2.1 = some (tyX2 k) := by decide +kernel
abbrev cX2_init : ByteArray := prog_4_method_1_code
def yX2_init : MethodName := ⟨RX2, "<init>", "()V"⟩
abbrev cX2_sumAfter : ByteArray := prog_4_method_2_code
def yX2_sumAfter : MethodName := ⟨RX2, "sumAfter", "(LOneMark$Moves;II)I"⟩
abbrev cX2_addMove : ByteArray := prog_4_method_3_code
def yX2_addMove : MethodName := ⟨RX2, "addMove", "(LOneMark$Moves;)V"⟩
abbrev cX2_findSure : ByteArray := prog_4_method_4_code
def yX2_findSure : MethodName := ⟨RX2, "findSure", "(LOneMark$Moves;II)V"⟩
abbrev cX2_isHeld : ByteArray := prog_4_method_5_code
def yX2_isHeld : MethodName := ⟨RX2, "isHeld", "(LOneMark$Moves;III)Z"⟩
abbrev cX2_isRaised : ByteArray := prog_4_method_6_code
def yX2_isRaised : MethodName := ⟨RX2, "isRaised", "(LOneMark$Moves;III)Z"⟩
abbrev cX2_findLeft : ByteArray := prog_4_method_7_code
def yX2_findLeft : MethodName := ⟨RX2, "findLeft", "(LOneMark$Moves;II)V"⟩
abbrev cX2_plansOf : ByteArray := prog_4_method_8_code
def yX2_plansOf : MethodName := ⟨RX2, "plansOf", "(LOneMark$Moves;I)I"⟩
abbrev cX2_findBest : ByteArray := prog_4_method_9_code
def yX2_findBest : MethodName := ⟨RX2, "findBest", "(LOneMark$Moves;IIII)V"⟩
abbrev cX2_choosePlan : ByteArray := prog_4_method_10_code
def yX2_choosePlan : MethodName := ⟨RX2, "choosePlan", "(LOneMark$Moves;II)V"⟩
abbrev cX2_bitAt : ByteArray := prog_4_method_11_code
def yX2_bitAt : MethodName := ⟨RX2, "bitAt", "(II)I"⟩
abbrev cX2_findLeastLoop : ByteArray := prog_4_method_12_code
def yX2_findLeastLoop : MethodName := ⟨RX2, "findLeastLoop", "(LOneMark$Moves;II)V"⟩
abbrev cX2_walk : ByteArray := prog_4_method_13_code
def yX2_walk : MethodName := ⟨RX2, "walk", "(LOneMark$Moves;II)V"⟩
def RX3 : String := "OneMark$Moves"
def TX3 : u_T := fun k => match k with
  | 0 => ("OneMark$Moves", "places", "I", false)
  | 1 => ("OneMark$Moves", "ones", "I", false)
  | 2 => ("OneMark$Moves", "size", "I", false)
  | 3 => ("OneMark$Moves", "start", "[I", true)
  | 4 => ("OneMark$Moves", "end", "[I", true)
  | 5 => ("OneMark$Moves", "weight", "[I", true)
  | _ => ("OneMark$Moves", "next", "[I", true)
def tyX3 : Nat → FieldType := fun k => match k with
  | 0 => .int
  | 1 => .int
  | 2 => .int
  | 3 => .array .int
  | 4 => .array .int
  | 5 => .array .int
  | _ => .array .int
abbrev wsX30 : List Cond := u_ws RX3 TX3 7
theorem nmX3 : ∀ a, a < 7 → ∀ b, b < 7 → a ≠ b → (TX3 a).2.1 ≠ (TX3 b).2.1 := by decide +kernel
theorem tyX3_ok : ∀ k, k < 7 → parseFieldDescriptor (TX3 k).2.2.1 = some (tyX3 k) := by decide +kernel
abbrev cX3_init : ByteArray := prog_5_method_1_code
def yX3_init : MethodName := ⟨RX3, "<init>", "()V"⟩
abbrev cX3_load : ByteArray := prog_5_method_2_code
def yX3_load : MethodName := ⟨RX3, "load", "(LOneMark$Board;II)V"⟩
abbrev cX3_loadTold : ByteArray := prog_5_method_3_code
def yX3_loadTold : MethodName := ⟨RX3, "loadTold", "(LOneMark$Board;I)V"⟩
abbrev cX3_clear : ByteArray := prog_5_method_4_code
def yX3_clear : MethodName := ⟨RX3, "clear", "(LOneMark$Board;I)V"⟩
abbrev cX3_add : ByteArray := prog_5_method_5_code
def yX3_add : MethodName := ⟨RX3, "add", "(III)V"⟩
abbrev cX3_addStays : ByteArray := prog_5_method_6_code
def yX3_addStays : MethodName := ⟨RX3, "addStays", "()V"⟩
abbrev cX3_weighBySet : ByteArray := prog_5_method_7_code
def yX3_weighBySet : MethodName := ⟨RX3, "weighBySet", "(I)V"⟩
abbrev cX3_everywhere : ByteArray := prog_5_method_8_code
def yX3_everywhere : MethodName := ⟨RX3, "everywhere", "()I"⟩
abbrev cX3_placesOf : ByteArray := prog_5_method_9_code
def yX3_placesOf : MethodName := ⟨RX3, "placesOf", "(I)I"⟩
abbrev cX3_branching : ByteArray := prog_5_method_10_code
def yX3_branching : MethodName := ⟨RX3, "branching", "()I"⟩
abbrev cX3_oneMoveFrom : ByteArray := prog_5_method_11_code
def yX3_oneMoveFrom : MethodName := ⟨RX3, "oneMoveFrom", "(III)I"⟩
abbrev cX3_attracted : ByteArray := prog_5_method_12_code
def yX3_attracted : MethodName := ⟨RX3, "attracted", "(III)I"⟩
abbrev cX3_movesInto : ByteArray := prog_5_method_13_code
def yX3_movesInto : MethodName := ⟨RX3, "movesInto", "(III)I"⟩
abbrev cX3_keeping : ByteArray := prog_5_method_14_code
def yX3_keeping : MethodName := ⟨RX3, "keeping", "(II)I"⟩
abbrev cX3_meeting : ByteArray := prog_5_method_15_code
def yX3_meeting : MethodName := ⟨RX3, "meeting", "(III)I"⟩
abbrev cX3_withoutLost : ByteArray := prog_5_method_16_code
def yX3_withoutLost : MethodName := ⟨RX3, "withoutLost", "(III)I"⟩
abbrev cX3_wonBy : ByteArray := prog_5_method_17_code
def yX3_wonBy : MethodName := ⟨RX3, "wonBy", "(I[I)I"⟩
abbrev cX3_evenPlaces : ByteArray := prog_5_method_18_code
def yX3_evenPlaces : MethodName := ⟨RX3, "evenPlaces", "(LOneMark$Moves;[III)I"⟩
abbrev cX3_leastNumber : ByteArray := prog_5_method_19_code
def yX3_leastNumber : MethodName := ⟨RX3, "leastNumber", "(LOneMark$Moves;[II)I"⟩
abbrev cX3_holders : ByteArray := prog_5_method_20_code
def yX3_holders : MethodName := ⟨RX3, "holders", "(LOneMark$Moves;[III)I"⟩
def RX4 : String := "OneMark$Question"
def TX4 : u_T := fun k => match k with
  | 0 => ("OneMark$Question", "units", "I", false)
  | 1 => ("OneMark$Question", "kind", "[I", true)
  | 2 => ("OneMark$Question", "player", "[I", true)
  | 3 => ("OneMark$Question", "bits", "[I", true)
  | 4 => ("OneMark$Question", "at", "[I", true)
  | 5 => ("OneMark$Question", "bound", "[I", true)
  | 6 => ("OneMark$Question", "size", "I", false)
  | 7 => ("OneMark$Question", "code", "[I", true)
  | 8 => ("OneMark$Question", "held", "I", false)
  | 9 => ("OneMark$Question", "waiting", "[I", true)
  | _ => ("OneMark$Question", "unit", "I", false)
def tyX4 : Nat → FieldType := fun k => match k with
  | 0 => .int
  | 1 => .array .int
  | 2 => .array .int
  | 3 => .array .int
  | 4 => .array .int
  | 5 => .array .int
  | 6 => .int
  | 7 => .array .int
  | 8 => .int
  | 9 => .array .int
  | _ => .int
abbrev wsX40 : List Cond := u_ws RX4 TX4 11
theorem nmX4 : ∀ a, a < 11 → ∀ b, b < 11 → a ≠ b → (TX4 a).2.1 ≠ (TX4 b).2.1 := by decide +kernel
theorem tyX4_ok : ∀ k, k < 11 → parseFieldDescriptor (TX4 k).2.2.1 = some (tyX4 k) := by decide +kernel
abbrev cX4_init : ByteArray := prog_6_method_1_code
def yX4_init : MethodName := ⟨RX4, "<init>", "()V"⟩
abbrev cX4_clear : ByteArray := prog_6_method_2_code
def yX4_clear : MethodName := ⟨RX4, "clear", "()V"⟩
abbrev cX4_begin : ByteArray := prog_6_method_3_code
def yX4_begin : MethodName := ⟨RX4, "begin", "(II)V"⟩
abbrev cX4_endUnit : ByteArray := prog_6_method_4_code
def yX4_endUnit : MethodName := ⟨RX4, "endUnit", "()V"⟩
abbrev cX4_hold : ByteArray := prog_6_method_5_code
def yX4_hold : MethodName := ⟨RX4, "hold", "(I)V"⟩
abbrev cX4_lastHeld : ByteArray := prog_6_method_6_code
def yX4_lastHeld : MethodName := ⟨RX4, "lastHeld", "()I"⟩
abbrev cX4_emit : ByteArray := prog_6_method_7_code
def yX4_emit : MethodName := ⟨RX4, "emit", "(I)V"⟩
abbrev cX4_emitNots : ByteArray := prog_6_method_8_code
def yX4_emitNots : MethodName := ⟨RX4, "emitNots", "()V"⟩
abbrev cX4_join : ByteArray := prog_6_method_9_code
def yX4_join : MethodName := ⟨RX4, "join", "(I)V"⟩
abbrev cX4_closeParenthesis : ByteArray := prog_6_method_10_code
def yX4_closeParenthesis : MethodName := ⟨RX4, "closeParenthesis", "()V"⟩
abbrev cX4_emitHeld : ByteArray := prog_6_method_11_code
def yX4_emitHeld : MethodName := ⟨RX4, "emitHeld", "()V"⟩
abbrev cX4_isTrue : ByteArray := prog_6_method_12_code
def yX4_isTrue : MethodName := ⟨RX4, "isTrue", "(LOneMark$Board;LOneMark$Moves;LOneMark$Means;II)Z"⟩
abbrev cX4_isUnitTrue : ByteArray := prog_6_method_13_code
def yX4_isUnitTrue : MethodName := ⟨RX4, "isUnitTrue", "(ILOneMark$Moves;LOneMark$Means;[I)Z"⟩
def RX5 : String := "OneMark$Reader"
def TX5 : u_T := fun k => match k with
  | 0 => ("OneMark$Reader", "length", "I", false)
  | 1 => ("OneMark$Reader", "bytes", "[I", true)
  | 2 => ("OneMark$Reader", "cursor", "I", false)
  | 3 => ("OneMark$Reader", "first", "I", false)
  | 4 => ("OneMark$Reader", "token", "I", false)
  | 5 => ("OneMark$Reader", "value", "I", false)
  | 6 => ("OneMark$Reader", "depth", "I", false)
  | _ => ("OneMark$Reader", "question", "LOneMark$Question;", false)
def tyX5 : Nat → FieldType := fun k => match k with
  | 0 => .int
  | 1 => .array .int
  | 2 => .int
  | 3 => .int
  | 4 => .int
  | 5 => .int
  | 6 => .int
  | _ => .object "OneMark$Question"
abbrev wsX50 : List Cond := u_ws RX5 TX5 8
theorem nmX5 : ∀ a, a < 8 → ∀ b, b < 8 → a ≠ b → (TX5 a).2.1 ≠ (TX5 b).2.1 := by decide +kernel
theorem tyX5_ok : ∀ k, k < 8 → parseFieldDescriptor (TX5 k).2.2.1 = some (tyX5 k) := by decide +kernel
abbrev cX5_init : ByteArray := prog_7_method_1_code
def yX5_init : MethodName := ⟨RX5, "<init>", "()V"⟩
abbrev cX5_add : ByteArray := prog_7_method_2_code
def yX5_add : MethodName := ⟨RX5, "add", "(I)V"⟩
abbrev cX5_read : ByteArray := prog_7_method_3_code
def yX5_read : MethodName := ⟨RX5, "read", "(LOneMark$Question;I)I"⟩
abbrev cX5_stateAfter : ByteArray := prog_7_method_4_code
def yX5_stateAfter : MethodName := ⟨RX5, "stateAfter", "(II)I"⟩
abbrev cX5_beginUnit : ByteArray := prog_7_method_5_code
def yX5_beginUnit : MethodName := ⟨RX5, "beginUnit", "()I"⟩
abbrev cX5_joinUnits : ByteArray := prog_7_method_6_code
def yX5_joinUnits : MethodName := ⟨RX5, "joinUnits", "()I"⟩
abbrev cX5_takeVerb : ByteArray := prog_7_method_7_code
def yX5_takeVerb : MethodName := ⟨RX5, "takeVerb", "()I"⟩
abbrev cX5_takeMember : ByteArray := prog_7_method_8_code
def yX5_takeMember : MethodName := ⟨RX5, "takeMember", "(I)I"⟩
abbrev cX5_takePlace : ByteArray := prog_7_method_9_code
def yX5_takePlace : MethodName := ⟨RX5, "takePlace", "(I)Z"⟩
abbrev cX5_takeSide : ByteArray := prog_7_method_10_code
def yX5_takeSide : MethodName := ⟨RX5, "takeSide", "()I"⟩
abbrev cX5_takeBound : ByteArray := prog_7_method_11_code
def yX5_takeBound : MethodName := ⟨RX5, "takeBound", "()Z"⟩
abbrev cX5_endUnit : ByteArray := prog_7_method_12_code
def yX5_endUnit : MethodName := ⟨RX5, "endUnit", "()I"⟩
abbrev cX5_isPlaceNumber : ByteArray := prog_7_method_13_code
def yX5_isPlaceNumber : MethodName := ⟨RX5, "isPlaceNumber", "(I)Z"⟩
abbrev cX5_readToken : ByteArray := prog_7_method_14_code
def yX5_readToken : MethodName := ⟨RX5, "readToken", "()V"⟩
abbrev cX5_isLetter : ByteArray := prog_7_method_15_code
def yX5_isLetter : MethodName := ⟨RX5, "isLetter", "(I)Z"⟩
abbrev cX5_isDigit : ByteArray := prog_7_method_16_code
def yX5_isDigit : MethodName := ⟨RX5, "isDigit", "(I)Z"⟩
abbrev cX5_numberValue : ByteArray := prog_7_method_17_code
def yX5_numberValue : MethodName := ⟨RX5, "numberValue", "()I"⟩
abbrev cX5_wordToken : ByteArray := prog_7_method_18_code
def yX5_wordToken : MethodName := ⟨RX5, "wordToken", "()I"⟩
abbrev cX5_isWord : ByteArray := prog_7_method_19_code
def yX5_isWord : MethodName := ⟨RX5, "isWord", "(Ljava/lang/String;)Z"⟩
def RX6 : String := "OneMark"
def TX6 : u_T := fun k => match k with
  | 0 => ("OneMark", "board", "LOneMark$Board;", true)
  | 1 => ("OneMark", "moves", "LOneMark$Moves;", true)
  | 2 => ("OneMark", "loops", "LOneMark$Loops;", true)
  | 3 => ("OneMark", "means", "LOneMark$Means;", true)
  | 4 => ("OneMark", "reader", "LOneMark$Reader;", true)
  | 5 => ("OneMark", "asked", "LOneMark$Question;", false)
  | _ => ("OneMark", "draft", "LOneMark$Question;", false)
def tyX6 : Nat → FieldType := fun k => match k with
  | 0 => .object "OneMark$Board"
  | 1 => .object "OneMark$Moves"
  | 2 => .object "OneMark$Loops"
  | 3 => .object "OneMark$Means"
  | 4 => .object "OneMark$Reader"
  | 5 => .object "OneMark$Question"
  | _ => .object "OneMark$Question"
abbrev wsX60 : List Cond := u_ws RX6 TX6 7
theorem nmX6 : ∀ a, a < 7 → ∀ b, b < 7 → a ≠ b → (TX6 a).2.1 ≠ (TX6 b).2.1 := by decide +kernel
theorem tyX6_ok : ∀ k, k < 7 → parseFieldDescriptor (TX6 k).2.2.1 = some (tyX6 k) := by decide +kernel
abbrev cX6_init : ByteArray := prog_1_method_1_code
def yX6_init : MethodName := ⟨RX6, "<init>", "()V"⟩
abbrev cX6_place : ByteArray := prog_1_method_2_code
def yX6_place : MethodName := ⟨RX6, "place", "(II)I"⟩
abbrev cX6_arrow : ByteArray := prog_1_method_3_code
def yX6_arrow : MethodName := ⟨RX6, "arrow", "(III)I"⟩
abbrev cX6_cut : ByteArray := prog_1_method_4_code
def yX6_cut : MethodName := ⟨RX6, "cut", "(I)I"⟩
abbrev cX6_give : ByteArray := prog_1_method_5_code
def yX6_give : MethodName := ⟨RX6, "give", "(II)I"⟩
abbrev cX6_set : ByteArray := prog_1_method_6_code
def yX6_set : MethodName := ⟨RX6, "set", "(III)I"⟩
abbrev cX6_from : ByteArray := prog_1_method_7_code
def yX6_from : MethodName := ⟨RX6, "from", "(II)I"⟩
abbrev cX6_forced : ByteArray := prog_1_method_8_code
def yX6_forced : MethodName := ⟨RX6, "forced", "(II)I"⟩
abbrev cX6_steps : ByteArray := prog_1_method_9_code
def yX6_steps : MethodName := ⟨RX6, "steps", "(III)I"⟩
abbrev cX6_kept : ByteArray := prog_1_method_10_code
def yX6_kept : MethodName := ⟨RX6, "kept", "(II)I"⟩
abbrev cX6_again : ByteArray := prog_1_method_11_code
def yX6_again : MethodName := ⟨RX6, "again", "(II)I"⟩
abbrev cX6_both : ByteArray := prog_1_method_12_code
def yX6_both : MethodName := ⟨RX6, "both", "(III)I"⟩
abbrev cX6_won : ByteArray := prog_1_method_13_code
def yX6_won : MethodName := ⟨RX6, "won", "()I"⟩
abbrev cX6_plan : ByteArray := prog_1_method_14_code
def yX6_plan : MethodName := ⟨RX6, "plan", "(I)I"⟩
abbrev cX6_narrowed : ByteArray := prog_1_method_15_code
def yX6_narrowed : MethodName := ⟨RX6, "narrowed", "(III)I"⟩
abbrev cX6_after : ByteArray := prog_1_method_16_code
def yX6_after : MethodName := ⟨RX6, "after", "(II)I"⟩
abbrev cX6_mean : ByteArray := prog_1_method_17_code
def yX6_mean : MethodName := ⟨RX6, "mean", "(II)I"⟩
abbrev cX6_rate : ByteArray := prog_1_method_18_code
def yX6_rate : MethodName := ⟨RX6, "rate", "(IIII)I"⟩
abbrev cX6_tell : ByteArray := prog_1_method_19_code
def yX6_tell : MethodName := ⟨RX6, "tell", "(I)I"⟩
abbrev cX6_untell : ByteArray := prog_1_method_20_code
def yX6_untell : MethodName := ⟨RX6, "untell", "(I)I"⟩
abbrev cX6_judged : ByteArray := prog_1_method_21_code
def yX6_judged : MethodName := ⟨RX6, "judged", "(I)I"⟩
abbrev cX6_breaker : ByteArray := prog_1_method_22_code
def yX6_breaker : MethodName := ⟨RX6, "breaker", "(III)I"⟩
abbrev cX6_worth : ByteArray := prog_1_method_23_code
def yX6_worth : MethodName := ⟨RX6, "worth", "(III)I"⟩
abbrev cX6_oddness : ByteArray := prog_1_method_24_code
def yX6_oddness : MethodName := ⟨RX6, "oddness", "(I)I"⟩
abbrev cX6_write : ByteArray := prog_1_method_25_code
def yX6_write : MethodName := ⟨RX6, "write", "(JI)I"⟩
abbrev cX6_erase : ByteArray := prog_1_method_26_code
def yX6_erase : MethodName := ⟨RX6, "erase", "()I"⟩
abbrev cX6_fault : ByteArray := prog_1_method_27_code
def yX6_fault : MethodName := ⟨RX6, "fault", "()I"⟩
abbrev cX6_ask : ByteArray := prog_1_method_28_code
def yX6_ask : MethodName := ⟨RX6, "ask", "()I"⟩
abbrev cX6_holds : ByteArray := prog_1_method_29_code
def yX6_holds : MethodName := ⟨RX6, "holds", "()I"⟩
abbrev cX6_turned : ByteArray := prog_1_method_30_code
def yX6_turned : MethodName := ⟨RX6, "turned", "()I"⟩
abbrev cX6_bought : ByteArray := prog_1_method_31_code
def yX6_bought : MethodName := ⟨RX6, "bought", "()I"⟩
abbrev cX6_count : ByteArray := prog_1_method_32_code
def yX6_count : MethodName := ⟨RX6, "count", "(I)I"⟩
abbrev cX6_isPlayer : ByteArray := prog_1_method_33_code
def yX6_isPlayer : MethodName := ⟨RX6, "isPlayer", "(I)Z"⟩
abbrev cX6_isNumber : ByteArray := prog_1_method_34_code
def yX6_isNumber : MethodName := ⟨RX6, "isNumber", "(I)Z"⟩
abbrev cX6_isWeight : ByteArray := prog_1_method_35_code
def yX6_isWeight : MethodName := ⟨RX6, "isWeight", "(I)Z"⟩
abbrev cX6_isPart : ByteArray := prog_1_method_36_code
def yX6_isPart : MethodName := ⟨RX6, "isPart", "(I)Z"⟩
abbrev cX6_isPlace : ByteArray := prog_1_method_37_code
def yX6_isPlace : MethodName := ⟨RX6, "isPlace", "(I)Z"⟩
abbrev cX6_isArrow : ByteArray := prog_1_method_38_code
def yX6_isArrow : MethodName := ⟨RX6, "isArrow", "(I)Z"⟩
abbrev cX6_isSet : ByteArray := prog_1_method_39_code
def yX6_isSet : MethodName := ⟨RX6, "isSet", "(I)Z"⟩
def RX7 : String := "OneMarkModel"
def TX7 : u_T := fun k => match k with
  | 0 => ("OneMarkModel", "whose", "[I", true)
  | 1 => ("OneMarkModel", "number", "[I", true)
  | 2 => ("OneMarkModel", "places", "I", false)
  | 3 => ("OneMarkModel", "tail", "[I", true)
  | 4 => ("OneMarkModel", "head", "[I", true)
  | 5 => ("OneMarkModel", "weight", "[I", true)
  | 6 => ("OneMarkModel", "arrows", "I", false)
  | 7 => ("OneMarkModel", "told", "[I", true)
  | 8 => ("OneMarkModel", "text", "[I", true)
  | 9 => ("OneMarkModel", "length", "I", false)
  | 10 => ("OneMarkModel", "kinds", "[I", true)
  | 11 => ("OneMarkModel", "players", "[I", true)
  | 12 => ("OneMarkModel", "sets", "[I", true)
  | 13 => ("OneMarkModel", "ats", "[I", true)
  | 14 => ("OneMarkModel", "readMany", "I", false)
  | 15 => ("OneMarkModel", "askedMany", "I", false)
  | 16 => ("OneMarkModel", "moves", "[I", true)
  | 17 => ("OneMarkModel", "alone", "[I", true)
  | 18 => ("OneMarkModel", "without", "I", false)
  | 19 => ("OneMarkModel", "measure", "[I", true)
  | 20 => ("OneMarkModel", "most", "[I", true)
  | 21 => ("OneMarkModel", "value", "[I", true)
  | 22 => ("OneMarkModel", "then", "[I", true)
  | 23 => ("OneMarkModel", "above", "I", false)
  | 24 => ("OneMarkModel", "below", "I", false)
  | 25 => ("OneMarkModel", "row", "[I", true)
  | 26 => ("OneMarkModel", "rowMany", "I", false)
  | 27 => ("OneMarkModel", "sums", "[I", true)
  | 28 => ("OneMarkModel", "more", "[I", true)
  | 29 => ("OneMarkModel", "at", "I", false)
  | 30 => ("OneMarkModel", "place", "I", false)
  | 31 => ("OneMarkModel", "end", "I", false)
  | 32 => ("OneMarkModel", "figure", "I", false)
  | 33 => ("OneMarkModel", "open", "[I", true)
  | 34 => ("OneMarkModel", "opens", "I", false)
  | 35 => ("OneMarkModel", "brackets", "I", false)
  | _ => ("OneMarkModel", "stack", "[Z", true)
def tyX7 : Nat → FieldType := fun k => match k with
  | 0 => .array .int
  | 1 => .array .int
  | 2 => .int
  | 3 => .array .int
  | 4 => .array .int
  | 5 => .array .int
  | 6 => .int
  | 7 => .array .int
  | 8 => .array .int
  | 9 => .int
  | 10 => .array .int
  | 11 => .array .int
  | 12 => .array .int
  | 13 => .array .int
  | 14 => .int
  | 15 => .int
  | 16 => .array .int
  | 17 => .array .int
  | 18 => .int
  | 19 => .array .int
  | 20 => .array .int
  | 21 => .array .int
  | 22 => .array .int
  | 23 => .int
  | 24 => .int
  | 25 => .array .int
  | 26 => .int
  | 27 => .array .int
  | 28 => .array .int
  | 29 => .int
  | 30 => .int
  | 31 => .int
  | 32 => .int
  | 33 => .array .int
  | 34 => .int
  | 35 => .int
  | _ => .array .boolean
abbrev wsX70 : List Cond := u_ws RX7 TX7 37
theorem nmX7 : ∀ a, a < 37 → ∀ b, b < 37 → a ≠ b → (TX7 a).2.1 ≠ (TX7 b).2.1 := by decide +kernel
theorem tyX7_ok : ∀ k, k < 37 → parseFieldDescriptor (TX7 k).2.2.1 = some (tyX7 k) := by decide +kernel
abbrev cX7_init : ByteArray := prog_9_method_1_code
def yX7_init : MethodName := ⟨RX7, "<init>", "()V"⟩
abbrev cX7_in : ByteArray := prog_9_method_2_code
def yX7_in : MethodName := ⟨RX7, "in", "(JJJ)Z"⟩
abbrev cX7_isPlace : ByteArray := prog_9_method_3_code
def yX7_isPlace : MethodName := ⟨RX7, "isPlace", "(I)Z"⟩
abbrev cX7_isArrow : ByteArray := prog_9_method_4_code
def yX7_isArrow : MethodName := ⟨RX7, "isArrow", "(I)Z"⟩
abbrev cX7_isSet : ByteArray := prog_9_method_5_code
def yX7_isSet : MethodName := ⟨RX7, "isSet", "(I)Z"⟩
abbrev cX7_isPlayer : ByteArray := prog_9_method_6_code
def yX7_isPlayer : MethodName := ⟨RX7, "isPlayer", "(I)Z"⟩
abbrev cX7_place : ByteArray := prog_9_method_7_code
def yX7_place : MethodName := ⟨RX7, "place", "(II)I"⟩
abbrev cX7_arrowOf : ByteArray := prog_9_method_8_code
def yX7_arrowOf : MethodName := ⟨RX7, "arrowOf", "(II)I"⟩
abbrev cX7_arrow : ByteArray := prog_9_method_9_code
def yX7_arrow : MethodName := ⟨RX7, "arrow", "(III)I"⟩
abbrev cX7_cut : ByteArray := prog_9_method_10_code
def yX7_cut : MethodName := ⟨RX7, "cut", "(I)I"⟩
abbrev cX7_give : ByteArray := prog_9_method_11_code
def yX7_give : MethodName := ⟨RX7, "give", "(II)I"⟩
abbrev cX7_set : ByteArray := prog_9_method_12_code
def yX7_set : MethodName := ⟨RX7, "set", "(III)I"⟩
abbrev cX7_from : ByteArray := prog_9_method_13_code
def yX7_from : MethodName := ⟨RX7, "from", "(II)I"⟩
abbrev cX7_isUsed : ByteArray := prog_9_method_14_code
def yX7_isUsed : MethodName := ⟨RX7, "isUsed", "(I)Z"⟩
abbrev cX7_layMoves : ByteArray := prog_9_method_15_code
def yX7_layMoves : MethodName := ⟨RX7, "layMoves", "()V"⟩
abbrev cX7_noneAlone : ByteArray := prog_9_method_16_code
def yX7_noneAlone : MethodName := ⟨RX7, "noneAlone", "()V"⟩
abbrev cX7_bring : ByteArray := prog_9_method_17_code
def yX7_bring : MethodName := ⟨RX7, "bring", "(II)I"⟩
abbrev cX7_forcedTo : ByteArray := prog_9_method_18_code
def yX7_forcedTo : MethodName := ⟨RX7, "forcedTo", "(II)I"⟩
abbrev cX7_forced : ByteArray := prog_9_method_19_code
def yX7_forced : MethodName := ⟨RX7, "forced", "(II)I"⟩
abbrev cX7_steps : ByteArray := prog_9_method_20_code
def yX7_steps : MethodName := ⟨RX7, "steps", "(III)I"⟩
abbrev cX7_keptIn : ByteArray := prog_9_method_21_code
def yX7_keptIn : MethodName := ⟨RX7, "keptIn", "(II)I"⟩
abbrev cX7_kept : ByteArray := prog_9_method_22_code
def yX7_kept : MethodName := ⟨RX7, "kept", "(II)I"⟩
abbrev cX7_bothOf : ByteArray := prog_9_method_23_code
def yX7_bothOf : MethodName := ⟨RX7, "bothOf", "(III)I"⟩
abbrev cX7_again : ByteArray := prog_9_method_24_code
def yX7_again : MethodName := ⟨RX7, "again", "(II)I"⟩
abbrev cX7_both : ByteArray := prog_9_method_25_code
def yX7_both : MethodName := ⟨RX7, "both", "(III)I"⟩
abbrev cX7_unit : ByteArray := prog_9_method_26_code
def yX7_unit : MethodName := ⟨RX7, "unit", "(I)I"⟩
abbrev cX7_needed : ByteArray := prog_9_method_27_code
def yX7_needed : MethodName := ⟨RX7, "needed", "(II)I"⟩
abbrev cX7_liftOf : ByteArray := prog_9_method_28_code
def yX7_liftOf : MethodName := ⟨RX7, "liftOf", "(I)I"⟩
abbrev cX7_wonNow : ByteArray := prog_9_method_29_code
def yX7_wonNow : MethodName := ⟨RX7, "wonNow", "()I"⟩
abbrev cX7_won : ByteArray := prog_9_method_30_code
def yX7_won : MethodName := ⟨RX7, "won", "()I"⟩
abbrev cX7_wonBy : ByteArray := prog_9_method_31_code
def yX7_wonBy : MethodName := ⟨RX7, "wonBy", "(I)I"⟩
abbrev cX7_hasArrows : ByteArray := prog_9_method_32_code
def yX7_hasArrows : MethodName := ⟨RX7, "hasArrows", "(I)Z"⟩
abbrev cX7_plan : ByteArray := prog_9_method_33_code
def yX7_plan : MethodName := ⟨RX7, "plan", "(I)I"⟩
abbrev cX7_weightOf : ByteArray := prog_9_method_34_code
def yX7_weightOf : MethodName := ⟨RX7, "weightOf", "(II)I"⟩
abbrev cX7_oneMore : ByteArray := prog_9_method_35_code
def yX7_oneMore : MethodName := ⟨RX7, "oneMore", "(II)V"⟩
abbrev cX7_layValues : ByteArray := prog_9_method_36_code
def yX7_layValues : MethodName := ⟨RX7, "layValues", "(III)V"⟩
abbrev cX7_after : ByteArray := prog_9_method_37_code
def yX7_after : MethodName := ⟨RX7, "after", "(II)I"⟩
abbrev cX7_nearest : ByteArray := prog_9_method_38_code
def yX7_nearest : MethodName := ⟨RX7, "nearest", "(I)V"⟩
abbrev cX7_mean : ByteArray := prog_9_method_39_code
def yX7_mean : MethodName := ⟨RX7, "mean", "(II)I"⟩
abbrev cX7_rate : ByteArray := prog_9_method_40_code
def yX7_rate : MethodName := ⟨RX7, "rate", "(IIII)I"⟩
abbrev cX7_tell : ByteArray := prog_9_method_41_code
def yX7_tell : MethodName := ⟨RX7, "tell", "(I)I"⟩
abbrev cX7_untell : ByteArray := prog_9_method_42_code
def yX7_untell : MethodName := ⟨RX7, "untell", "(I)I"⟩
abbrev cX7_layTold : ByteArray := prog_9_method_43_code
def yX7_layTold : MethodName := ⟨RX7, "layTold", "(I)V"⟩
abbrev cX7_reachFrom : ByteArray := prog_9_method_44_code
def yX7_reachFrom : MethodName := ⟨RX7, "reachFrom", "(II)I"⟩
abbrev cX7_badFor : ByteArray := prog_9_method_45_code
def yX7_badFor : MethodName := ⟨RX7, "badFor", "(I)I"⟩
abbrev cX7_rightOf : ByteArray := prog_9_method_46_code
def yX7_rightOf : MethodName := ⟨RX7, "rightOf", "(I)I"⟩
abbrev cX7_judged : ByteArray := prog_9_method_47_code
def yX7_judged : MethodName := ⟨RX7, "judged", "(I)I"⟩
abbrev cX7_placeIn : ByteArray := prog_9_method_48_code
def yX7_placeIn : MethodName := ⟨RX7, "placeIn", "(I)I"⟩
abbrev cX7_isBadFrom : ByteArray := prog_9_method_49_code
def yX7_isBadFrom : MethodName := ⟨RX7, "isBadFrom", "(II)Z"⟩
abbrev cX7_closes : ByteArray := prog_9_method_50_code
def yX7_closes : MethodName := ⟨RX7, "closes", "(III)Z"⟩
abbrev cX7_breaker : ByteArray := prog_9_method_51_code
def yX7_breaker : MethodName := ⟨RX7, "breaker", "(III)I"⟩
abbrev cX7_worth : ByteArray := prog_9_method_52_code
def yX7_worth : MethodName := ⟨RX7, "worth", "(III)I"⟩
abbrev cX7_addMoves : ByteArray := prog_9_method_53_code
def yX7_addMoves : MethodName := ⟨RX7, "addMoves", "(I)V"⟩
abbrev cX7_divisor : ByteArray := prog_9_method_54_code
def yX7_divisor : MethodName := ⟨RX7, "divisor", "(II)I"⟩
abbrev cX7_write : ByteArray := prog_9_method_55_code
def yX7_write : MethodName := ⟨RX7, "write", "(JI)I"⟩
abbrev cX7_erase : ByteArray := prog_9_method_56_code
def yX7_erase : MethodName := ⟨RX7, "erase", "()I"⟩
abbrev cX7_sort : ByteArray := prog_9_method_57_code
def yX7_sort : MethodName := ⟨RX7, "sort", "(I)I"⟩
abbrev cX7_token : ByteArray := prog_9_method_58_code
def yX7_token : MethodName := ⟨RX7, "token", "()V"⟩
abbrev cX7_isWord : ByteArray := prog_9_method_59_code
def yX7_isWord : MethodName := ⟨RX7, "isWord", "(II)Z"⟩
abbrev cX7_skips : ByteArray := prog_9_method_60_code
def yX7_skips : MethodName := ⟨RX7, "skips", "(II)Z"⟩
abbrev cX7_isSign : ByteArray := prog_9_method_61_code
def yX7_isSign : MethodName := ⟨RX7, "isSign", "(I)Z"⟩
abbrev cX7_isNumber : ByteArray := prog_9_method_62_code
def yX7_isNumber : MethodName := ⟨RX7, "isNumber", "(I)Z"⟩
abbrev cX7_emit : ByteArray := prog_9_method_63_code
def yX7_emit : MethodName := ⟨RX7, "emit", "(IIII)V"⟩
abbrev cX7_readsPlace : ByteArray := prog_9_method_64_code
def yX7_readsPlace : MethodName := ⟨RX7, "readsPlace", "()Z"⟩
abbrev cX7_readsFrom : ByteArray := prog_9_method_65_code
def yX7_readsFrom : MethodName := ⟨RX7, "readsFrom", "(III)Z"⟩
abbrev cX7_readsForce : ByteArray := prog_9_method_66_code
def yX7_readsForce : MethodName := ⟨RX7, "readsForce", "(I)Z"⟩
abbrev cX7_readsMean : ByteArray := prog_9_method_67_code
def yX7_readsMean : MethodName := ⟨RX7, "readsMean", "()Z"⟩
abbrev cX7_readsPlain : ByteArray := prog_9_method_68_code
def yX7_readsPlain : MethodName := ⟨RX7, "readsPlain", "()Z"⟩
abbrev cX7_emitWhile : ByteArray := prog_9_method_69_code
def yX7_emitWhile : MethodName := ⟨RX7, "emitWhile", "(I)V"⟩
abbrev cX7_readsUnit : ByteArray := prog_9_method_70_code
def yX7_readsUnit : MethodName := ⟨RX7, "readsUnit", "()Z"⟩
abbrev cX7_closeAll : ByteArray := prog_9_method_71_code
def yX7_closeAll : MethodName := ⟨RX7, "closeAll", "()V"⟩
abbrev cX7_fault : ByteArray := prog_9_method_72_code
def yX7_fault : MethodName := ⟨RX7, "fault", "()I"⟩
abbrev cX7_ask : ByteArray := prog_9_method_73_code
def yX7_ask : MethodName := ⟨RX7, "ask", "()I"⟩
abbrev cX7_plainHolds : ByteArray := prog_9_method_74_code
def yX7_plainHolds : MethodName := ⟨RX7, "plainHolds", "(I)Z"⟩
abbrev cX7_holdsNow : ByteArray := prog_9_method_75_code
def yX7_holdsNow : MethodName := ⟨RX7, "holdsNow", "()Z"⟩
abbrev cX7_holds : ByteArray := prog_9_method_76_code
def yX7_holds : MethodName := ⟨RX7, "holds", "()I"⟩
abbrev cX7_turned : ByteArray := prog_9_method_77_code
def yX7_turned : MethodName := ⟨RX7, "turned", "()I"⟩
abbrev cX7_change : ByteArray := prog_9_method_78_code
def yX7_change : MethodName := ⟨RX7, "change", "(I)V"⟩
abbrev cX7_bought : ByteArray := prog_9_method_79_code
def yX7_bought : MethodName := ⟨RX7, "bought", "()I"⟩
abbrev cX7_count : ByteArray := prog_9_method_80_code
def yX7_count : MethodName := ⟨RX7, "count", "(I)I"⟩
def RJ6 : String := "java/lang/Integer"
def TJ6 : u_T := fun k => match k with
  | _ => ("", "", "", false)
def tyJ6 : Nat → FieldType := fun k => match k with
  | _ => .int
abbrev wsJ60 : List Cond := u_ws RJ6 TJ6 0
theorem nmJ6 : ∀ a, a < 0 → ∀ b, b < 0 → a ≠ b → (TJ6 a).2.1 ≠ (TJ6 b).2.1 := by decide +kernel
theorem tyJ6_ok : ∀ k, k < 0 → parseFieldDescriptor (TJ6 k).2.2.1 = some (tyJ6 k) := by decide +kernel
abbrev cJ6_bitCount_0f7a4 : ByteArray := prog_10_method_49_code
def yJ6_bitCount_0f7a4 : MethodName := ⟨RJ6, "bitCount", "(I)I"⟩
def RJ9 : String := "java/lang/Math"
def TJ9 : u_T := fun k => match k with
  | _ => ("", "", "", false)
def tyJ9 : Nat → FieldType := fun k => match k with
  | _ => .int
abbrev wsJ90 : List Cond := u_ws RJ9 TJ9 0
theorem nmJ9 : ∀ a, a < 0 → ∀ b, b < 0 → a ≠ b → (TJ9 a).2.1 ≠ (TJ9 b).2.1 := by decide +kernel
theorem tyJ9_ok : ∀ k, k < 0 → parseFieldDescriptor (TJ9 k).2.2.1 = some (tyJ9 k) := by decide +kernel
abbrev cJ9_max_7cf53 : ByteArray := prog_11_method_65_code
def yJ9_max_7cf53 : MethodName := ⟨RJ9, "max", "(II)I"⟩
abbrev cJ9_min_7cf53 : ByteArray := prog_11_method_69_code
def yJ9_min_7cf53 : MethodName := ⟨RJ9, "min", "(II)I"⟩
def RJ0 : String := "java/lang/String"
def TJ0 : u_T := fun k => match k with
  | _ => ("", "", "", false)
def tyJ0 : Nat → FieldType := fun k => match k with
  | _ => .int
abbrev wsJ00 : List Cond := u_ws RJ0 TJ0 0
theorem nmJ0 : ∀ a, a < 0 → ∀ b, b < 0 → a ≠ b → (TJ0 a).2.1 ≠ (TJ0 b).2.1 := by decide +kernel
theorem tyJ0_ok : ∀ k, k < 0 → parseFieldDescriptor (TJ0 k).2.2.1 = some (tyJ0 k) := by decide +kernel
abbrev cJ0_length_8abf5 : ByteArray := prog_12_method_54_code
def yJ0_length_8abf5 : MethodName := ⟨RJ0, "length", "()I"⟩
abbrev cJ0_charAt_5068e : ByteArray := prog_12_method_56_code
def yJ0_charAt_5068e : MethodName := ⟨RJ0, "charAt", "(I)C"⟩
abbrev cJ0_coder_7d493 : ByteArray := prog_12_method_152_code
def yJ0_coder_7d493 : MethodName := ⟨RJ0, "coder", "()B"⟩
abbrev cJ0_isLatin1_aae02 : ByteArray := prog_12_method_154_code
def yJ0_isLatin1_aae02 : MethodName := ⟨RJ0, "isLatin1", "()Z"⟩
abbrev cJ0_checkIndex_df160 : ByteArray := prog_12_method_155_code
def yJ0_checkIndex_df160 : MethodName := ⟨RJ0, "checkIndex", "(II)V"⟩
def RJ1 : String := "java/lang/StringLatin1"
def TJ1 : u_T := fun k => match k with
  | _ => ("", "", "", false)
def tyJ1 : Nat → FieldType := fun k => match k with
  | _ => .int
abbrev wsJ10 : List Cond := u_ws RJ1 TJ1 0
theorem nmJ1 : ∀ a, a < 0 → ∀ b, b < 0 → a ≠ b → (TJ1 a).2.1 ≠ (TJ1 b).2.1 := by decide +kernel
theorem tyJ1_ok : ∀ k, k < 0 → parseFieldDescriptor (TJ1 k).2.2.1 = some (tyJ1 k) := by decide +kernel
abbrev cJ1_charAt_3b067 : ByteArray := prog_13_method_2_code
def yJ1_charAt_3b067 : MethodName := ⟨RJ1, "charAt", "([BI)C"⟩
def RJ2 : String := "java/lang/StringUTF16"
def TJ2 : u_T := fun k => match k with
  | _ => ("", "", "", false)
def tyJ2 : Nat → FieldType := fun k => match k with
  | _ => .int
abbrev wsJ20 : List Cond := u_ws RJ2 TJ2 0
theorem nmJ2 : ∀ a, a < 0 → ∀ b, b < 0 → a ≠ b → (TJ2 a).2.1 ≠ (TJ2 b).2.1 := by decide +kernel
theorem tyJ2_ok : ∀ k, k < 0 → parseFieldDescriptor (TJ2 k).2.2.1 = some (tyJ2 k) := by decide +kernel
abbrev cJ2_getChar_3b067 : ByteArray := prog_14_method_5_code
def yJ2_getChar_3b067 : MethodName := ⟨RJ2, "getChar", "([BI)C"⟩
abbrev cJ2_length_9d52b : ByteArray := prog_14_method_6_code
def yJ2_length_9d52b : MethodName := ⟨RJ2, "length", "([B)I"⟩
abbrev cJ2_charAt_3b067 : ByteArray := prog_14_method_83_code
def yJ2_charAt_3b067 : MethodName := ⟨RJ2, "charAt", "([BI)C"⟩
abbrev cJ2_checkIndex_2214a : ByteArray := prog_14_method_91_code
def yJ2_checkIndex_2214a : MethodName := ⟨RJ2, "checkIndex", "(I[B)V"⟩
def RJ10 : String := "java/lang/System"
def TJ10 : u_T := fun k => match k with
  | _ => ("", "", "", false)
def tyJ10 : Nat → FieldType := fun k => match k with
  | _ => .int
abbrev wsJ100 : List Cond := u_ws RJ10 TJ10 0
theorem nmJ10 : ∀ a, a < 0 → ∀ b, b < 0 → a ≠ b → (TJ10 a).2.1 ≠ (TJ10 b).2.1 := by decide +kernel
theorem tyJ10_ok : ∀ k, k < 0 → parseFieldDescriptor (TJ10 k).2.2.1 = some (tyJ10 k) := by decide +kernel
def RJ3 : String := "jdk/internal/util/Preconditions"
def TJ3 : u_T := fun k => match k with
  | _ => ("", "", "", false)
def tyJ3 : Nat → FieldType := fun k => match k with
  | _ => .int
abbrev wsJ30 : List Cond := u_ws RJ3 TJ3 0
theorem nmJ3 : ∀ a, a < 0 → ∀ b, b < 0 → a ≠ b → (TJ3 a).2.1 ≠ (TJ3 b).2.1 := by decide +kernel
theorem tyJ3_ok : ∀ k, k < 0 → parseFieldDescriptor (TJ3 k).2.2.1 = some (tyJ3 k) := by decide +kernel
abbrev cJ3_checkIndex_8e157 : ByteArray := prog_16_method_11_code
def yJ3_checkIndex_8e157 : MethodName := ⟨RJ3, "checkIndex", "(IILjava/util/function/BiFunction;)I"⟩
def RL : String := "OneMarkLaw"
abbrev cL_law : ByteArray := code
def yL_law : MethodName := ⟨RL, "law", "([I)Z"⟩
abbrev vwCl : List vw_C := [(RX0, TX0, 8), (RX1, TX1, 2), (RX2, TX2, 8), (RX3, TX3, 7), (RX4, TX4, 11), (RX5, TX5, 8), (RX6, TX6, 7), (RX7, TX7, 37)]
def om_sr : List (String × Nat × String) := [("OneMark$Reader", 127, "not"), ("OneMark$Reader", 133, "and"), ("OneMark$Reader", 135, "or"), ("OneMark$Reader", 137, "one"), ("OneMark$Reader", 139, "other"), ("OneMark$Reader", 141, "from"), ("OneMark$Reader", 143, "forces"), ("OneMark$Reader", 145, "keeps"), ("OneMark$Reader", 147, "again"), ("OneMark$Reader", 149, "even"), ("OneMark$Reader", 151, "mean"), ("OneMark$Reader", 153, "above"), ("OneMark$Reader", 155, "below")]
def om_sn : Nat := 13
def om_st : List (List Int32) := [[110, 111, 116], [97, 110, 100], [111, 114], [111, 110, 101], [111, 116, 104, 101, 114], [102, 114, 111, 109], [102, 111, 114, 99, 101, 115], [107, 101, 101, 112, 115], [97, 103, 97, 105, 110], [101, 118, 101, 110], [109, 101, 97, 110], [97, 98, 111, 118, 101], [98, 101, 108, 111, 119]]
def om_kd : List (Nat × Nat × Nat) := [(5, 6, 0), (5, 0, 0), (1, 8, 0), (1, 8, 0), (1, 20, 0), (1, 20, 0), (1, 20, 0), (5, 3, 0), (1, 28, 0), (1, 28, 0), (1, 28, 0), (1, 8, 0), (5, 1, 0), (1, 9, 0), (5, 2, 0), (1, 8, 0), (3, 9, 3), (1, 8, 0), (1, 8, 0), (1, 8, 0), (1, 8, 0), (1, 8, 0), (1, 8, 0), (1, 8, 0), (1, 8, 0), (1, 8, 0), (1, 8, 0), (1, 8, 0), (5, 5, 0), (1, 120, 0), (5, 4, 0), (1, 120, 0), (1, 120, 0), (1, 120, 0), (1, 120, 0), (1, 120, 0), (1, 120, 0), (1, 120, 0), (5, 4, 0), (1, 120, 0), (1, 120, 0), (1, 120, 0), (1, 120, 0), (1, 120, 0), (1, 120, 0), (1, 120, 0), (5, 7, 0), (1, 8, 0), (1, 8, 0), (1, 20, 0), (1, 20, 0), (1, 20, 0), (1, 8, 0), (1, 120, 0), (1, 240, 0), (1, 240, 0), (1, 240, 0), (1, 240, 0), (1, 8, 0), (1, 8, 0), (1, 8, 0), (1, 4, 0), (1, 8, 0), (1, 8, 0), (1, 10, 0), (1, 64, 0), (1, 64, 0), (1, 120, 0), (2, 120, 0)]
def om_N : Nat := 69
theorem om_kd_len : om_kd.length = om_N := rfl
def om_kof (a : Nat) : Nat × Nat × Nat := om_kd.getD a (0, 0, 0)
def om_isA (a c : Nat) : Bool := Nat.beq (om_kof a).1 c
def om_ln (a : Nat) : Nat := (om_kof a).2.1
def om_of (a : Nat) : Nat := (om_kof a).2.2
def om_obj (a c : Nat) : Bool := bif Nat.beq c 99 then (Nat.ble 1000 a && Nat.blt a (1000 + om_sn)) else (Nat.beq (om_kof a).1 5 && Nat.beq (om_kof a).2.1 c)
def om_isB (a : Nat) : Bool := Nat.ble 2000 a && Nat.blt a (2000 + om_sn)
def om_bl (a : Nat) : Nat := (om_st.getD (a - 2000) []).length
def om_bt (a j : Nat) : Int32 := (om_st.getD (a - 2000) []).getD j 0
/-- a class's fields by kind -/
def om_fdl : List (List Nat) := [[0, 0, 0, 4, 5, 6, 7, 8], [4, 0], [0, 0, 0, 0, 4, 5, 6, 7], [0, 0, 0, 4, 5, 6, 7], [0, 4, 5, 6, 7, 8, 0, 9, 0, 10, 0], [0, 4, 0, 0, 0, 0, 0, 1], [4, 10, 15, 17, 31, 1, 1], [4, 5, 0, 6, 7, 8, 0, 9, 10, 0, 11, 12, 13, 14, 0, 0, 15, 16, 0, 17, 18, 19, 20, 0, 0, 21, 0, 22, 23, 0, 0, 0, 0, 24, 0, 0, 25]]
def om_fds (c : Nat) : List Nat := om_fdl.getD c []
abbrev om_Sg : Type := MethodName × ByteArray × Nat × Option FieldType × Nat × Bool × Nat
def om_sig : List om_Sg := [
  (yX0_giveTo, cX0_giveTo, 3, none, 0, false, 2),
  (yX0_addPlace, cX0_addPlace, 4, some .int, 0, false, 2),
  (yX0_addArrow, cX0_addArrow, 5, some .int, 0, false, 3),
  (yX0_removeArrow, cX0_removeArrow, 3, none, 0, false, 1),
  (yX0_find, cX0_find, 4, some .int, 0, false, 2),
  (yX0_ownerOf, cX0_ownerOf, 2, some .int, 0, false, 1),
  (yX0_isOpen, cX0_isOpen, 4, some .boolean, 1, false, 2),
  (yX0_toldPlaces, cX0_toldPlaces, 3, some .int, 0, false, 0),
  (yX1_isLeastOfLoop, cX1_isLeastOfLoop, 8, some .boolean, 1, false, 3),
  (yX1_wrongPlaces, cX1_wrongPlaces, 7, some .int, 0, false, 3),
  (yX1_indexOf, cX1_indexOf, 4, some .int, 0, false, 2),
  (yX1_leastOf, cX1_leastOf, 6, some .int, 0, false, 3),
  (yX1_isExtended, cX1_isExtended, 8, some .boolean, 1, true, 5),
  (yX1_findBreaker, cX1_findBreaker, 6, none, 0, false, 4),
  (yX2_addMove, cX2_addMove, 6, none, 0, false, 1),
  (yX2_sumAfter, cX2_sumAfter, 5, some .int, 0, false, 3),
  (yX3_placesOf, cX3_placesOf, 2, some .int, 0, false, 1),
  (yJ6_bitCount_0f7a4, cJ6_bitCount_0f7a4, 1, some .int, 0, true, 1),
  (yX2_plansOf, cX2_plansOf, 6, some .int, 0, false, 2),
  (yX2_bitAt, cX2_bitAt, 4, some .int, 0, true, 2),
  (yX2_choosePlan, cX2_choosePlan, 8, none, 0, false, 3),
  (yX2_walk, cX2_walk, 9, none, 0, false, 3),
  (yX2_findLeastLoop, cX2_findLeastLoop, 12, none, 0, false, 3),
  (yX2_findBest, cX2_findBest, 7, none, 0, false, 5),
  (yX2_findSure, cX2_findSure, 6, none, 0, false, 3),
  (yX2_isRaised, cX2_isRaised, 12, some .boolean, 1, false, 4),
  (yX2_isHeld, cX2_isHeld, 7, some .boolean, 1, false, 4),
  (yX2_findLeft, cX2_findLeft, 4, none, 0, false, 3),
  (yX3_clear, cX3_clear, 4, none, 0, false, 2),
  (yX3_add, cX3_add, 4, none, 0, false, 3),
  (yX3_addStays, cX3_addStays, 2, none, 0, false, 0),
  (yX3_load, cX3_load, 5, none, 0, false, 3),
  (yX3_loadTold, cX3_loadTold, 4, none, 0, false, 2),
  (yX3_weighBySet, cX3_weighBySet, 3, none, 0, false, 1),
  (yX3_everywhere, cX3_everywhere, 1, some .int, 0, false, 0),
  (yX3_branching, cX3_branching, 3, some .int, 0, false, 0),
  (yX3_oneMoveFrom, cX3_oneMoveFrom, 9, some .int, 0, false, 3),
  (yX3_attracted, cX3_attracted, 7, some .int, 0, false, 3),
  (yX3_movesInto, cX3_movesInto, 6, some .int, 0, false, 3),
  (yX3_keeping, cX3_keeping, 4, some .int, 0, false, 2),
  (yX3_withoutLost, cX3_withoutLost, 5, some .int, 0, false, 3),
  (yX3_meeting, cX3_meeting, 7, some .int, 0, false, 3),
  (yX3_leastNumber, cX3_leastNumber, 5, some .int, 0, true, 3),
  (yX3_holders, cX3_holders, 6, some .int, 0, true, 4),
  (yX3_evenPlaces, cX3_evenPlaces, 12, some .int, 0, true, 4),
  (yX3_wonBy, cX3_wonBy, 4, some .int, 0, false, 2),
  (yX4_clear, cX4_clear, 1, none, 0, false, 0),
  (yX4_begin, cX4_begin, 3, none, 0, false, 2),
  (yX4_emit, cX4_emit, 2, none, 0, false, 1),
  (yX4_lastHeld, cX4_lastHeld, 1, some .int, 0, false, 0),
  (yX4_emitNots, cX4_emitNots, 2, none, 0, false, 0),
  (yX4_endUnit, cX4_endUnit, 1, none, 0, false, 0),
  (yX4_hold, cX4_hold, 2, none, 0, false, 1),
  (yX4_join, cX4_join, 4, none, 0, false, 1),
  (yX4_emitHeld, cX4_emitHeld, 2, none, 0, false, 0),
  (yX4_closeParenthesis, cX4_closeParenthesis, 1, none, 0, false, 0),
  (yX4_isUnitTrue, cX4_isUnitTrue, 6, some .boolean, 1, false, 4),
  (yX4_isTrue, cX4_isTrue, 12, some .boolean, 1, false, 5),
  (yX5_add, cX5_add, 2, none, 0, false, 1),
  (yX5_isLetter, cX5_isLetter, 1, some .boolean, 1, true, 1),
  (yJ0_coder_7d493, cJ0_coder_7d493, 1, some .byte, 2, false, 0),
  (yJ0_length_8abf5, cJ0_length_8abf5, 1, some .int, 0, false, 0),
  (yJ0_isLatin1_aae02, cJ0_isLatin1_aae02, 1, some .boolean, 1, false, 0),
  (yJ3_checkIndex_8e157, cJ3_checkIndex_8e157, 3, some .int, 0, true, 3),
  (yJ0_checkIndex_df160, cJ0_checkIndex_df160, 2, none, 0, true, 2),
  (yJ1_charAt_3b067, cJ1_charAt_3b067, 2, some .char, 3, true, 2),
  (yJ0_charAt_5068e, cJ0_charAt_5068e, 2, some .char, 3, false, 1),
  (yX5_isWord, cX5_isWord, 3, some .boolean, 1, false, 1),
  (yX5_wordToken, cX5_wordToken, 1, some .int, 0, false, 0),
  (yX5_isDigit, cX5_isDigit, 1, some .boolean, 1, true, 1),
  (yX5_numberValue, cX5_numberValue, 3, some .int, 0, false, 0),
  (yX5_readToken, cX5_readToken, 2, none, 0, false, 0),
  (yX5_beginUnit, cX5_beginUnit, 1, some .int, 0, false, 0),
  (yX5_joinUnits, cX5_joinUnits, 1, some .int, 0, false, 0),
  (yX5_takeVerb, cX5_takeVerb, 1, some .int, 0, false, 0),
  (yX5_isPlaceNumber, cX5_isPlaceNumber, 2, some .boolean, 1, false, 1),
  (yX5_takeMember, cX5_takeMember, 2, some .int, 0, false, 1),
  (yX5_takePlace, cX5_takePlace, 2, some .boolean, 1, false, 1),
  (yX5_endUnit, cX5_endUnit, 1, some .int, 0, false, 0),
  (yX5_takeSide, cX5_takeSide, 1, some .int, 0, false, 0),
  (yX5_takeBound, cX5_takeBound, 1, some .boolean, 1, false, 0),
  (yX5_stateAfter, cX5_stateAfter, 3, some .int, 0, false, 2),
  (yX5_read, cX5_read, 5, some .int, 0, false, 2),
  (yX6_isPlayer, cX6_isPlayer, 1, some .boolean, 1, true, 1),
  (yX6_isNumber, cX6_isNumber, 1, some .boolean, 1, true, 1),
  (yX6_place, cX6_place, 3, some .int, 0, false, 2),
  (yX6_isPlace, cX6_isPlace, 2, some .boolean, 1, false, 1),
  (yX6_isWeight, cX6_isWeight, 1, some .boolean, 1, true, 1),
  (yX6_arrow, cX6_arrow, 4, some .int, 0, false, 3),
  (yX6_isArrow, cX6_isArrow, 2, some .boolean, 1, false, 1),
  (yX6_cut, cX6_cut, 2, some .int, 0, false, 1),
  (yX6_give, cX6_give, 4, some .int, 0, false, 2),
  (yX6_set, cX6_set, 5, some .int, 0, false, 3),
  (yX6_from, cX6_from, 3, some .int, 0, false, 2),
  (yX6_isSet, cX6_isSet, 2, some .boolean, 1, false, 1),
  (yX6_forced, cX6_forced, 3, some .int, 0, false, 2),
  (yX6_steps, cX6_steps, 4, some .int, 0, false, 3),
  (yX6_kept, cX6_kept, 3, some .int, 0, false, 2),
  (yX6_both, cX6_both, 4, some .int, 0, false, 3),
  (yX6_again, cX6_again, 3, some .int, 0, false, 2),
  (yX6_won, cX6_won, 1, some .int, 0, false, 0),
  (yX6_narrowed, cX6_narrowed, 5, some .int, 0, false, 3),
  (yX6_plan, cX6_plan, 7, some .int, 0, false, 1),
  (yX6_after, cX6_after, 3, some .int, 0, false, 2),
  (yX6_isPart, cX6_isPart, 1, some .boolean, 1, true, 1),
  (yX6_mean, cX6_mean, 3, some .int, 0, false, 2),
  (yX6_rate, cX6_rate, 5, some .int, 0, false, 4),
  (yX6_tell, cX6_tell, 4, some .int, 0, false, 1),
  (yX6_untell, cX6_untell, 3, some .int, 0, false, 1),
  (yX6_oddness, cX6_oddness, 1, some .int, 0, true, 1),
  (yX6_judged, cX6_judged, 2, some .int, 0, false, 1),
  (yX6_breaker, cX6_breaker, 5, some .int, 0, false, 3),
  (yX6_worth, cX6_worth, 4, some .int, 0, false, 3),
  (yX6_write, cX6_write, 5, some .int, 0, false, 2),
  (yX6_erase, cX6_erase, 2, some .int, 0, false, 0),
  (yX6_fault, cX6_fault, 1, some .int, 0, false, 0),
  (yX6_ask, cX6_ask, 2, some .int, 0, false, 0),
  (yX6_holds, cX6_holds, 1, some .int, 0, false, 0),
  (yX6_turned, cX6_turned, 4, some .int, 0, false, 0),
  (yX6_bought, cX6_bought, 4, some .int, 0, false, 0),
  (yX6_count, cX6_count, 2, some .int, 0, false, 1),
  (yX7_in, cX7_in, 6, some .boolean, 1, true, 3),
  (yX7_isPlace, cX7_isPlace, 2, some .boolean, 1, false, 1),
  (yX7_isArrow, cX7_isArrow, 2, some .boolean, 1, false, 1),
  (yX7_isSet, cX7_isSet, 2, some .boolean, 1, false, 1),
  (yX7_isPlayer, cX7_isPlayer, 1, some .boolean, 1, true, 1),
  (yX7_place, cX7_place, 3, some .int, 0, false, 2),
  (yX7_arrowOf, cX7_arrowOf, 5, some .int, 0, false, 2),
  (yX7_arrow, cX7_arrow, 4, some .int, 0, false, 3),
  (yX7_cut, cX7_cut, 3, some .int, 0, false, 1),
  (yX7_give, cX7_give, 4, some .int, 0, false, 2),
  (yX7_set, cX7_set, 6, some .int, 0, false, 3),
  (yX7_from, cX7_from, 3, some .int, 0, false, 2),
  (yX7_isUsed, cX7_isUsed, 2, some .boolean, 1, false, 1),
  (yX7_layMoves, cX7_layMoves, 2, none, 0, false, 0),
  (yX7_noneAlone, cX7_noneAlone, 2, none, 0, false, 0),
  (yX7_bring, cX7_bring, 6, some .int, 0, false, 2),
  (yX7_forcedTo, cX7_forcedTo, 5, some .int, 0, false, 2),
  (yX7_forced, cX7_forced, 3, some .int, 0, false, 2),
  (yX7_steps, cX7_steps, 6, some .int, 0, false, 3),
  (yX7_keptIn, cX7_keptIn, 5, some .int, 0, false, 2),
  (yX7_kept, cX7_kept, 3, some .int, 0, false, 2),
  (yX7_bothOf, cX7_bothOf, 7, some .int, 0, false, 3),
  (yX7_again, cX7_again, 3, some .int, 0, false, 2),
  (yX7_both, cX7_both, 4, some .int, 0, false, 3),
  (yX7_unit, cX7_unit, 1, some .int, 0, true, 1),
  (yX7_needed, cX7_needed, 6, some .int, 0, false, 2),
  (yX7_liftOf, cX7_liftOf, 5, some .int, 0, false, 1),
  (yX7_wonNow, cX7_wonNow, 4, some .int, 0, false, 0),
  (yX7_won, cX7_won, 1, some .int, 0, false, 0),
  (yX7_wonBy, cX7_wonBy, 3, some .int, 0, false, 1),
  (yX7_hasArrows, cX7_hasArrows, 4, some .boolean, 1, false, 1),
  (yX7_plan, cX7_plan, 7, some .int, 0, false, 1),
  (yX7_weightOf, cX7_weightOf, 3, some .int, 0, false, 2),
  (yX7_oneMore, cX7_oneMore, 9, none, 0, false, 2),
  (yX7_layValues, cX7_layValues, 5, none, 0, false, 3),
  (yX7_after, cX7_after, 3, some .int, 0, false, 2),
  (yX7_nearest, cX7_nearest, 7, none, 0, false, 1),
  (yX7_mean, cX7_mean, 3, some .int, 0, false, 2),
  (yX7_rate, cX7_rate, 5, some .int, 0, false, 4),
  (yX7_tell, cX7_tell, 3, some .int, 0, false, 1),
  (yX7_untell, cX7_untell, 3, some .int, 0, false, 1),
  (yX7_layTold, cX7_layTold, 3, none, 0, false, 1),
  (yX7_reachFrom, cX7_reachFrom, 6, some .int, 0, false, 2),
  (yX7_badFor, cX7_badFor, 6, some .int, 0, false, 1),
  (yX7_rightOf, cX7_rightOf, 5, some .int, 0, false, 1),
  (yX7_judged, cX7_judged, 2, some .int, 0, false, 1),
  (yX7_placeIn, cX7_placeIn, 4, some .int, 0, false, 1),
  (yX7_isBadFrom, cX7_isBadFrom, 5, some .boolean, 1, false, 2),
  (yX7_closes, cX7_closes, 6, some .boolean, 1, false, 3),
  (yX7_breaker, cX7_breaker, 5, some .int, 0, false, 3),
  (yX7_addMoves, cX7_addMoves, 6, none, 0, false, 1),
  (yX7_divisor, cX7_divisor, 5, some .int, 0, true, 2),
  (yX7_worth, cX7_worth, 9, some .int, 0, false, 3),
  (yX7_write, cX7_write, 5, some .int, 0, false, 2),
  (yX7_erase, cX7_erase, 2, some .int, 0, false, 0),
  (yX7_sort, cX7_sort, 1, some .int, 0, true, 1),
  (yX7_token, cX7_token, 1, none, 0, false, 0),
  (yX7_isWord, cX7_isWord, 5, some .boolean, 1, false, 2),
  (yX7_skips, cX7_skips, 4, some .boolean, 1, false, 2),
  (yX7_isSign, cX7_isSign, 2, some .boolean, 1, false, 1),
  (yX7_isNumber, cX7_isNumber, 4, some .boolean, 1, false, 1),
  (yX7_emit, cX7_emit, 5, none, 0, false, 4),
  (yX7_readsPlace, cX7_readsPlace, 1, some .boolean, 1, false, 0),
  (yX7_readsFrom, cX7_readsFrom, 4, some .boolean, 1, false, 3),
  (yX7_readsForce, cX7_readsForce, 5, some .boolean, 1, false, 1),
  (yX7_readsMean, cX7_readsMean, 3, some .boolean, 1, false, 0),
  (yX7_readsPlain, cX7_readsPlain, 1, some .boolean, 1, false, 0),
  (yX7_emitWhile, cX7_emitWhile, 2, none, 0, false, 1),
  (yX7_readsUnit, cX7_readsUnit, 2, some .boolean, 1, false, 0),
  (yX7_closeAll, cX7_closeAll, 1, none, 0, false, 0),
  (yX7_fault, cX7_fault, 2, some .int, 0, false, 0),
  (yX7_plainHolds, cX7_plainHolds, 5, some .boolean, 1, false, 1),
  (yX7_holdsNow, cX7_holdsNow, 4, some .boolean, 1, false, 0),
  (yX7_ask, cX7_ask, 2, some .int, 0, false, 0),
  (yX7_holds, cX7_holds, 1, some .int, 0, false, 0),
  (yX7_turned, cX7_turned, 4, some .int, 0, false, 0),
  (yX7_change, cX7_change, 3, none, 0, false, 1),
  (yX7_bought, cX7_bought, 5, some .int, 0, false, 0),
  (yX7_count, cX7_count, 4, some .int, 0, false, 1)]
def om_nth {α : Type} : List α → Nat → Option α
  | [], _ => none
  | a :: _, 0 => some a
  | _ :: r, n + 1 => om_nth r n
def om_cnl : List String := [RX0, RX1, RX2, RX3, RX4, RX5, RX6, RX7, RJ0, RJ1, RJ3, RJ6, RL]
def om_cn (c : Nat) : String := om_cnl.getD c ""
def om_Tl : List u_T := [TX0, TX1, TX2, TX3, TX4, TX5, TX6, TX7]
def om_Tf (c : Nat) : u_T := om_Tl.getD c TX0
def om_fwl : List (Nat × Nat × Nat × Nat) := [(0, 27, 0, 0), (0, 35, 0, 1), (0, 38, 0, 2), (0, 9, 0, 3), (0, 15, 0, 4), (0, 18, 0, 5), (0, 21, 0, 6), (0, 24, 0, 7), (3, 51, 3, 0), (3, 55, 3, 1), (3, 56, 3, 2), (3, 9, 3, 3), (3, 15, 3, 4), (3, 18, 3, 5), (3, 21, 3, 6), (1, 9, 1, 0), (1, 28, 1, 1), (2, 106, 2, 0), (2, 9, 2, 1), (2, 103, 2, 2), (2, 15, 2, 3), (2, 18, 2, 4), (2, 24, 2, 5), (2, 27, 2, 6), (2, 30, 2, 7), (5, 15, 5, 0), (5, 9, 5, 1), (5, 28, 5, 2), (5, 44, 5, 3), (5, 37, 5, 4), (5, 104, 5, 5), (5, 31, 5, 6), (5, 19, 5, 7), (4, 33, 4, 0), (4, 9, 4, 1), (4, 15, 4, 2), (4, 18, 4, 3), (4, 21, 4, 4), (4, 24, 4, 5), (4, 37, 4, 6), (4, 27, 4, 7), (4, 40, 4, 8), (4, 30, 4, 9), (4, 43, 4, 10), (6, 12, 6, 0), (6, 19, 6, 1), (6, 26, 6, 2), (6, 33, 6, 3), (6, 40, 6, 4), (6, 47, 6, 5), (6, 51, 6, 6), (7, 7, 7, 0), (7, 13, 7, 1), (7, 81, 7, 2), (7, 16, 7, 3), (7, 19, 7, 4), (7, 22, 7, 5), (7, 88, 7, 6), (7, 25, 7, 7), (7, 28, 7, 8), (7, 223, 7, 9), (7, 31, 7, 10), (7, 34, 7, 11), (7, 37, 7, 12), (7, 40, 7, 13), (7, 249, 7, 14), (7, 308, 7, 15), (7, 43, 7, 16), (7, 46, 7, 17), (7, 49, 7, 18), (7, 53, 7, 19), (7, 56, 7, 20), (7, 59, 7, 21), (7, 62, 7, 22), (7, 180, 7, 23), (7, 171, 7, 24), (7, 65, 7, 25), (7, 201, 7, 26), (7, 68, 7, 27), (7, 71, 7, 28), (7, 228, 7, 29), (7, 231, 7, 30), (7, 237, 7, 31), (7, 246, 7, 32), (7, 74, 7, 33), (7, 284, 7, 34), (7, 290, 7, 35), (7, 77, 7, 36)]
def om_fnl : List (Nat × Nat × Nat × Nat) := [(6, 61, 0, 0), (3, 48, 0, 0), (3, 28, 0, 1), (6, 78, 0, 1), (3, 52, 0, 2), (6, 227, 0, 2), (6, 100, 0, 3), (4, 75, 0, 3), (6, 170, 0, 4), (3, 34, 0, 5), (6, 141, 0, 5), (3, 35, 0, 6), (6, 147, 0, 6), (3, 36, 0, 7), (6, 104, 0, 7), (2, 33, 3, 0), (1, 15, 3, 0), (2, 60, 3, 1), (2, 48, 3, 2), (2, 51, 3, 3), (2, 57, 3, 4), (2, 54, 3, 5), (1, 25, 3, 6), (2, 88, 3, 6), (6, 144, 3, 6), (6, 191, 1, 0), (6, 188, 1, 1), (6, 161, 2, 0), (6, 164, 2, 1), (6, 197, 5, 0), (6, 216, 4, 0), (5, 92, 4, 1), (5, 101, 4, 3), (5, 107, 4, 4), (5, 110, 4, 5), (5, 95, 4, 10)]
def om_mwl : List (Nat × Nat × Nat) := [(12, 13, 85), (6, 54, 83), (6, 58, 84), (0, 31, 0), (12, 18, 88), (6, 69, 86), (6, 72, 87), (12, 23, 90), (6, 85, 89), (12, 28, 91), (12, 32, 92), (12, 36, 93), (12, 40, 95), (6, 108, 94), (3, 24, 28), (3, 37, 29), (3, 41, 30), (3, 65, 36), (12, 44, 96), (3, 69, 34), (12, 48, 97), (3, 73, 37), (12, 52, 99), (6, 128, 98), (3, 76, 40), (12, 56, 98), (12, 60, 100), (3, 79, 44), (3, 83, 42), (3, 87, 43), (12, 65, 102), (6, 138, 101), (12, 69, 103), (2, 38, 14), (12, 73, 105), (6, 154, 104), (2, 72, 18), (2, 91, 17), (2, 76, 23), (2, 96, 20), (2, 109, 19), (2, 100, 22), (2, 112, 21), (12, 77, 106), (12, 82, 107), (12, 86, 108), (12, 90, 110), (0, 41, 5), (6, 177, 109), (1, 21, 8), (12, 94, 111), (1, 31, 12), (1, 35, 10), (1, 39, 11), (12, 98, 112), (12, 104, 113), (12, 109, 114), (12, 113, 115), (5, 34, 71), (5, 115, 59), (5, 118, 68), (5, 129, 67), (5, 157, 61), (8, 335, 60), (5, 161, 66), (8, 492, 62), (8, 495, 65), (9, 9, 64), (8, 1059, 63), (5, 121, 69), (5, 124, 70), (5, 40, 81), (5, 50, 72), (5, 54, 73), (4, 59, 49), (4, 52, 48), (4, 63, 52), (4, 66, 54), (4, 56, 50), (5, 57, 74), (5, 60, 76), (5, 98, 75), (5, 64, 77), (5, 68, 78), (5, 71, 79), (5, 74, 80), (12, 117, 116), (4, 80, 56), (2, 80, 25), (12, 121, 117), (12, 125, 118), (12, 129, 119), (3, 59, 17), (6, 222, 17), (12, 133, 120), (12, 17, 126), (7, 91, 125), (7, 84, 121), (12, 22, 128), (7, 97, 122), (7, 104, 127), (12, 27, 129), (7, 108, 123), (12, 31, 130), (12, 35, 131), (12, 39, 132), (12, 43, 138), (7, 118, 124), (7, 121, 134), (7, 112, 133), (7, 124, 137), (7, 115, 136), (12, 47, 139), (12, 51, 141), (7, 127, 140), (12, 55, 143), (7, 130, 142), (12, 59, 144), (12, 64, 149), (7, 145, 148), (7, 142, 147), (7, 139, 146), (7, 135, 145), (12, 68, 152), (7, 149, 150), (7, 152, 151), (7, 155, 135), (12, 72, 156), (7, 167, 155), (7, 161, 154), (7, 158, 153), (12, 76, 158), (7, 185, 157), (12, 81, 159), (12, 85, 160), (12, 89, 161), (12, 93, 166), (7, 198, 165), (7, 192, 162), (7, 195, 164), (7, 189, 163), (12, 97, 170), (7, 211, 169), (7, 204, 167), (7, 207, 168), (12, 101, 173), (7, 215, 171), (7, 218, 172), (12, 108, 174), (12, 112, 175), (12, 116, 191), (7, 243, 177), (7, 234, 176), (7, 299, 189), (7, 256, 179), (7, 240, 178), (7, 287, 180), (7, 293, 187), (7, 270, 184), (7, 259, 183), (7, 252, 181), (7, 263, 182), (7, 277, 186), (7, 280, 185), (7, 302, 190), (7, 296, 188), (12, 120, 194), (7, 305, 191), (7, 311, 193), (7, 314, 192), (12, 124, 195), (12, 128, 196), (12, 132, 198), (7, 317, 197), (12, 136, 199)]
def om_mnl : List (Nat × Nat × Nat) := [(6, 65, 1), (6, 75, 4), (6, 81, 2), (6, 88, 3), (6, 92, 5), (6, 96, 0), (6, 111, 31), (6, 115, 34), (6, 119, 37), (6, 122, 38), (6, 125, 39), (6, 131, 41), (6, 134, 45), (6, 150, 15), (6, 157, 24), (2, 84, 16), (6, 167, 33), (6, 173, 32), (3, 44, 6), (6, 180, 9), (6, 184, 13), (6, 194, 27), (6, 202, 58), (6, 205, 82), (5, 23, 46), (5, 78, 52), (5, 82, 47), (5, 86, 53), (5, 89, 55), (5, 113, 51), (5, 47, 54), (6, 209, 46), (6, 212, 57), (4, 69, 31), (4, 86, 34), (4, 89, 37), (4, 93, 39), (4, 96, 41), (4, 99, 45), (4, 103, 26), (6, 219, 35), (6, 230, 7)]
def om_cil : List (Nat × Nat × Int32) := [(6, 107, (-2147483648)), (11, 265, (1431655765)), (11, 266, (858993459)), (11, 267, (252645135)), (2, 115, (1000000)), (7, 111, (-2147483648)), (7, 134, (100000)), (7, 275, (464581)), (7, 255, (441926)), (7, 276, (459949)), (7, 273, (5979201)), (7, 274, (24621218)), (7, 267, (642894310)), (7, 268, (20452523)), (7, 269, (14976225)), (7, 283, (19047055))]
def om_cll : List (Nat × Nat × Int64) := [(6, 200, (255)), (4, 84, (-2)), (7, 95, (7)), (7, 100, (-5)), (7, 102, (5)), (7, 165, (500)), (7, 174, (2)), (7, 176, (9000)), (7, 178, (18000)), (7, 183, (80)), (7, 221, (8)), (7, 226, (255)), (12, 102, (4294967295))]
def om_iwl : List (Nat × Nat × Nat) := [(3, 90, 1), (2, 63, 2), (2, 69, 1), (2, 42, 3), (1, 43, 1), (4, 46, 1)]
def om_xw : List Cond := [(Jvm.Cond.fieldLink "java/lang/String" (9 : Nat) "java/lang/String" "value" "[B"),
  (Jvm.Cond.fieldLink "java/lang/String" (15 : Nat) "java/lang/String" "coder" "B"),
  (Jvm.Cond.fieldLink "java/lang/String" (38 : Nat) "java/lang/String" "COMPACT_STRINGS" "Z"),
  (Jvm.Cond.fieldLink "java/lang/String" (1053 : Nat) "jdk/internal/util/Preconditions" "SIOOBE_FORMATTER" "Ljava/util/function/BiFunction;"),
  (Jvm.Cond.static ({ cls := "java/lang/Math", name := "min", desc := "(II)I" } : Jvm.MethodName)),
  (Jvm.Cond.code ({ cls := "java/lang/Math", name := "min", desc := "(II)I" } : Jvm.MethodName) prog_11_method_69_code (2 : Nat) (Option.some Jvm.ClassFile.FieldType.int)),
  (Jvm.Cond.static ({ cls := "java/lang/Math", name := "max", desc := "(II)I" } : Jvm.MethodName)),
  (Jvm.Cond.code ({ cls := "java/lang/Math", name := "max", desc := "(II)I" } : Jvm.MethodName) prog_11_method_65_code (2 : Nat) (Option.some Jvm.ClassFile.FieldType.int)),
  (Jvm.Cond.initialized "java/lang/Math"),
  (Jvm.Cond.initialized "java/lang/System"),
  (Jvm.Cond.static ({ cls := "java/lang/System", name := "arraycopy", desc := "(Ljava/lang/Object;ILjava/lang/Object;II)V" } : Jvm.MethodName)),
  (Jvm.Cond.native ({ cls := "java/lang/System", name := "arraycopy", desc := "(Ljava/lang/Object;ILjava/lang/Object;II)V" } : Jvm.MethodName))]
def om_iy : Nat → MethodName
  | 1 => Lib.Math.min.name
  | 2 => Lib.Math.max.name
  | _ => arraycopyName
def om_sy (k : Nat) : MethodName := ((om_nth om_sig k).getD (om_iy 1, ByteArray.mk #[], 0, none, 0, false, 0)).1
def om_fw (q : Nat × Nat × Nat × Nat) : Cond := .fieldLink (om_cn q.1) q.2.1 (om_cn q.2.2.1) (om_Tf q.2.2.1 q.2.2.2).2.1 (om_Tf q.2.2.1 q.2.2.2).2.2.1
def om_fn (q : Nat × Nat × Nat × Nat) : Cond := .fieldLinkNest (om_cn q.1) q.2.1 (om_cn q.2.2.1) (om_Tf q.2.2.1 q.2.2.2).2.1 (om_Tf q.2.2.1 q.2.2.2).2.2.1 "OneMark"
def om_mw (q : Nat × Nat × Nat) : Cond := .methodLink (om_cn q.1) q.2.1 (om_sy q.2.2)
def om_mn (q : Nat × Nat × Nat) : Cond := .methodLinkNest (om_cn q.1) q.2.1 (om_sy q.2.2) "OneMark"
def om_iw (q : Nat × Nat × Nat) : Cond := .methodLink (om_cn q.1) q.2.1 (om_iy q.2.2)
def om_ci (q : Nat × Nat × Int32) : Cond := .constant (om_cn q.1) q.2.1 q.2.2
def om_cj (q : Nat × Nat × Int64) : Cond := .constantLong (om_cn q.1) q.2.1 q.2.2
def om_sw4 (q : om_Sg) : List Cond := .code q.1 q.2.1 q.2.2.1 q.2.2.2.1 :: .initialized q.1.cls :: (bif q.2.2.2.2.2.1 then [.static q.1] else [.instanceMethod q.1, .selects q.1.cls q.1 q.1])
def om_cw : List Cond := wsX00 ++ (wsX10 ++ (wsX20 ++ (wsX30 ++ (wsX40 ++ (wsX50 ++ (wsX60 ++ wsX70))))))
def om_tb : List Cond := om_fwl.map om_fw ++ (om_mwl.map om_mw ++ (om_iwl.map om_iw ++ (om_cil.map om_ci ++ (om_cll.map om_cj ++ (om_xw ++ (om_cw ++ om_sig.flatMap om_sw4))))))
def om_nw : List Cond := om_fnl.map om_fn ++ om_mnl.map om_mn
def om_tix : List (List Nat) := [[147, 151, 154, 156, 159, 161, 164, 167, 196, 198, 200, 201, 203, 205, 207, 232, 234, 249, 251, 253, 254, 255, 256, 257, 258, 282, 284, 285, 286, 287, 288, 289, 290, 314, 316, 318, 319, 321, 323, 325, 326, 327, 328, 329, 354, 355, 356, 357, 358, 359, 360, 922, 923, 924, 925, 926, 927, 928, 929, 930, 931, 932, 933, 934, 935, 936, 937, 938, 939, 940, 941, 942, 943, 944, 945, 946, 947, 948, 949, 950, 951, 952, 953, 954, 955, 956, 957, 958], [376, 380, 383, 390, 394, 398, 402, 413, 417, 425, 434, 439, 443, 447, 455, 459, 463, 475, 479, 487, 488, 496, 497, 501, 509, 513, 514, 522, 525, 531, 534, 538, 542, 550, 561, 565, 572, 580, 586, 590, 594, 597, 601, 606, 614, 618, 622, 634, 635, 642, 646, 654, 657, 661, 666, 674, 683, 687, 699, 703, 706, 711, 715, 719, 725, 729, 733, 736, 741, 775, 778, 782, 786, 799, 807, 811, 815, 820, 824, 828, 832, 836, 840, 844, 852, 856, 862, 872, 885, 890, 894, 898, 906, 907, 908, 1035, 1039, 1042, 1046, 1050, 1056, 1060, 1064, 1068, 1072, 1077, 1081, 1085, 1089, 1093, 1097, 1101, 1105, 1109, 1113, 1117, 1121, 1125, 1129, 1133, 1137, 1142, 1146, 1149, 1153, 1157, 1161, 1165, 1170, 1174, 1178, 1182, 1186, 1194, 1198, 1202, 1206, 1210, 1214, 1218, 1222, 1226, 1230, 1234, 1238, 1242, 1246, 1250, 1253, 1259, 1263, 1267, 1271, 1274, 1278, 1282, 1286, 1290, 1295, 1300, 1304, 1308, 1313, 1319, 1327, 1331, 1335, 1339, 1340, 1344, 1348, 1352, 1356, 1360, 1364], [528, 554, 557, 558, 665, 798], [438, 583, 584, 585, 605, 1076, 1141, 1294, 1299, 1312, 1317, 1318, 1323, 1324, 1325, 1326], [678, 889, 1045, 1054, 1055, 1169, 1190, 1191, 1192, 1193, 1257, 1258, 1368], [1369, 1370, 723, 739, 529, 530, 555, 556, 126, 127, 559, 560], [170, 172, 174, 176, 178, 180, 182, 184, 236, 238, 259, 261, 263, 265, 267, 269, 271, 273, 211, 213, 215, 217, 219, 221, 223, 331, 333, 335, 337, 339, 341, 343, 345, 347, 349, 351, 291, 293, 295, 297, 299, 301, 303, 305, 361, 363, 365, 367, 369, 371, 373, 959, 961, 963, 965, 967, 969, 971, 973, 975, 977, 979, 981, 983, 985, 987, 989, 991, 993, 995, 997, 999, 1001, 1003, 1005, 1007, 1009, 1011, 1013, 1015, 1017, 1019, 1021, 1023, 1025, 1027, 1029, 1031], [393, 119, 392, 1, 389, 119, 388, 0, 412, 119, 411, 4, 424, 119, 423, 6, 408, 119, 407, 3, 432, 119, 431, 7, 633, 119, 632, 33, 915, 119, 914, 71, 645, 121, 644, 35, 641, 121, 640, 34, 660, 121, 659, 37, 664, 121, 663, 38, 656, 121, 655, 653, 121, 652, 36, 553, 122, 552, 23, 549, 122, 548, 22, 579, 120, 578, 26, 582, 128, 581, 575, 122, 574, 25, 596, 122, 595, 593, 122, 592, 28, 604, 122, 603, 30, 600, 122, 599, 29, 589, 122, 588, 27, 571, 122, 570, 24, 888, 122, 887, 69, 884, 122, 883, 68, 673, 122, 672, 39, 458, 120, 457, 10, 462, 120, 461, 11, 466, 120, 465, 12, 454, 120, 453, 9, 629, 120, 628, 32, 613, 120, 612, 31, 470, 120, 469, 13, 905, 120, 904, 70, 478, 120, 477, 15, 474, 120, 473, 14, 486, 120, 485, 16, 495, 120, 494, 17, 512, 120, 511, 19, 508, 120, 507, 18, 527, 120, 526, 533, 120, 532, 524, 120, 523, 521, 120, 520, 20, 698, 124, 697, 42, 797, 124, 796, 50, 814, 124, 813, 54, 810, 124, 809, 53, 827, 124, 826, 57, 851, 124, 850, 63, 793, 124, 792, 49, 806, 124, 805, 52, 823, 124, 822, 56, 819, 124, 818, 55, 875, 124, 874, 67, 870, 124, 869, 66, 682, 123, 681, 40, 705, 123, 704, 722, 129, 720, 721, 718, 129, 716, 717, 732, 129, 730, 731, 743, 131, 742, 738, 129, 737, 735, 130, 734, 728, 129, 726, 727, 714, 123, 713, 45, 709, 123, 708, 44, 777, 123, 776, 781, 123, 780, 46, 702, 123, 701, 43, 789, 123, 788, 48, 802, 123, 801, 51, 831, 123, 830, 58, 839, 123, 838, 60, 835, 123, 834, 59, 843, 123, 842, 61, 847, 123, 846, 62, 855, 123, 854, 64, 859, 123, 858, 65, 785, 123, 784, 47, 694, 123, 693, 41, 382, 118, 381, 385, 118, 384, 379, 118, 377, 378, 401, 118, 400, 2, 404, 118, 403, 397, 118, 395, 396, 420, 118, 419, 5, 416, 118, 414, 415, 428, 118, 426, 427, 437, 118, 435, 436, 442, 118, 440, 441, 450, 118, 449, 8, 446, 118, 444, 445, 482, 118, 480, 481, 491, 118, 489, 490, 504, 118, 502, 503, 500, 118, 498, 499, 517, 118, 515, 516, 541, 118, 540, 21, 537, 118, 535, 536, 545, 118, 543, 544, 567, 118, 566, 564, 118, 562, 563, 609, 118, 607, 608, 617, 118, 615, 616, 621, 118, 619, 620, 637, 118, 636, 625, 118, 623, 624, 649, 118, 647, 648, 669, 118, 667, 668, 677, 118, 675, 676, 686, 118, 684, 685, 690, 118, 688, 689, 865, 118, 863, 864, 893, 118, 891, 892, 897, 118, 895, 896, 901, 118, 899, 900, 911, 118, 909, 910, 1044, 125, 1043, 1053, 125, 1052, 72, 1067, 125, 1066, 74, 1088, 125, 1087, 75, 1041, 125, 1040, 1038, 125, 1036, 1037, 1059, 125, 1058, 73, 1049, 125, 1047, 1048, 1063, 125, 1061, 1062, 1071, 125, 1069, 1070, 1075, 125, 1073, 1074, 1080, 125, 1078, 1079, 1096, 125, 1095, 77, 1092, 125, 1091, 76, 1164, 125, 1163, 87, 1104, 125, 1103, 79, 1100, 125, 1099, 78, 1084, 125, 1082, 1083, 1108, 125, 1106, 1107, 1116, 125, 1115, 80, 1112, 125, 1110, 1111, 1124, 125, 1123, 81, 1120, 125, 1118, 1119, 1128, 125, 1126, 1127, 1148, 125, 1147, 1145, 125, 1144, 84, 1140, 125, 1139, 83, 1136, 125, 1135, 82, 1132, 125, 1130, 1131, 1156, 125, 1155, 85, 1160, 125, 1159, 86, 1152, 125, 1150, 1151, 1181, 125, 1180, 90, 1177, 125, 1176, 89, 1173, 125, 1172, 88, 1168, 125, 1166, 1167, 1189, 125, 1188, 91, 1185, 125, 1183, 1184, 1197, 125, 1195, 1196, 1201, 125, 1199, 1200, 1205, 125, 1203, 1204, 1217, 125, 1216, 93, 1225, 125, 1224, 95, 1221, 125, 1220, 94, 1213, 125, 1212, 92, 1209, 125, 1207, 1208, 1237, 125, 1236, 97, 1241, 125, 1240, 98, 1233, 125, 1232, 96, 1229, 125, 1227, 1228, 1249, 125, 1248, 99, 1252, 125, 1251, 1245, 125, 1243, 1244, 1256, 125, 1254, 1255, 1262, 125, 1260, 1261, 1273, 125, 1272, 1270, 125, 1269, 100, 1285, 125, 1284, 103, 1281, 125, 1280, 102, 1289, 125, 1288, 104, 1307, 125, 1306, 108, 1311, 125, 1310, 109, 1303, 125, 1302, 107, 1298, 125, 1297, 106, 1322, 125, 1321, 111, 1316, 125, 1315, 110, 1293, 125, 1292, 105, 1334, 125, 1333, 113, 1277, 125, 1276, 101, 1330, 125, 1329, 112, 1266, 125, 1264, 1265, 1347, 125, 1346, 115, 1343, 125, 1342, 114, 1338, 125, 1336, 1337, 1351, 125, 1349, 1350, 1355, 125, 1353, 1354, 1363, 125, 1362, 116, 1359, 125, 1357, 1358, 1367, 125, 1365, 1366], [148, 149, 150, 152, 153, 155, 157, 158, 160, 162, 163, 165, 166, 168, 169, 194, 195, 197, 199, 202, 204, 206, 208, 209, 210, 233, 235, 250, 252, 283, 315, 317, 320, 322, 324, 330], [386, 405, 409, 421, 429, 433, 451, 467, 471, 483, 492, 505, 518, 546, 568, 576, 610, 626, 630, 638, 650, 670, 679, 691, 695, 790, 794, 803, 816, 848, 860, 866, 867, 871, 876, 877, 878, 879, 880, 881, 902, 912]]
/-! ===== the small machine: values, memory, locals, one method's instructions as a function ===== -/
abbrev om_V : Type := Int32 ⊕ (Int64 ⊕ Nat)
abbrev om_M : Type := (Nat → Nat → Int32) × (Nat → Nat → Option Nat)
abbrev om_L : Type := List (Option om_V)
abbrev om_i (x : Int32) : om_V := .inl x
abbrev om_l (x : Int64) : om_V := .inr (.inl x)
abbrev om_r (a : Nat) : om_V := .inr (.inr a)
def om_up (M : om_M) (a j : Nat) (x : Int32) : om_M := (fun b k => if b = a then (if k = j then x else M.1 b k) else M.1 b k, M.2)
def om_upR (M : om_M) (a j : Nat) (x : Nat) : om_M := (M.1, fun b k => if b = a then (if k = j then some x else M.2 b k) else M.2 b k)
def om_cpy (M : om_M) (a1 sp a2 dp n : Nat) : om_M := (fun b k => if b = a2 then va_cpy (M.1 a1) (M.1 a2) sp dp n k else M.1 b k, M.2)
/-- an instruction with what it resolves to: pc, instruction, length, constant, target, (class or kind, slot or method, field's kind, place of its word), switch -/
abbrev om_E : Type := Nat × Instr × Nat × om_V × Nat × (Nat × Nat × Nat × Nat) × List (Int32 × Nat)
abbrev om_e (pc : Nat) (i : Instr) (n : Nat) : om_E := (pc, i, n, .inl 0, 0, (0, 0, 0, 0), [])
abbrev om_ec (pc : Nat) (i : Instr) (n : Nat) (c : om_V) : om_E := (pc, i, n, c, 0, (0, 0, 0, 0), [])
abbrev om_ew (pc : Nat) (i : Instr) (n : Nat) (c : om_V) (w : Nat) : om_E := (pc, i, n, c, 0, (0, 0, 0, w), [])
abbrev om_et (pc : Nat) (i : Instr) (n : Nat) (t : Nat) : om_E := (pc, i, n, .inl 0, t, (0, 0, 0, 0), [])
abbrev om_ef (pc : Nat) (i : Instr) (n : Nat) (c k d w : Nat) : om_E := (pc, i, n, .inl 0, 0, (c, k, d, w), [])
abbrev om_es (pc : Nat) (i : Instr) (n : Nat) (t : Nat) (s : List (Int32 × Nat)) : om_E := (pc, i, n, .inl 0, t, (0, 0, 0, 0), s)
/-- what a block ends in: a jump, a call (method, arguments, where it goes on, locals, rest of the stack), a return; or it is stuck -/
abbrev om_R : Type := (Nat × om_L × List om_V × om_M) ⊕ ((Nat × List om_V × Nat × om_L × List om_V × om_M) ⊕ ((Option om_V × om_M) ⊕ Unit))
abbrev om_go (l : Nat) (L : om_L) (st : List om_V) (M : om_M) : om_R := .inl (l, L, st, M)
abbrev om_ca (k : Nat) (as : List om_V) (l : Nat) (L : om_L) (st : List om_V) (M : om_M) : om_R := .inr (.inl (k, as, l, L, st, M))
abbrev om_rt (v : Option om_V) (M : om_M) : om_R := .inr (.inr (.inl (v, M)))
abbrev om_no : om_R := .inr (.inr (.inr ()))
def om_p1 (st : List om_V) (k : Int32 → List om_V → om_R) : om_R := match st with
  | .inl x :: r => k x r
  | _ => om_no
def om_p2 (st : List om_V) (k : Int32 → Int32 → List om_V → om_R) : om_R := match st with
  | .inl y :: .inl x :: r => k x y r
  | _ => om_no
def om_q1 (st : List om_V) (k : Int64 → List om_V → om_R) : om_R := match st with
  | .inr (.inl x) :: r => k x r
  | _ => om_no
def om_q2 (st : List om_V) (k : Int64 → Int64 → List om_V → om_R) : om_R := match st with
  | .inr (.inl y) :: .inr (.inl x) :: r => k x y r
  | _ => om_no
def om_qi (st : List om_V) (k : Int64 → Int32 → List om_V → om_R) : om_R := match st with
  | .inl y :: .inr (.inl x) :: r => k x y r
  | _ => om_no
def om_a1 (st : List om_V) (k : Nat → List om_V → om_R) : om_R := match st with
  | .inr (.inr a) :: r => k a r
  | _ => om_no
def om_ai (st : List om_V) (k : Nat → Int32 → List om_V → om_R) : om_R := match st with
  | .inl i :: .inr (.inr a) :: r => k a i r
  | _ => om_no
def om_aii (st : List om_V) (k : Nat → Int32 → Int32 → List om_V → om_R) : om_R := match st with
  | .inl x :: .inl i :: .inr (.inr a) :: r => k a i x r
  | _ => om_no
def om_ar (st : List om_V) (k : Nat → Nat → List om_V → om_R) : om_R := match st with
  | .inr (.inr b) :: .inr (.inr a) :: r => k a b r
  | _ => om_no
def om_li (L : om_L) (i : Nat) (k : Int32 → om_R) : om_R := match L.getD i none with
  | some (.inl x) => k x
  | _ => om_no
def om_ll (L : om_L) (i : Nat) (k : Int64 → om_R) : om_R := match L.getD i none with
  | some (.inr (.inl x)) => k x
  | _ => om_no
def om_lr (L : om_L) (i : Nat) (k : Nat → om_R) : om_R := match L.getD i none with
  | some (.inr (.inr x)) => k x
  | _ => om_no
def om_isL : Option om_V → Bool
  | some (.inr (.inl _)) => true
  | _ => false
/-- a value of one slot is stored: a long that began one place ahead is gone -/
def om_s1 : om_L → Nat → om_V → om_L
  | [], _, _ => []
  | _ :: t, 0, v => some v :: t
  | h :: t, 1, v => (bif om_isL h then none else h) :: om_s1 t 0 v
  | h :: t, (i + 2), v => h :: om_s1 t (i + 1) v
def om_s2 : om_L → Nat → om_V → om_L
  | [], _, _ => []
  | [_], 0, _ => []
  | _ :: _ :: t, 0, v => some v :: none :: t
  | h :: t, 1, v => (bif om_isL h then none else h) :: om_s2 t 0 v
  | h :: t, (i + 2), v => h :: om_s2 t (i + 1) v
def om_tr : List Bool → om_L → om_L
  | b :: bs, v :: vs => (bif b then v else none) :: om_tr bs vs
  | _, _ => []
def om_in (i : Int32) (n : Nat) : Bool := decide (0 ≤ i) && decide (i.toNatClampNeg < n)
def om_cg (a : Nat) (sp : Int32) (b : Nat) (dp n : Int32) : Bool := om_isA a 1 && (om_isA b 1 && (decide (0 ≤ sp) && (decide (0 ≤ dp) && (decide (0 ≤ n) && (Nat.ble (sp.toNatClampNeg + n.toNatClampNeg) (om_ln a) && Nat.ble (dp.toNatClampNeg + n.toNatClampNeg) (om_ln b))))))
def om_oe (o : Option Nat) (k : Nat → om_R) : om_R := match o with
  | some q => k q
  | none => om_no
def om_sw (x : Int32) (d : Nat) (L : om_L) (st : List om_V) (M : om_M) : List (Int32 × Nat) → om_R
  | [] => om_go d L st M
  | q :: r => if x = q.1 then om_go q.2 L st M else om_sw x d L st M r
def om_nr : Nat → Int32 → Bool
  | 0, _ => true
  | 1, v => decide (v = 0) || decide (v = 1)
  | 2, v => decide (v = 0)
  | _, v => decide (0 ≤ v) && decide (v ≤ 255)
def om_take : Nat → List om_V → Option (List om_V × List om_V)
  | 0, st => some ([], st)
  | n + 1, v :: st => match om_take n st with
    | some (as, r) => some (as ++ [v], r)
    | none => none
  | _ + 1, [] => none
def om_rc : List om_V → Option Nat
  | .inr (.inr a) :: _ => some a
  | _ => none
/-- a call: n arguments (a receiver counts), its class told by code (0: none) -/
def om_cl (k n ci nx : Nat) (L : om_L) (st : List om_V) (M : om_M) : om_R := match om_take n st with
  | some (as, r) => bif Nat.ble r.length 4 then (match ci with
    | 0 => om_ca k as nx L r M
    | c + 1 => om_oe (om_rc as) fun a => bif om_obj a c then om_ca k as nx L r M else om_no) else om_no
  | none => om_no
def om_getf (a k : Nat) (M : om_M) (K : om_V → om_R) : Nat → om_R
  | 0 => K (om_i (M.1 a k))
  | 1 => om_oe (M.2 a k) fun q => K (om_r q)
  | 2 => K (om_r (a + 1000))
  | 3 => K (om_i 0)
  | d + 4 => K (om_r (a + (d + 1)))
def om_ex (rt nx : Nat) : List om_E → om_L → List om_V → om_M → om_R
  | [], L, st, M => om_go nx L st M
  | (pc, i, n, c, t, f, sw) :: r, L, st, M => match i with
    | .iconst _ | .bipush _ | .sipush _ | .lconst _ | .ldc _ | .ldc_w _ | .ldc2_w _ | .getstatic _ => om_ex rt nx r L (c :: st) M
    | .iload_n k => om_li L k fun x => om_ex rt nx r L (om_i x :: st) M
    | .iload k => om_li L k fun x => om_ex rt nx r L (om_i x :: st) M
    | .lload_n k => om_ll L k fun x => om_ex rt nx r L (om_l x :: st) M
    | .lload k => om_ll L k fun x => om_ex rt nx r L (om_l x :: st) M
    | .aload_n k => om_lr L k fun x => om_ex rt nx r L (om_r x :: st) M
    | .aload k => om_lr L k fun x => om_ex rt nx r L (om_r x :: st) M
    | .istore_n k => om_p1 st fun x st => om_ex rt nx r (om_s1 L k (om_i x)) st M
    | .istore k => om_p1 st fun x st => om_ex rt nx r (om_s1 L k (om_i x)) st M
    | .lstore_n k => om_q1 st fun x st => om_ex rt nx r (om_s2 L k (om_l x)) st M
    | .lstore k => om_q1 st fun x st => om_ex rt nx r (om_s2 L k (om_l x)) st M
    | .astore_n k => om_a1 st fun x st => om_ex rt nx r (om_s1 L k (om_r x)) st M
    | .iinc k _ => om_li L k fun x => match c with
      | .inl y => om_ex rt nx r (om_s1 L k (om_i (x + y))) st M
      | _ => om_no
    | .iadd => om_p2 st fun x y st => om_ex rt nx r L (om_i (x + y) :: st) M
    | .isub => om_p2 st fun x y st => om_ex rt nx r L (om_i (x - y) :: st) M
    | .imul => om_p2 st fun x y st => om_ex rt nx r L (om_i (x * y) :: st) M
    | .idiv => om_p2 st fun x y st => bif decide (y = 0) then om_no else om_ex rt nx r L (om_i (x / y) :: st) M
    | .irem => om_p2 st fun x y st => bif decide (y = 0) then om_no else om_ex rt nx r L (om_i (x - x / y * y) :: st) M
    | .ineg => om_p1 st fun x st => om_ex rt nx r L (om_i (-x) :: st) M
    | .iand => om_p2 st fun x y st => om_ex rt nx r L (om_i (x &&& y) :: st) M
    | .ior => om_p2 st fun x y st => om_ex rt nx r L (om_i (x ||| y) :: st) M
    | .ixor => om_p2 st fun x y st => om_ex rt nx r L (om_i (x ^^^ y) :: st) M
    | .ishl => om_p2 st fun x y st => om_ex rt nx r L (om_i (x <<< (y &&& 31)) :: st) M
    | .ishr => om_p2 st fun x y st => om_ex rt nx r L (om_i (x >>> (y &&& 31)) :: st) M
    | .iushr => om_p2 st fun x y st => om_ex rt nx r L (om_i (x.toUInt32 >>> (y.toUInt32 &&& Int32.toUInt32 31)).toInt32 :: st) M
    | .ladd => om_q2 st fun x y st => om_ex rt nx r L (om_l (x + y) :: st) M
    | .lsub => om_q2 st fun x y st => om_ex rt nx r L (om_l (x - y) :: st) M
    | .lmul => om_q2 st fun x y st => om_ex rt nx r L (om_l (x * y) :: st) M
    | .ldiv => om_q2 st fun x y st => bif decide (y = 0) then om_no else om_ex rt nx r L (om_l (x / y) :: st) M
    | .lneg => om_q1 st fun x st => om_ex rt nx r L (om_l (-x) :: st) M
    | .land => om_q2 st fun x y st => om_ex rt nx r L (om_l (x &&& y) :: st) M
    | .lor => om_q2 st fun x y st => om_ex rt nx r L (om_l (x ||| y) :: st) M
    | .lxor => om_q2 st fun x y st => om_ex rt nx r L (om_l (x ^^^ y) :: st) M
    | .lshl => om_qi st fun x y st => om_ex rt nx r L (om_l (x <<< (y.toInt64 &&& 63)) :: st) M
    | .lshr => om_qi st fun x y st => om_ex rt nx r L (om_l (x >>> (y.toInt64 &&& 63)) :: st) M
    | .lcmp => om_q2 st fun x y st => om_ex rt nx r L (om_i (lg_cmp x y) :: st) M
    | .i2l => om_p1 st fun x st => om_ex rt nx r L (om_l x.toInt64 :: st) M
    | .l2i => om_q1 st fun x st => om_ex rt nx r L (om_i x.toInt32 :: st) M
    | .i2c => om_p1 st fun x st => om_ex rt nx r L (om_i (x.toUInt32 % 65536).toInt32 :: st) M
    | .pop => om_p1 st fun _ st => om_ex rt nx r L st M
    | .dup => match st with
      | .inl x :: st => om_ex rt nx r L (om_i x :: om_i x :: st) M
      | .inr (.inr x) :: st => om_ex rt nx r L (om_r x :: om_r x :: st) M
      | _ => om_no
    | .dup_x1 => match st with
      | .inl x :: .inr (.inr y) :: st => om_ex rt nx r L (om_i x :: om_r y :: om_i x :: st) M
      | .inl x :: .inl y :: st => om_ex rt nx r L (om_i x :: om_i y :: om_i x :: st) M
      | _ => om_no
    | .dup2 => om_ai st fun a i st => om_ex rt nx r L (om_i i :: om_r a :: om_i i :: om_r a :: st) M
    | .goto _ => om_go t L st M
    | .ifCond .eq _ => om_p1 st fun x st => if x = 0 then om_go t L st M else om_go (pc + n) L st M
    | .ifCond .ne _ => om_p1 st fun x st => if x = 0 then om_go (pc + n) L st M else om_go t L st M
    | .ifCond .lt _ => om_p1 st fun x st => if x < 0 then om_go t L st M else om_go (pc + n) L st M
    | .ifCond .ge _ => om_p1 st fun x st => if 0 ≤ x then om_go t L st M else om_go (pc + n) L st M
    | .ifCond .gt _ => om_p1 st fun x st => if 0 < x then om_go t L st M else om_go (pc + n) L st M
    | .ifCond .le _ => om_p1 st fun x st => if x ≤ 0 then om_go t L st M else om_go (pc + n) L st M
    | .if_icmp .eq _ => om_p2 st fun x y st => if x = y then om_go t L st M else om_go (pc + n) L st M
    | .if_icmp .ne _ => om_p2 st fun x y st => if x = y then om_go (pc + n) L st M else om_go t L st M
    | .if_icmp .lt _ => om_p2 st fun x y st => if x < y then om_go t L st M else om_go (pc + n) L st M
    | .if_icmp .ge _ => om_p2 st fun x y st => if y ≤ x then om_go t L st M else om_go (pc + n) L st M
    | .if_icmp .gt _ => om_p2 st fun x y st => if y < x then om_go t L st M else om_go (pc + n) L st M
    | .if_icmp .le _ => om_p2 st fun x y st => if x ≤ y then om_go t L st M else om_go (pc + n) L st M
    | .tableswitch _ _ _ _ => om_p1 st fun x st => om_sw x t L st M sw
    | .getfield _ => om_a1 st fun a st => bif om_obj a f.1 then om_getf a f.2.1 M (fun v => om_ex rt nx r L (v :: st) M) f.2.2.1 else om_no
    | .putfield _ => match f.2.2.1 with
      | 0 => om_ai st fun a x st => bif om_obj a f.1 then om_ex rt nx r L st (om_up M a f.2.1 x) else om_no
      | 1 => om_ar st fun a q st => bif om_obj a f.1 then om_ex rt nx r L st (om_upR M a f.2.1 q) else om_no
      | _ => om_no
    | .arraylength => om_a1 st fun a st => bif om_isB a then om_ex rt nx r L (om_i (Int32.ofNat (om_bl a)) :: st) M else om_no
    | .iaload => om_ai st fun a i st => bif om_isA a 1 && om_in i (om_ln a) then om_ex rt nx r L (om_i (M.1 a i.toNatClampNeg) :: st) M else om_no
    | .baload => om_ai st fun a i st => bif om_isA a 2 && om_in i (om_ln a) then om_ex rt nx r L (om_i (M.1 a i.toNatClampNeg) :: st) M else
        bif om_isB a && om_in i (om_bl a) then om_ex rt nx r L (om_i (om_bt a i.toNatClampNeg) :: st) M else om_no
    | .aaload => om_ai st fun a i st => bif om_isA a 3 && om_in i (om_ln a) then om_ex rt nx r L (om_r (a + (om_of a + i.toNatClampNeg)) :: st) M else om_no
    | .iastore => om_aii st fun a i x st => bif om_isA a 1 && om_in i (om_ln a) then om_ex rt nx r L st (om_up M a i.toNatClampNeg x) else om_no
    | .bastore => om_aii st fun a i x st => bif om_isA a 2 && om_in i (om_ln a) then (bif om_nr 1 x then om_ex rt nx r L st (om_up M a i.toNatClampNeg x) else om_no) else om_no
    | .invokevirtual _ => om_cl f.2.1 f.2.2.1 (f.1 + 1) (pc + n) L st M
    | .invokestatic _ => match f.1 with
      | 0 => om_cl f.2.1 f.2.2.1 0 (pc + n) L st M
      | 1 => om_p2 st fun x y st => om_ex rt nx r L (om_i (if y < x then y else x) :: st) M
      | 2 => om_p2 st fun x y st => om_ex rt nx r L (om_i (if x < y then y else x) :: st) M
      | 3 => match st with
        | .inl n9 :: .inl dp :: .inr (.inr b) :: .inl sp :: .inr (.inr a) :: st => bif om_cg a sp b dp n9 then om_ex rt nx r L st (om_cpy M a sp.toNatClampNeg b dp.toNatClampNeg n9.toNatClampNeg) else om_no
        | _ => om_no
      | _ => om_no
    | .ireturn => match st with
      | [.inl x] => bif om_nr rt x then om_rt (some (om_i x)) M else om_no
      | _ => om_no
    | .return_ => match st with
      | [] => om_rt none M
      | _ => om_no
    | _ => om_no

/-! ===== runs of blocks ===== -/
abbrev om_Bk : Type := Nat × List Bool × List om_E × Nat
abbrev om_C : Type := Nat → List om_V → om_M → Option om_V → om_M → Prop
abbrev om_GT : Type := Nat → om_L → List om_V → om_M → Option om_V → om_M → Prop
def om_fb : List om_Bk → Nat → Option (List Bool × List om_E × Nat)
  | [], _ => none
  | q :: r, l => bif Nat.beq q.1 l then some q.2 else om_fb r l
def om_Kr (C : om_C) (G : om_GT) (r : Option om_V) (Mf : om_M) : om_R → Prop
  | .inl (l, L, st, M) => G l L st M r Mf
  | .inr (.inl (k, as, l, L, st, M)) => ∃ v M1, C k as M v M1 ∧ G l L (v.toList ++ st) M1 r Mf
  | .inr (.inr (.inl (v, M))) => r = v ∧ Mf = M
  | .inr (.inr (.inr _)) => False
def om_Go (C : om_C) (rt : Nat) (B : List om_Bk) : Nat → om_GT
  | 0 => fun _ _ _ _ _ _ => False
  | n + 1 => fun l L st M r Mf => ∃ kp es nx, om_fb B l = some (kp, es, nx) ∧ om_Kr C (om_Go C rt B n) r Mf (om_ex rt nx es (om_tr kp L) st M)
def om_G (C : om_C) (rt : Nat) (B : List om_Bk) : om_GT := fun l L st M r Mf => ∃ n, om_Go C rt B n l L st M r Mf
theorem om_Kr_ex {C : om_C} {rt : Nat} {B : List om_Bk} {r : Option om_V} {Mf : om_M} {R : om_R} (h : om_Kr C (om_G C rt B) r Mf R) : ∃ n, om_Kr C (om_Go C rt B n) r Mf R := by
  match R, h with
  | .inl (l, L, st, M), h => exact h
  | .inr (.inl (k, as, l, L, st, M)), ⟨v, M1, h1, n, h2⟩ => exact ⟨n, v, M1, h1, h2⟩
  | .inr (.inr (.inl (v, M))), h => exact ⟨0, h⟩
  | .inr (.inr (.inr _)), h => exact h.elim
theorem om_gb {C : om_C} {rt : Nat} {B : List om_Bk} {l : Nat} {kp : List Bool} {es : List om_E} {nx : Nat} {L L' : om_L} {st : List om_V} {M : om_M} {r : Option om_V} {Mf : om_M} (hb : om_fb B l = some (kp, es, nx)) (hL : om_tr kp L = L') {X : om_R} (he : om_ex rt nx es L' st M = X) (hk : om_Kr C (om_G C rt B) r Mf X) : om_G C rt B l L st M r Mf := by
  obtain ⟨n, h⟩ := om_Kr_ex hk
  exact ⟨n + 1, kp, es, nx, hb, by rw [hL, he]; exact h⟩
def om_it {α β : Type} (f : α → Option (α ⊕ β)) : Nat → α → Option β
  | 0, _ => none
  | n + 1, x => (f x).bind (Sum.elim (om_it f n) some)
theorem om_it_ok {α β : Type} {f : α → Option (α ⊕ β)} {P : α → Prop} {Q : β → Prop} (hf : ∀ x e, f x = some e → Sum.elim P Q e → P x) : ∀ n x z, om_it f n x = some z → Q z → P x
  | 0, _, _, h, _ => nomatch h
  | n + 1, x, z, h, hq => by
    unfold om_it at h
    cases hx : f x with
    | none => rw [hx] at h; cases h
    | some e =>
      rw [hx] at h
      refine hf x e hx ?_
      cases e with
      | inl y => exact om_it_ok hf n y z h hq
      | inr y => cases h; exact hq
section KK
variable {C : om_C} {G : om_GT} {r : Option om_V} {Mf : om_M} {ε : Type} {e : ε}
theorem om_ki {c : Prop} [Decidable c] {A B : Option ε} {X Y : om_R} (h : (if c then A else B) = some e) (ka : A = some e → om_Kr C G r Mf X) (kb : B = some e → om_Kr C G r Mf Y) : om_Kr C G r Mf (if c then X else Y) := by
  by_cases hc : c
  · rw [if_pos hc] at h ⊢; exact ka h
  · rw [if_neg hc] at h ⊢; exact kb h
theorem om_kb {g g' : Bool} {A : Option ε} {X : om_R} (h : (bif g then A else none) = some e) (hg : g' = g) (k : A = some e → om_Kr C G r Mf X) : om_Kr C G r Mf (bif g' then X else om_no) := by
  subst hg
  cases g' with
  | true => exact k h
  | false => cases h
theorem om_kdv {g : Bool} {A : Option ε} {X : om_R} (h : (bif !g then A else none) = some e) (k : A = some e → om_Kr C G r Mf X) : om_Kr C G r Mf (bif g then om_no else X) := by
  cases g with
  | false => exact k h
  | true => cases h
theorem om_k2 {g g2 : Bool} {A B : Option ε} {X Y : om_R} (h : (bif g then A else bif g2 then B else none) = some e) (k : A = some e → om_Kr C G r Mf X) (k2 : B = some e → om_Kr C G r Mf Y) : om_Kr C G r Mf (bif g then X else bif g2 then Y else om_no) := by
  cases g with
  | true => exact k h
  | false => cases g2 with
    | true => exact k2 h
    | false => cases h
theorem om_ko {o : Option Nat} {f : Nat → Option ε} {K : Nat → om_R} (h : o.bind f = some e) (k : ∀ q, f q = some e → om_Kr C G r Mf (K q)) : om_Kr C G r Mf (om_oe o K) := by
  cases o with
  | none => cases h
  | some q => exact k q h
theorem om_kc {o : Option (Int32 × om_M)} {f : Int32 × om_M → Option ε} {k : Nat} {as : List om_V} {l : Nat} {L : om_L} {st : List om_V} {M : om_M} (h : o.bind f = some e) (hC : ∀ q, o = some q → C k as M (some (om_i q.1)) q.2) (kk : ∀ q, f q = some e → G l L (om_i q.1 :: st) q.2 r Mf) : om_Kr C G r Mf (om_ca k as l L st M) := by
  cases o with
  | none => cases h
  | some q => exact ⟨some (om_i q.1), q.2, hC q rfl, kk q h⟩
theorem om_kcv {o : Option om_M} {f : om_M → Option ε} {k : Nat} {as : List om_V} {l : Nat} {L : om_L} {st : List om_V} {M : om_M} (h : o.bind f = some e) (hC : ∀ q, o = some q → C k as M none q) (kk : ∀ q, f q = some e → G l L st q r Mf) : om_Kr C G r Mf (om_ca k as l L st M) := by
  cases o with
  | none => cases h
  | some q => exact ⟨none, q, hC q rfl, kk q h⟩
theorem om_cm {v : Int32} {M : om_M} {e : Int32 × om_M} (h : some (v, M) = some e) (hk : r = some (om_i e.1) ∧ Mf = e.2) : om_Kr C G r Mf (om_rt (some (om_i v)) M) := by
  cases h; exact hk
theorem om_cmv {M : om_M} {e : om_M} (h : some M = some e) (hk : r = none ∧ Mf = e) : om_Kr C G r Mf (om_rt none M) := by
  cases h; exact hk
theorem om_cin {α β : Type} {P : α → Prop} {Q : β → Prop} {x : α} {e : α ⊕ β} (h : some (Sum.inl x) = some e) (hk : Sum.elim P Q e) : P x := by
  cases h; exact hk
theorem om_cir {α β : Type} {P : α → Prop} {Q : β → Prop} {y : β} {e : α ⊕ β} (h : some (Sum.inr y) = some e) (hk : Sum.elim P Q e) : Q y := by
  cases h; exact hk
theorem om_sd {α β : Type} {f : α → Option ε} {g : β → Option ε} {Q1 : α → Prop} {Q2 : β → Prop} {q : α ⊕ β} (h : Sum.elim f g q = some e) (h1 : ∀ z, f z = some e → Q1 z) (h2 : ∀ z, g z = some e → Q2 z) : Sum.elim Q1 Q2 q := by
  cases q with
  | inl z => exact h1 z h
  | inr z => exact h2 z h
theorem om_kL {α β : Type} {f : α → Option (α ⊕ β)} {P : α → Prop} {Q : β → Prop} {F : Nat} {x : α} {D : β → Option ε} (h : (om_it f F x).bind D = some e) (hf : ∀ x e, f x = some e → Sum.elim P Q e → P x) (hd : ∀ z, D z = some e → Q z) : P x := by
  cases hi : om_it f F x with
  | none => rw [hi] at h; cases h
  | some z => rw [hi] at h; exact om_it_ok hf F x z hi (hd z h)
end KK
theorem om_ga {a c n : Nat} {i : Int32} (h1 : om_isA a c = true) (h2 : om_ln a = n) : (om_isA a c && om_in i (om_ln a)) = om_in i n := by rw [h1, h2]; rfl
end
section
theorem om_mem_of {l : List Cond} {ix : List Nat} (h : l = ix.filterMap (fun i => lw_tbl[i]?)) : ∀ w ∈ l, w ∈ lw_tbl := by
  intro w hw
  rw [h] at hw
  obtain ⟨i, -, hi⟩ := List.mem_filterMap.mp hw
  exact List.mem_of_getElem? hi
set_option maxRecDepth 100000 in
set_option maxHeartbeats 4000000 in
theorem om_t1 : ∀ w ∈ om_fwl.map om_fw, w ∈ lw_tbl := om_mem_of (ix := om_tix.getD 0 []) rfl
set_option maxRecDepth 100000 in
set_option maxHeartbeats 4000000 in
theorem om_t2 : ∀ w ∈ om_mwl.map om_mw, w ∈ lw_tbl := om_mem_of (ix := om_tix.getD 1 []) rfl
set_option maxRecDepth 100000 in
set_option maxHeartbeats 4000000 in
theorem om_t3 : ∀ w ∈ om_iwl.map om_iw, w ∈ lw_tbl := om_mem_of (ix := om_tix.getD 2 []) rfl
set_option maxRecDepth 100000 in
set_option maxHeartbeats 4000000 in
theorem om_t4 : ∀ w ∈ om_cil.map om_ci, w ∈ lw_tbl := om_mem_of (ix := om_tix.getD 3 []) rfl
set_option maxRecDepth 100000 in
set_option maxHeartbeats 4000000 in
theorem om_t5 : ∀ w ∈ om_cll.map om_cj, w ∈ lw_tbl := om_mem_of (ix := om_tix.getD 4 []) rfl
set_option maxRecDepth 100000 in
set_option maxHeartbeats 4000000 in
theorem om_t6 : ∀ w ∈ om_xw, w ∈ lw_tbl := om_mem_of (ix := om_tix.getD 5 []) rfl
set_option maxRecDepth 100000 in
set_option maxHeartbeats 4000000 in
theorem om_t7 : ∀ w ∈ om_cw, w ∈ lw_tbl := om_mem_of (ix := om_tix.getD 6 []) rfl
set_option maxRecDepth 100000 in
set_option maxHeartbeats 4000000 in
theorem om_t8 : ∀ w ∈ om_sig.flatMap om_sw4, w ∈ lw_tbl := om_mem_of (ix := om_tix.getD 7 []) rfl
set_option maxRecDepth 100000 in
set_option maxHeartbeats 4000000 in
theorem om_t9 : ∀ w ∈ om_fnl.map om_fn, w ∈ lw_tbl := om_mem_of (ix := om_tix.getD 8 []) rfl
set_option maxRecDepth 100000 in
set_option maxHeartbeats 4000000 in
theorem om_t10 : ∀ w ∈ om_mnl.map om_mn, w ∈ lw_tbl := om_mem_of (ix := om_tix.getD 9 []) rfl
theorem om_tb_in : ∀ w ∈ om_tb, w ∈ lw_tbl := fun w h => (List.mem_append.mp h).elim (om_t1 w) fun h => (List.mem_append.mp h).elim (om_t2 w) fun h => (List.mem_append.mp h).elim (om_t3 w) fun h => (List.mem_append.mp h).elim (om_t4 w) fun h => (List.mem_append.mp h).elim (om_t5 w) fun h => (List.mem_append.mp h).elim (om_t6 w) fun h => (List.mem_append.mp h).elim (om_t7 w) (om_t8 w)
theorem om_nw_in : ∀ w ∈ om_nw, w ∈ lw_tbl := fun w h => (List.mem_append.mp h).elim (om_t9 w) (om_t10 w)
theorem om_tb_good : om_tb.all goodWord = true := by decide +kernel
end
section
def om_E0_0 : List om_E := [om_e 0 (.iload_n 2) 1, om_et 1 (.ifCond .ne 18) 3 19]
def om_E0_4 : List om_E := [om_e 4 (.aload_n 0) 1, om_e 5 .dup 1, om_ef 6 (.getfield 38) 3 0 2 0 2, om_ew 9 (.iconst 1) 1 (om_i (1)) 0, om_e 10 (.iload_n 1) 1, om_e 11 .ishl 1, om_e 12 .ior 1, om_ef 13 (.putfield 38) 3 0 2 0 2, om_et 16 (.goto 17) 3 33]
def om_E0_19 : List om_E := [om_e 19 (.aload_n 0) 1, om_e 20 .dup 1, om_ef 21 (.getfield 38) 3 0 2 0 2, om_ew 24 (.iconst 1) 1 (om_i (1)) 0, om_e 25 (.iload_n 1) 1, om_e 26 .ishl 1, om_ew 27 (.iconst (-1)) 1 (om_i (-1)) 0, om_e 28 .ixor 1, om_e 29 .iand 1, om_ef 30 (.putfield 38) 3 0 2 0 2]
def om_E0_33 : List om_E := [om_e 33 .return_ 1]
def om_B0 : List om_Bk := [(0, [true, true, true], om_E0_0, 4), (4, [true, true, false], om_E0_4, 19), (19, [true, true, false], om_E0_19, 33), (33, [false, false, false], om_E0_33, 34)]
def om_E1_0 : List om_E := [om_e 0 (.aload_n 0) 1, om_e 1 .dup 1, om_ef 2 (.getfield 27) 3 0 0 0 0, om_e 5 .dup_x1 1, om_ew 6 (.iconst 1) 1 (om_i (1)) 0, om_e 7 .iadd 1, om_ef 8 (.putfield 27) 3 0 0 0 0, om_e 11 (.istore_n 3) 1, om_e 12 (.aload_n 0) 1, om_ef 13 (.getfield 9) 3 0 3 4 3, om_e 16 (.iload_n 3) 1, om_e 17 (.iload_n 2) 1, om_e 18 .iastore 1, om_e 19 (.aload_n 0) 1, om_ef 20 (.getfield 15) 3 0 4 5 4, om_e 23 (.iload_n 3) 1, om_ew 24 (.iconst (-1)) 1 (om_i (-1)) 0, om_e 25 .iastore 1, om_e 26 (.aload_n 0) 1, om_e 27 (.iload_n 3) 1, om_e 28 (.iload_n 1) 1, om_ef 29 (.invokevirtual 31) 3 0 0 3 3]
def om_E1_32 : List om_E := [om_e 32 (.iload_n 3) 1, om_e 33 .ireturn 1]
def om_B1 : List om_Bk := [(0, [true, true, true, false], om_E1_0, 32), (32, [false, false, false, true], om_E1_32, 34)]
def om_E2_0 : List om_E := [om_e 0 (.aload_n 0) 1, om_e 1 .dup 1, om_ef 2 (.getfield 35) 3 0 1 0 1, om_e 5 .dup_x1 1, om_ew 6 (.iconst 1) 1 (om_i (1)) 0, om_e 7 .iadd 1, om_ef 8 (.putfield 35) 3 0 1 0 1, om_e 11 (.istore 4) 2, om_e 13 (.aload_n 0) 1, om_ef 14 (.getfield 18) 3 0 5 6 5, om_e 17 (.iload 4) 2, om_e 19 (.iload_n 1) 1, om_e 20 .iastore 1, om_e 21 (.aload_n 0) 1, om_ef 22 (.getfield 21) 3 0 6 7 6, om_e 25 (.iload 4) 2, om_e 27 (.iload_n 2) 1, om_e 28 .iastore 1, om_e 29 (.aload_n 0) 1, om_ef 30 (.getfield 24) 3 0 7 8 7, om_e 33 (.iload 4) 2, om_e 35 (.iload_n 3) 1, om_e 36 .iastore 1, om_e 37 (.iload 4) 2, om_e 39 .ireturn 1]
def om_B2 : List om_Bk := [(0, [true, true, true, true, false], om_E2_0, 40)]
def om_E3_0 : List om_E := [om_e 0 (.aload_n 0) 1, om_e 1 .dup 1, om_ef 2 (.getfield 35) 3 0 1 0 1, om_ew 5 (.iconst 1) 1 (om_i (1)) 0, om_e 6 .isub 1, om_ef 7 (.putfield 35) 3 0 1 0 1, om_e 10 (.iload_n 1) 1, om_e 11 (.istore_n 2) 1]
def om_E3_12 : List om_E := [om_e 12 (.iload_n 2) 1, om_e 13 (.aload_n 0) 1, om_ef 14 (.getfield 35) 3 0 1 0 1, om_et 17 (.if_icmp .ge 51) 3 68]
def om_E3_20 : List om_E := [om_e 20 (.aload_n 0) 1, om_ef 21 (.getfield 18) 3 0 5 6 5, om_e 24 (.iload_n 2) 1, om_e 25 (.aload_n 0) 1, om_ef 26 (.getfield 18) 3 0 5 6 5, om_e 29 (.iload_n 2) 1, om_ew 30 (.iconst 1) 1 (om_i (1)) 0, om_e 31 .iadd 1, om_e 32 .iaload 1, om_e 33 .iastore 1, om_e 34 (.aload_n 0) 1, om_ef 35 (.getfield 21) 3 0 6 7 6, om_e 38 (.iload_n 2) 1, om_e 39 (.aload_n 0) 1, om_ef 40 (.getfield 21) 3 0 6 7 6, om_e 43 (.iload_n 2) 1, om_ew 44 (.iconst 1) 1 (om_i (1)) 0, om_e 45 .iadd 1, om_e 46 .iaload 1, om_e 47 .iastore 1, om_e 48 (.aload_n 0) 1, om_ef 49 (.getfield 24) 3 0 7 8 7, om_e 52 (.iload_n 2) 1, om_e 53 (.aload_n 0) 1, om_ef 54 (.getfield 24) 3 0 7 8 7, om_e 57 (.iload_n 2) 1, om_ew 58 (.iconst 1) 1 (om_i (1)) 0, om_e 59 .iadd 1, om_e 60 .iaload 1, om_e 61 .iastore 1, om_ec 62 (.iinc 2 1) 3 (om_i (1)), om_et 65 (.goto (-53)) 3 12]
def om_E3_68 : List om_E := [om_ew 68 (.iconst 0) 1 (om_i (0)) 0, om_e 69 (.istore_n 2) 1]
def om_E3_70 : List om_E := [om_e 70 (.iload_n 2) 1, om_e 71 (.aload_n 0) 1, om_ef 72 (.getfield 27) 3 0 0 0 0, om_et 75 (.if_icmp .ge 49) 3 124]
def om_E3_78 : List om_E := [om_e 78 (.aload_n 0) 1, om_ef 79 (.getfield 15) 3 0 4 5 4, om_e 82 (.iload_n 2) 1, om_e 83 .iaload 1, om_e 84 (.iload_n 1) 1, om_et 85 (.if_icmp .ne 13) 3 98]
def om_E3_88 : List om_E := [om_e 88 (.aload_n 0) 1, om_ef 89 (.getfield 15) 3 0 4 5 4, om_e 92 (.iload_n 2) 1, om_ew 93 (.iconst (-1)) 1 (om_i (-1)) 0, om_e 94 .iastore 1, om_et 95 (.goto 23) 3 118]
def om_E3_98 : List om_E := [om_e 98 (.aload_n 0) 1, om_ef 99 (.getfield 15) 3 0 4 5 4, om_e 102 (.iload_n 2) 1, om_e 103 .iaload 1, om_e 104 (.iload_n 1) 1, om_et 105 (.if_icmp .le 13) 3 118]
def om_E3_108 : List om_E := [om_e 108 (.aload_n 0) 1, om_ef 109 (.getfield 15) 3 0 4 5 4, om_e 112 (.iload_n 2) 1, om_e 113 .dup2 1, om_e 114 .iaload 1, om_ew 115 (.iconst 1) 1 (om_i (1)) 0, om_e 116 .isub 1, om_e 117 .iastore 1]
def om_E3_118 : List om_E := [om_ec 118 (.iinc 2 1) 3 (om_i (1)), om_et 121 (.goto (-51)) 3 70]
def om_E3_124 : List om_E := [om_e 124 .return_ 1]
def om_B3 : List om_Bk := [(0, [true, true, false], om_E3_0, 12), (12, [true, true, true], om_E3_12, 20), (20, [true, true, true], om_E3_20, 68), (68, [true, true, false], om_E3_68, 70), (70, [true, true, true], om_E3_70, 78), (78, [true, true, true], om_E3_78, 88), (88, [true, true, true], om_E3_88, 98), (98, [true, true, true], om_E3_98, 108), (108, [true, true, true], om_E3_108, 118), (118, [true, true, true], om_E3_118, 124), (124, [false, false, false], om_E3_124, 125)]
def om_E4_0 : List om_E := [om_ew 0 (.iconst 0) 1 (om_i (0)) 0, om_e 1 (.istore_n 3) 1]
def om_E4_2 : List om_E := [om_e 2 (.iload_n 3) 1, om_e 3 (.aload_n 0) 1, om_ef 4 (.getfield 35) 3 0 1 0 1, om_et 7 (.if_icmp .ge 31) 3 38]
def om_E4_10 : List om_E := [om_e 10 (.aload_n 0) 1, om_ef 11 (.getfield 18) 3 0 5 6 5, om_e 14 (.iload_n 3) 1, om_e 15 .iaload 1, om_e 16 (.iload_n 1) 1, om_et 17 (.if_icmp .ne 15) 3 32]
def om_E4_20 : List om_E := [om_e 20 (.aload_n 0) 1, om_ef 21 (.getfield 21) 3 0 6 7 6, om_e 24 (.iload_n 3) 1, om_e 25 .iaload 1, om_e 26 (.iload_n 2) 1, om_et 27 (.if_icmp .ne 5) 3 32]
def om_E4_30 : List om_E := [om_e 30 (.iload_n 3) 1, om_e 31 .ireturn 1]
def om_E4_32 : List om_E := [om_ec 32 (.iinc 3 1) 3 (om_i (1)), om_et 35 (.goto (-33)) 3 2]
def om_E4_38 : List om_E := [om_ew 38 (.iconst (-1)) 1 (om_i (-1)) 0, om_e 39 .ireturn 1]
def om_B4 : List om_Bk := [(0, [true, true, true, false], om_E4_0, 2), (2, [true, true, true, true], om_E4_2, 10), (10, [true, true, true, true], om_E4_10, 20), (20, [true, true, true, true], om_E4_20, 30), (30, [false, false, false, true], om_E4_30, 32), (32, [true, true, true, true], om_E4_32, 38), (38, [false, false, false, false], om_E4_38, 40)]
def om_E5_0 : List om_E := [om_e 0 (.aload_n 0) 1, om_ef 1 (.getfield 38) 3 0 2 0 2, om_e 4 (.iload_n 1) 1, om_e 5 .ishr 1, om_ew 6 (.iconst 1) 1 (om_i (1)) 0, om_e 7 .iand 1, om_et 8 (.ifCond .eq 7) 3 15]
def om_E5_11 : List om_E := [om_ew 11 (.iconst 0) 1 (om_i (0)) 0, om_et 12 (.goto 4) 3 16]
def om_E5_15 : List om_E := [om_ew 15 (.iconst 1) 1 (om_i (1)) 0]
def om_E5_16 : List om_E := [om_e 16 .ireturn 1]
def om_B5 : List om_Bk := [(0, [true, true], om_E5_0, 11), (11, [false, false], om_E5_11, 15), (15, [false, false], om_E5_15, 16), (16, [false, false], om_E5_16, 17)]
def om_E6_0 : List om_E := [om_e 0 (.aload_n 0) 1, om_ef 1 (.getfield 18) 3 0 5 6 5, om_e 4 (.iload_n 1) 1, om_e 5 .iaload 1, om_e 6 (.istore_n 3) 1, om_e 7 (.aload_n 0) 1, om_e 8 (.iload_n 3) 1, om_ef 9 (.invokevirtual 41) 3 0 5 2 47]
def om_E6_12 : List om_E := [om_e 12 (.iload_n 2) 1, om_et 13 (.if_icmp .ne 23) 3 36]
def om_E6_16 : List om_E := [om_e 16 (.aload_n 0) 1, om_ef 17 (.getfield 15) 3 0 4 5 4, om_e 20 (.iload_n 3) 1, om_e 21 .iaload 1, om_ew 22 (.iconst (-1)) 1 (om_i (-1)) 0, om_et 23 (.if_icmp .eq 13) 3 36]
def om_E6_26 : List om_E := [om_e 26 (.aload_n 0) 1, om_ef 27 (.getfield 15) 3 0 4 5 4, om_e 30 (.iload_n 3) 1, om_e 31 .iaload 1, om_e 32 (.iload_n 1) 1, om_et 33 (.if_icmp .ne 7) 3 40]
def om_E6_36 : List om_E := [om_ew 36 (.iconst 1) 1 (om_i (1)) 0, om_et 37 (.goto 4) 3 41]
def om_E6_40 : List om_E := [om_ew 40 (.iconst 0) 1 (om_i (0)) 0]
def om_E6_41 : List om_E := [om_e 41 .ireturn 1]
def om_B6 : List om_Bk := [(0, [true, true, true, false], om_E6_0, 12), (12, [true, true, true, true], om_E6_12, 16), (16, [true, true, false, true], om_E6_16, 26), (26, [true, true, false, true], om_E6_26, 36), (36, [false, false, false, false], om_E6_36, 40), (40, [false, false, false, false], om_E6_40, 41), (41, [false, false, false, false], om_E6_41, 42)]
def om_E7_0 : List om_E := [om_ew 0 (.iconst 0) 1 (om_i (0)) 0, om_e 1 (.istore_n 1) 1, om_ew 2 (.iconst 0) 1 (om_i (0)) 0, om_e 3 (.istore_n 2) 1]
def om_E7_4 : List om_E := [om_e 4 (.iload_n 2) 1, om_e 5 (.aload_n 0) 1, om_ef 6 (.getfield 27) 3 0 0 0 0, om_et 9 (.if_icmp .ge 22) 3 31]
def om_E7_12 : List om_E := [om_e 12 (.aload_n 0) 1, om_ef 13 (.getfield 15) 3 0 4 5 4, om_e 16 (.iload_n 2) 1, om_e 17 .iaload 1, om_ew 18 (.iconst (-1)) 1 (om_i (-1)) 0, om_et 19 (.if_icmp .eq 6) 3 25]
def om_E7_22 : List om_E := [om_ec 22 (.iinc 1 1) 3 (om_i (1))]
def om_E7_25 : List om_E := [om_ec 25 (.iinc 2 1) 3 (om_i (1)), om_et 28 (.goto (-24)) 3 4]
def om_E7_31 : List om_E := [om_e 31 (.iload_n 1) 1, om_e 32 .ireturn 1]
def om_B7 : List om_Bk := [(0, [true, false, false], om_E7_0, 4), (4, [true, true, true], om_E7_4, 12), (12, [true, true, true], om_E7_12, 22), (22, [true, true, true], om_E7_22, 25), (25, [true, true, true], om_E7_25, 31), (31, [false, true, false], om_E7_31, 33)]
def om_E8_0 : List om_E := [om_ew 0 (.iconst 0) 1 (om_i (0)) 0, om_e 1 (.istore 4) 2, om_ew 3 (.iconst 0) 1 (om_i (0)) 0, om_e 4 (.istore 5) 2]
def om_E8_6 : List om_E := [om_e 6 (.iload 5) 2, om_e 8 (.aload_n 1) 1, om_ef 9 (.getfield 15) 3 3 0 0 10016, om_et 12 (.if_icmp .ge 28) 3 40]
def om_E8_15 : List om_E := [om_e 15 (.aload_n 2) 1, om_e 16 (.iload 5) 2, om_e 18 .iaload 1, om_e 19 (.aload_n 2) 1, om_e 20 (.iload_n 3) 1, om_e 21 .iaload 1, om_et 22 (.if_icmp .lt 12) 3 34]
def om_E8_25 : List om_E := [om_e 25 (.iload 4) 2, om_ew 27 (.iconst 1) 1 (om_i (1)) 0, om_e 28 (.iload 5) 2, om_e 30 .ishl 1, om_e 31 .ior 1, om_e 32 (.istore 4) 2]
def om_E8_34 : List om_E := [om_ec 34 (.iinc 5 1) 3 (om_i (1)), om_et 37 (.goto (-31)) 3 6]
def om_E8_40 : List om_E := [om_e 40 (.aload_n 1) 1, om_ef 41 (.getfield 25) 3 3 6 7 10022, om_e 44 (.iload_n 3) 1, om_e 45 .iaload 1, om_e 46 (.iload 4) 2, om_e 48 .iand 1, om_e 49 (.istore 5) 2, om_ew 51 (.iconst 0) 1 (om_i (0)) 0, om_e 52 (.istore 6) 2]
def om_E8_54 : List om_E := [om_e 54 (.iload 6) 2, om_e 56 (.aload_n 1) 1, om_ef 57 (.getfield 15) 3 3 0 0 10016, om_et 60 (.if_icmp .ge 52) 3 112]
def om_E8_63 : List om_E := [om_ew 63 (.iconst 0) 1 (om_i (0)) 0, om_e 64 (.istore 7) 2]
def om_E8_66 : List om_E := [om_e 66 (.iload 7) 2, om_e 68 (.aload_n 1) 1, om_ef 69 (.getfield 15) 3 3 0 0 10016, om_et 72 (.if_icmp .ge 34) 3 106]
def om_E8_75 : List om_E := [om_e 75 (.iload 5) 2, om_e 77 (.iload 7) 2, om_e 79 .ishr 1, om_ew 80 (.iconst 1) 1 (om_i (1)) 0, om_e 81 .iand 1, om_et 82 (.ifCond .eq 18) 3 100]
def om_E8_85 : List om_E := [om_e 85 (.iload 5) 2, om_e 87 (.aload_n 1) 1, om_ef 88 (.getfield 25) 3 3 6 7 10022, om_e 91 (.iload 7) 2, om_e 93 .iaload 1, om_e 94 (.iload 4) 2, om_e 96 .iand 1, om_e 97 .ior 1, om_e 98 (.istore 5) 2]
def om_E8_100 : List om_E := [om_ec 100 (.iinc 7 1) 3 (om_i (1)), om_et 103 (.goto (-37)) 3 66]
def om_E8_106 : List om_E := [om_ec 106 (.iinc 6 1) 3 (om_i (1)), om_et 109 (.goto (-55)) 3 54]
def om_E8_112 : List om_E := [om_e 112 (.iload 5) 2, om_e 114 (.iload_n 3) 1, om_e 115 .ishr 1, om_ew 116 (.iconst 1) 1 (om_i (1)) 0, om_e 117 .iand 1, om_et 118 (.ifCond .eq 7) 3 125]
def om_E8_121 : List om_E := [om_ew 121 (.iconst 1) 1 (om_i (1)) 0, om_et 122 (.goto 4) 3 126]
def om_E8_125 : List om_E := [om_ew 125 (.iconst 0) 1 (om_i (0)) 0]
def om_E8_126 : List om_E := [om_e 126 .ireturn 1]
def om_B8 : List om_Bk := [(0, [false, true, true, true, false, false, false, false], om_E8_0, 6), (6, [false, true, true, true, true, true, false, false], om_E8_6, 15), (15, [false, true, true, true, true, true, false, false], om_E8_15, 25), (25, [false, true, true, true, true, true, false, false], om_E8_25, 34), (34, [false, true, true, true, true, true, false, false], om_E8_34, 40), (40, [false, true, false, true, true, false, false, false], om_E8_40, 54), (54, [false, true, false, true, true, true, true, false], om_E8_54, 63), (63, [false, true, false, true, true, true, true, false], om_E8_63, 66), (66, [false, true, false, true, true, true, true, true], om_E8_66, 75), (75, [false, true, false, true, true, true, true, true], om_E8_75, 85), (85, [false, true, false, true, true, true, true, true], om_E8_85, 100), (100, [false, true, false, true, true, true, true, true], om_E8_100, 106), (106, [false, true, false, true, true, true, true, false], om_E8_106, 112), (112, [false, false, false, true, false, true, false, false], om_E8_112, 121), (121, [false, false, false, false, false, false, false, false], om_E8_121, 125), (125, [false, false, false, false, false, false, false, false], om_E8_125, 126), (126, [false, false, false, false, false, false, false, false], om_E8_126, 127)]
def om_E9_0 : List om_E := [om_ew 0 (.iconst 0) 1 (om_i (0)) 0, om_e 1 (.istore 4) 2, om_ew 3 (.iconst 0) 1 (om_i (0)) 0, om_e 4 (.istore 5) 2]
def om_E9_6 : List om_E := [om_e 6 (.iload 5) 2, om_e 8 (.aload_n 1) 1, om_ef 9 (.getfield 15) 3 3 0 0 10016, om_et 12 (.if_icmp .ge 39) 3 51]
def om_E9_15 : List om_E := [om_e 15 (.aload_n 2) 1, om_e 16 (.iload 5) 2, om_e 18 .iaload 1, om_ew 19 (.iconst 1) 1 (om_i (1)) 0, om_e 20 .iand 1, om_e 21 (.iload_n 3) 1, om_et 22 (.if_icmp .ne 23) 3 45]
def om_E9_25 : List om_E := [om_e 25 (.aload_n 0) 1, om_e 26 (.aload_n 1) 1, om_e 27 (.aload_n 2) 1, om_e 28 (.iload 5) 2, om_ef 30 (.invokevirtual 21) 3 1 8 4 49]
def om_E9_33 : List om_E := [om_et 33 (.ifCond .eq 12) 3 45]
def om_E9_36 : List om_E := [om_e 36 (.iload 4) 2, om_ew 38 (.iconst 1) 1 (om_i (1)) 0, om_e 39 (.iload 5) 2, om_e 41 .ishl 1, om_e 42 .ior 1, om_e 43 (.istore 4) 2]
def om_E9_45 : List om_E := [om_ec 45 (.iinc 5 1) 3 (om_i (1)), om_et 48 (.goto (-42)) 3 6]
def om_E9_51 : List om_E := [om_ew 51 (.iconst 0) 1 (om_i (0)) 0, om_e 52 (.istore 5) 2]
def om_E9_54 : List om_E := [om_e 54 (.iload 5) 2, om_e 56 (.aload_n 1) 1, om_ef 57 (.getfield 15) 3 3 0 0 10016, om_et 60 (.if_icmp .ge 49) 3 109]
def om_E9_63 : List om_E := [om_ew 63 (.iconst 0) 1 (om_i (0)) 0, om_e 64 (.istore 6) 2]
def om_E9_66 : List om_E := [om_e 66 (.iload 6) 2, om_e 68 (.aload_n 1) 1, om_ef 69 (.getfield 15) 3 3 0 0 10016, om_et 72 (.if_icmp .ge 31) 3 103]
def om_E9_75 : List om_E := [om_e 75 (.aload_n 1) 1, om_ef 76 (.getfield 25) 3 3 6 7 10022, om_e 79 (.iload 6) 2, om_e 81 .iaload 1, om_e 82 (.iload 4) 2, om_e 84 .iand 1, om_et 85 (.ifCond .eq 12) 3 97]
def om_E9_88 : List om_E := [om_e 88 (.iload 4) 2, om_ew 90 (.iconst 1) 1 (om_i (1)) 0, om_e 91 (.iload 6) 2, om_e 93 .ishl 1, om_e 94 .ior 1, om_e 95 (.istore 4) 2]
def om_E9_97 : List om_E := [om_ec 97 (.iinc 6 1) 3 (om_i (1)), om_et 100 (.goto (-34)) 3 66]
def om_E9_103 : List om_E := [om_ec 103 (.iinc 5 1) 3 (om_i (1)), om_et 106 (.goto (-52)) 3 54]
def om_E9_109 : List om_E := [om_e 109 (.iload 4) 2, om_e 111 .ireturn 1]
def om_B9 : List om_Bk := [(0, [true, true, true, true, false, false, false], om_E9_0, 6), (6, [true, true, true, true, true, true, false], om_E9_6, 15), (15, [true, true, true, true, true, true, false], om_E9_15, 25), (25, [true, true, true, true, true, true, false], om_E9_25, 33), (33, [true, true, true, true, true, true, false], om_E9_33, 36), (36, [true, true, true, true, true, true, false], om_E9_36, 45), (45, [true, true, true, true, true, true, false], om_E9_45, 51), (51, [false, true, false, false, true, false, false], om_E9_51, 54), (54, [false, true, false, false, true, true, false], om_E9_54, 63), (63, [false, true, false, false, true, true, false], om_E9_63, 66), (66, [false, true, false, false, true, true, true], om_E9_66, 75), (75, [false, true, false, false, true, true, true], om_E9_75, 88), (88, [false, true, false, false, true, true, true], om_E9_88, 97), (97, [false, true, false, false, true, true, true], om_E9_97, 103), (103, [false, true, false, false, true, true, false], om_E9_103, 109), (109, [false, false, false, false, true, false, false], om_E9_109, 112)]
def om_E10_0 : List om_E := [om_ew 0 (.iconst 0) 1 (om_i (0)) 0, om_e 1 (.istore_n 3) 1]
def om_E10_2 : List om_E := [om_e 2 (.iload_n 3) 1, om_e 3 (.iload_n 2) 1, om_et 4 (.if_icmp .ge 21) 3 25]
def om_E10_7 : List om_E := [om_e 7 (.aload_n 0) 1, om_ef 8 (.getfield 9) 3 1 0 4 15, om_e 11 (.iload_n 3) 1, om_e 12 .iaload 1, om_e 13 (.iload_n 1) 1, om_et 14 (.if_icmp .ne 5) 3 19]
def om_E10_17 : List om_E := [om_e 17 (.iload_n 3) 1, om_e 18 .ireturn 1]
def om_E10_19 : List om_E := [om_ec 19 (.iinc 3 1) 3 (om_i (1)), om_et 22 (.goto (-20)) 3 2]
def om_E10_25 : List om_E := [om_ew 25 (.iconst (-1)) 1 (om_i (-1)) 0, om_e 26 .ireturn 1]
def om_B10 : List om_Bk := [(0, [true, true, true, false], om_E10_0, 2), (2, [true, true, true, true], om_E10_2, 7), (7, [true, true, true, true], om_E10_7, 17), (17, [false, false, false, true], om_E10_17, 19), (19, [true, true, true, true], om_E10_19, 25), (25, [false, false, false, false], om_E10_25, 27)]
def om_E11_0 : List om_E := [om_ew 0 (.bipush 7) 2 (om_i (7)) 0, om_e 2 (.istore 4) 2, om_e 4 (.iload_n 2) 1, om_e 5 (.istore 5) 2]
def om_E11_7 : List om_E := [om_e 7 (.iload 5) 2, om_e 9 (.iload_n 3) 1, om_et 10 (.if_icmp .ge 25) 3 35]
def om_E11_13 : List om_E := [om_e 13 (.iload 4) 2, om_e 15 (.aload_n 1) 1, om_e 16 (.aload_n 0) 1, om_ef 17 (.getfield 9) 3 1 0 4 15, om_e 20 (.iload 5) 2, om_e 22 .iaload 1, om_e 23 .iaload 1, om_ef 24 (.invokestatic 43) 3 1 0 0 4, om_e 27 (.istore 4) 2, om_ec 29 (.iinc 5 1) 3 (om_i (1)), om_et 32 (.goto (-25)) 3 7]
def om_E11_35 : List om_E := [om_e 35 (.iload 4) 2, om_e 37 .ireturn 1]
def om_B11 : List om_Bk := [(0, [true, true, true, true, false, false], om_E11_0, 7), (7, [true, true, false, true, true, true], om_E11_7, 13), (13, [true, true, false, true, true, true], om_E11_13, 35), (35, [false, false, false, false, true, false], om_E11_35, 38)]
def om_E12_0 : List om_E := [om_e 0 (.iload 4) 2, om_ew 2 (.iconst 1) 1 (om_i (1)) 0, om_et 3 (.if_icmp .lt 19) 3 22]
def om_E12_6 : List om_E := [om_e 6 (.iload 4) 2, om_e 8 (.aload_n 0) 1, om_ef 9 (.getfield 28) 3 1 1 0 16, om_et 12 (.if_icmp .gt 10) 3 22]
def om_E12_15 : List om_E := [om_e 15 (.iload 4) 2, om_ew 17 (.bipush 8) 2 (om_i (8)) 0, om_et 19 (.if_icmp .le 5) 3 24]
def om_E12_22 : List om_E := [om_ew 22 (.iconst 0) 1 (om_i (0)) 0, om_e 23 .ireturn 1]
def om_E12_24 : List om_E := [om_e 24 (.aload_n 1) 1, om_ef 25 (.getfield 25) 3 3 6 7 10022, om_e 28 (.aload_n 0) 1, om_ef 29 (.getfield 9) 3 1 0 4 15, om_e 32 (.iload 4) 2, om_ew 34 (.iconst 1) 1 (om_i (1)) 0, om_e 35 .isub 1, om_e 36 .iaload 1, om_e 37 .iaload 1, om_e 38 (.istore 5) 2, om_ew 40 (.iconst 0) 1 (om_i (0)) 0, om_e 41 (.istore 6) 2]
def om_E12_43 : List om_E := [om_e 43 (.iload 6) 2, om_e 45 (.aload_n 1) 1, om_ef 46 (.getfield 15) 3 3 0 0 10016, om_et 49 (.if_icmp .ge 95) 3 144]
def om_E12_52 : List om_E := [om_e 52 (.iload 5) 2, om_e 54 (.iload 6) 2, om_e 56 .ishr 1, om_ew 57 (.iconst 1) 1 (om_i (1)) 0, om_e 58 .iand 1, om_et 59 (.ifCond .ne 6) 3 65]
def om_E12_62 : List om_E := [om_et 62 (.goto 76) 3 138]
def om_E12_65 : List om_E := [om_e 65 (.aload_n 0) 1, om_e 66 (.iload 6) 2, om_e 68 (.iload 4) 2, om_ef 70 (.invokevirtual 35) 3 1 10 3 52]
def om_E12_73 : List om_E := [om_e 73 (.istore 7) 2, om_e 75 (.aload_n 0) 1, om_ef 76 (.getfield 9) 3 1 0 4 15, om_e 79 (.iload 4) 2, om_e 81 (.iload 6) 2, om_e 83 .iastore 1, om_e 84 (.iload 4) 2, om_e 86 (.aload_n 0) 1, om_ef 87 (.getfield 28) 3 1 1 0 16, om_et 90 (.if_icmp .ne 26) 3 116]
def om_E12_93 : List om_E := [om_e 93 (.iload 7) 2, om_ew 95 (.iconst (-1)) 1 (om_i (-1)) 0, om_et 96 (.if_icmp .eq 42) 3 138]
def om_E12_99 : List om_E := [om_e 99 (.aload_n 0) 1, om_e 100 (.aload_n 2) 1, om_e 101 (.iload 7) 2, om_e 103 (.iload 4) 2, om_ef 105 (.invokevirtual 39) 3 1 11 4 53]
def om_E12_108 : List om_E := [om_ew 108 (.iconst 1) 1 (om_i (1)) 0, om_e 109 .iand 1, om_e 110 (.iload_n 3) 1, om_et 111 (.if_icmp .ne 27) 3 138]
def om_E12_114 : List om_E := [om_ew 114 (.iconst 1) 1 (om_i (1)) 0, om_e 115 .ireturn 1]
def om_E12_116 : List om_E := [om_e 116 (.iload 7) 2, om_ew 118 (.iconst (-1)) 1 (om_i (-1)) 0, om_et 119 (.if_icmp .ne 19) 3 138]
def om_E12_122 : List om_E := [om_e 122 (.aload_n 0) 1, om_e 123 (.aload_n 1) 1, om_e 124 (.aload_n 2) 1, om_e 125 (.iload_n 3) 1, om_e 126 (.iload 4) 2, om_ew 128 (.iconst 1) 1 (om_i (1)) 0, om_e 129 .iadd 1, om_ef 130 (.invokestatic 31) 3 0 12 5 51]
def om_E12_133 : List om_E := [om_et 133 (.ifCond .eq 5) 3 138]
def om_E12_136 : List om_E := [om_ew 136 (.iconst 1) 1 (om_i (1)) 0, om_e 137 .ireturn 1]
def om_E12_138 : List om_E := [om_ec 138 (.iinc 6 1) 3 (om_i (1)), om_et 141 (.goto (-98)) 3 43]
def om_E12_144 : List om_E := [om_ew 144 (.iconst 0) 1 (om_i (0)) 0, om_e 145 .ireturn 1]
def om_B12 : List om_Bk := [(0, [true, true, true, true, true, false, false, false], om_E12_0, 6), (6, [true, true, true, true, true, false, false, false], om_E12_6, 15), (15, [true, true, true, true, true, false, false, false], om_E12_15, 22), (22, [false, false, false, false, false, false, false, false], om_E12_22, 24), (24, [true, true, true, true, true, false, false, false], om_E12_24, 43), (43, [true, true, true, true, true, true, true, false], om_E12_43, 52), (52, [true, true, true, true, true, true, true, false], om_E12_52, 62), (62, [true, true, true, true, true, true, true, false], om_E12_62, 65), (65, [true, true, true, true, true, true, true, false], om_E12_65, 73), (73, [true, true, true, true, true, true, true, false], om_E12_73, 93), (93, [true, true, true, true, true, true, true, true], om_E12_93, 99), (99, [true, true, true, true, true, true, true, true], om_E12_99, 108), (108, [true, true, true, true, true, true, true, false], om_E12_108, 114), (114, [false, false, false, false, false, false, false, false], om_E12_114, 116), (116, [true, true, true, true, true, true, true, true], om_E12_116, 122), (122, [true, true, true, true, true, true, true, false], om_E12_122, 133), (133, [true, true, true, true, true, true, true, false], om_E12_133, 136), (136, [false, false, false, false, false, false, false, false], om_E12_136, 138), (138, [true, true, true, true, true, true, true, false], om_E12_138, 144), (144, [false, false, false, false, false, false, false, false], om_E12_144, 146)]
def om_E13_0 : List om_E := [om_e 0 (.aload_n 0) 1, om_ef 1 (.getfield 9) 3 1 0 4 15, om_ew 4 (.iconst 0) 1 (om_i (0)) 0, om_e 5 (.iload 4) 2, om_e 7 .iastore 1, om_ew 8 (.iconst 1) 1 (om_i (1)) 0, om_e 9 (.istore 5) 2]
def om_E13_11 : List om_E := [om_e 11 (.iload 5) 2, om_e 13 (.aload_n 1) 1, om_ef 14 (.getfield 15) 3 3 0 0 10016, om_et 17 (.if_icmp .gt 29) 3 46]
def om_E13_20 : List om_E := [om_e 20 (.aload_n 0) 1, om_e 21 (.iload 5) 2, om_ef 23 (.putfield 28) 3 1 1 0 16, om_e 26 (.aload_n 0) 1, om_e 27 (.aload_n 1) 1, om_e 28 (.aload_n 2) 1, om_e 29 (.iload_n 3) 1, om_ew 30 (.iconst 1) 1 (om_i (1)) 0, om_ef 31 (.invokestatic 31) 3 0 12 5 51]
def om_E13_34 : List om_E := [om_et 34 (.ifCond .eq 6) 3 40]
def om_E13_37 : List om_E := [om_et 37 (.goto 9) 3 46]
def om_E13_40 : List om_E := [om_ec 40 (.iinc 5 1) 3 (om_i (1)), om_et 43 (.goto (-32)) 3 11]
def om_E13_46 : List om_E := [om_e 46 .return_ 1]
def om_B13 : List om_Bk := [(0, [true, true, true, true, true, false], om_E13_0, 11), (11, [true, true, true, true, false, true], om_E13_11, 20), (20, [true, true, true, true, false, true], om_E13_20, 34), (34, [true, true, true, true, false, true], om_E13_34, 37), (37, [false, false, false, false, false, false], om_E13_37, 40), (40, [true, true, true, true, false, true], om_E13_40, 46), (46, [false, false, false, false, false, false], om_E13_46, 47)]
def om_E14_0 : List om_E := [om_ew 0 (.iconst 0) 1 (om_i (0)) 0, om_e 1 (.istore_n 2) 1, om_ew 2 (.iconst 0) 1 (om_i (0)) 0, om_e 3 (.istore_n 3) 1]
def om_E14_4 : List om_E := [om_e 4 (.iload_n 3) 1, om_e 5 (.aload_n 1) 1, om_ef 6 (.getfield 48) 3 3 2 0 10018, om_et 9 (.if_icmp .ge 118) 3 127]
def om_E14_12 : List om_E := [om_e 12 (.aload_n 1) 1, om_ef 13 (.getfield 51) 3 3 3 4 10019, om_e 16 (.iload_n 3) 1, om_e 17 .iaload 1, om_e 18 (.istore 4) 2, om_e 20 (.aload_n 1) 1, om_ef 21 (.getfield 54) 3 3 5 6 10021, om_e 24 (.iload_n 3) 1, om_e 25 .iaload 1, om_e 26 (.aload_n 0) 1, om_ef 27 (.getfield 27) 3 2 6 6 23, om_e 30 (.aload_n 1) 1, om_ef 31 (.getfield 57) 3 3 4 5 10020, om_e 34 (.iload_n 3) 1, om_e 35 .iaload 1, om_e 36 .iaload 1, om_e 37 .iadd 1, om_e 38 (.istore 5) 2, om_e 40 (.iload_n 2) 1, om_e 41 (.iload 4) 2, om_e 43 .ishr 1, om_ew 44 (.iconst 1) 1 (om_i (1)) 0, om_e 45 .iand 1, om_et 46 (.ifCond .ne 15) 3 61]
def om_E14_49 : List om_E := [om_e 49 (.aload_n 0) 1, om_ef 50 (.getfield 30) 3 2 7 7 24, om_e 53 (.iload 4) 2, om_e 55 (.iload 5) 2, om_e 57 .iastore 1, om_et 58 (.goto 56) 3 114]
def om_E14_61 : List om_E := [om_e 61 (.aload_n 1) 1, om_ef 62 (.getfield 60) 3 3 1 0 10017, om_e 65 (.iload 4) 2, om_e 67 .ishr 1, om_ew 68 (.iconst 1) 1 (om_i (1)) 0, om_e 69 .iand 1, om_et 70 (.ifCond .eq 25) 3 95]
def om_E14_73 : List om_E := [om_e 73 (.aload_n 0) 1, om_ef 74 (.getfield 30) 3 2 7 7 24, om_e 77 (.iload 4) 2, om_e 79 (.aload_n 0) 1, om_ef 80 (.getfield 30) 3 2 7 7 24, om_e 83 (.iload 4) 2, om_e 85 .iaload 1, om_e 86 (.iload 5) 2, om_ef 88 (.invokestatic 63) 3 2 0 0 1, om_e 91 .iastore 1, om_et 92 (.goto 22) 3 114]
def om_E14_95 : List om_E := [om_e 95 (.aload_n 0) 1, om_ef 96 (.getfield 30) 3 2 7 7 24, om_e 99 (.iload 4) 2, om_e 101 (.aload_n 0) 1, om_ef 102 (.getfield 30) 3 2 7 7 24, om_e 105 (.iload 4) 2, om_e 107 .iaload 1, om_e 108 (.iload 5) 2, om_ef 110 (.invokestatic 69) 3 1 0 0 2, om_e 113 .iastore 1]
def om_E14_114 : List om_E := [om_e 114 (.iload_n 2) 1, om_ew 115 (.iconst 1) 1 (om_i (1)) 0, om_e 116 (.iload 4) 2, om_e 118 .ishl 1, om_e 119 .ior 1, om_e 120 (.istore_n 2) 1, om_ec 121 (.iinc 3 1) 3 (om_i (1)), om_et 124 (.goto (-120)) 3 4]
def om_E14_127 : List om_E := [om_e 127 .return_ 1]
def om_B14 : List om_Bk := [(0, [true, true, false, false, false, false], om_E14_0, 4), (4, [true, true, true, true, false, false], om_E14_4, 12), (12, [true, true, true, true, false, false], om_E14_12, 49), (49, [true, true, true, true, true, true], om_E14_49, 61), (61, [true, true, true, true, true, true], om_E14_61, 73), (73, [true, true, true, true, true, true], om_E14_73, 95), (95, [true, true, true, true, true, true], om_E14_95, 114), (114, [true, true, true, true, true, false], om_E14_114, 127), (127, [false, false, false, false, false, false], om_E14_127, 128)]
def om_E15_0 : List om_E := [om_ew 0 (.iconst 0) 1 (om_i (0)) 0, om_e 1 (.istore 4) 2]
def om_E15_3 : List om_E := [om_e 3 (.iload 4) 2, om_e 5 (.aload_n 1) 1, om_ef 6 (.getfield 33) 3 3 0 0 10015, om_et 9 (.if_icmp .ge 17) 3 26]
def om_E15_12 : List om_E := [om_e 12 (.aload_n 0) 1, om_ef 13 (.getfield 27) 3 2 6 6 23, om_e 16 (.iload 4) 2, om_ew 18 (.iconst 0) 1 (om_i (0)) 0, om_e 19 .iastore 1, om_ec 20 (.iinc 4 1) 3 (om_i (1)), om_et 23 (.goto (-20)) 3 3]
def om_E15_26 : List om_E := [om_ew 26 (.iconst 0) 1 (om_i (0)) 0, om_e 27 (.istore 4) 2]
def om_E15_29 : List om_E := [om_e 29 (.iload 4) 2, om_e 31 (.iload_n 2) 1, om_et 32 (.if_icmp .ge 31) 3 63]
def om_E15_35 : List om_E := [om_e 35 (.aload_n 0) 1, om_e 36 (.aload_n 1) 1, om_ef 37 (.invokevirtual 38) 3 2 14 2 33]
def om_E15_40 : List om_E := [om_e 40 (.aload_n 0) 1, om_ef 41 (.getfield 30) 3 2 7 7 24, om_ew 44 (.iconst 0) 1 (om_i (0)) 0, om_e 45 (.aload_n 0) 1, om_ef 46 (.getfield 27) 3 2 6 6 23, om_ew 49 (.iconst 0) 1 (om_i (0)) 0, om_e 50 (.aload_n 1) 1, om_ef 51 (.getfield 33) 3 3 0 0 10015, om_ef 54 (.invokestatic 42) 3 3 0 0 3, om_ec 57 (.iinc 4 1) 3 (om_i (1)), om_et 60 (.goto (-31)) 3 29]
def om_E15_63 : List om_E := [om_e 63 (.aload_n 0) 1, om_ef 64 (.getfield 27) 3 2 6 6 23, om_e 67 (.iload_n 3) 1, om_e 68 .iaload 1, om_e 69 .ireturn 1]
def om_B15 : List om_Bk := [(0, [true, true, true, true, false], om_E15_0, 3), (3, [true, true, true, true, true], om_E15_3, 12), (12, [true, true, true, true, true], om_E15_12, 26), (26, [true, true, true, true, false], om_E15_26, 29), (29, [true, true, true, true, true], om_E15_29, 35), (35, [true, true, true, true, true], om_E15_35, 40), (40, [true, true, true, true, true], om_E15_40, 63), (63, [true, false, false, true, false], om_E15_63, 70)]
def om_E16_0 : List om_E := [om_e 0 (.iload_n 1) 1, om_et 1 (.ifCond .ne 10) 3 11]
def om_E16_4 : List om_E := [om_e 4 (.aload_n 0) 1, om_ef 5 (.getfield 55) 3 3 1 0 9, om_et 8 (.goto 9) 3 17]
def om_E16_11 : List om_E := [om_e 11 (.aload_n 0) 1, om_ef 12 (.getfield 55) 3 3 1 0 9, om_ew 15 (.iconst (-1)) 1 (om_i (-1)) 0, om_e 16 .ixor 1]
def om_E16_17 : List om_E := [om_e 17 .ireturn 1]
def om_B16 : List om_Bk := [(0, [true, true], om_E16_0, 4), (4, [true, false], om_E16_4, 11), (11, [true, false], om_E16_11, 17), (17, [false, false], om_E16_17, 18)]
def om_E17_0 : List om_E := [om_e 0 (.iload_n 0) 1, om_e 1 (.iload_n 0) 1, om_ew 2 (.iconst 1) 1 (om_i (1)) 0, om_e 3 .iushr 1, om_ew 4 (.ldc_w 265) 3 (om_i (1431655765)) 1, om_e 7 .iand 1, om_e 8 .isub 1, om_e 9 (.istore_n 0) 1, om_e 10 (.iload_n 0) 1, om_ew 11 (.ldc_w 266) 3 (om_i (858993459)) 2, om_e 14 .iand 1, om_e 15 (.iload_n 0) 1, om_ew 16 (.iconst 2) 1 (om_i (2)) 0, om_e 17 .iushr 1, om_ew 18 (.ldc_w 266) 3 (om_i (858993459)) 2, om_e 21 .iand 1, om_e 22 .iadd 1, om_e 23 (.istore_n 0) 1, om_e 24 (.iload_n 0) 1, om_e 25 (.iload_n 0) 1, om_ew 26 (.iconst 4) 1 (om_i (4)) 0, om_e 27 .iushr 1, om_e 28 .iadd 1, om_ew 29 (.ldc_w 267) 3 (om_i (252645135)) 3, om_e 32 .iand 1, om_e 33 (.istore_n 0) 1, om_e 34 (.iload_n 0) 1, om_e 35 (.iload_n 0) 1, om_ew 36 (.bipush 8) 2 (om_i (8)) 0, om_e 38 .iushr 1, om_e 39 .iadd 1, om_e 40 (.istore_n 0) 1, om_e 41 (.iload_n 0) 1, om_e 42 (.iload_n 0) 1, om_ew 43 (.bipush 16) 2 (om_i (16)) 0, om_e 45 .iushr 1, om_e 46 .iadd 1, om_e 47 (.istore_n 0) 1, om_e 48 (.iload_n 0) 1, om_ew 49 (.bipush 63) 2 (om_i (63)) 0, om_e 51 .iand 1, om_e 52 .ireturn 1]
def om_B17 : List om_Bk := [(0, [true], om_E17_0, 53)]
def om_E18_0 : List om_E := [om_e 0 (.aload_n 1) 1, om_e 1 (.iload_n 2) 1, om_ef 2 (.invokevirtual 84) 3 3 16 2 10015]
def om_E18_5 : List om_E := [om_e 5 (.istore_n 3) 1, om_ew 6 (.iconst 1) 1 (om_i (1)) 0, om_e 7 (.istore 4) 2, om_ew 9 (.iconst 0) 1 (om_i (0)) 0, om_e 10 (.istore 5) 2]
def om_E18_12 : List om_E := [om_e 12 (.iload 5) 2, om_e 14 (.aload_n 1) 1, om_ef 15 (.getfield 33) 3 3 0 0 10015, om_et 18 (.if_icmp .ge 33) 3 51]
def om_E18_21 : List om_E := [om_e 21 (.iload_n 3) 1, om_e 22 (.iload 5) 2, om_e 24 .ishr 1, om_ew 25 (.iconst 1) 1 (om_i (1)) 0, om_e 26 .iand 1, om_et 27 (.ifCond .eq 18) 3 45]
def om_E18_30 : List om_E := [om_e 30 (.iload 4) 2, om_e 32 (.aload_n 1) 1, om_ef 33 (.getfield 88) 3 3 6 7 10023, om_e 36 (.iload 5) 2, om_e 38 .iaload 1, om_ef 39 (.invokestatic 91) 3 0 17 1 37]
def om_E18_42 : List om_E := [om_e 42 .imul 1, om_e 43 (.istore 4) 2]
def om_E18_45 : List om_E := [om_ec 45 (.iinc 5 1) 3 (om_i (1)), om_et 48 (.goto (-36)) 3 12]
def om_E18_51 : List om_E := [om_e 51 (.iload 4) 2, om_e 53 .ireturn 1]
def om_B18 : List om_Bk := [(0, [false, true, true, false, false, false], om_E18_0, 5), (5, [false, true, false, false, false, false], om_E18_5, 12), (12, [false, true, false, true, true, true], om_E18_12, 21), (21, [false, true, false, true, true, true], om_E18_21, 30), (30, [false, true, false, true, true, true], om_E18_30, 42), (42, [false, true, false, true, false, true], om_E18_42, 45), (45, [false, true, false, true, true, true], om_E18_45, 51), (51, [false, false, false, false, true, false], om_E18_51, 54)]
def om_E19_0 : List om_E := [om_e 0 (.iload_n 0) 1, om_e 1 (.istore_n 2) 1, om_ew 2 (.iconst 0) 1 (om_i (0)) 0, om_e 3 (.istore_n 3) 1]
def om_E19_4 : List om_E := [om_e 4 (.iload_n 3) 1, om_e 5 (.iload_n 1) 1, om_et 6 (.if_icmp .ge 15) 3 21]
def om_E19_9 : List om_E := [om_e 9 (.iload_n 2) 1, om_e 10 (.iload_n 2) 1, om_ew 11 (.iconst 1) 1 (om_i (1)) 0, om_e 12 .isub 1, om_e 13 .iand 1, om_e 14 (.istore_n 2) 1, om_ec 15 (.iinc 3 1) 3 (om_i (1)), om_et 18 (.goto (-14)) 3 4]
def om_E19_21 : List om_E := [om_e 21 (.iload_n 2) 1, om_e 22 (.iload_n 2) 1, om_e 23 .ineg 1, om_e 24 .iand 1, om_e 25 .ireturn 1]
def om_B19 : List om_Bk := [(0, [true, true, false, false], om_E19_0, 4), (4, [false, true, true, true], om_E19_4, 9), (9, [false, true, true, true], om_E19_9, 21), (21, [false, false, true, false], om_E19_21, 26)]
def om_E20_0 : List om_E := [om_e 0 (.iload_n 2) 1, om_ew 1 (.iconst (-1)) 1 (om_i (-1)) 0, om_et 2 (.if_icmp .ne 7) 3 9]
def om_E20_5 : List om_E := [om_ew 5 (.iconst 0) 1 (om_i (0)) 0, om_et 6 (.goto 8) 3 14]
def om_E20_9 : List om_E := [om_e 9 (.aload_n 1) 1, om_e 10 (.iload_n 2) 1, om_ef 11 (.invokevirtual 84) 3 3 16 2 10015]
def om_E20_14 : List om_E := [om_e 14 (.istore 4) 2, om_e 16 (.iload_n 3) 1, om_e 17 (.istore 5) 2, om_ew 19 (.iconst 0) 1 (om_i (0)) 0, om_e 20 (.istore 6) 2]
def om_E20_22 : List om_E := [om_e 22 (.iload 6) 2, om_e 24 (.aload_n 1) 1, om_ef 25 (.getfield 33) 3 3 0 0 10015, om_et 28 (.if_icmp .ge 83) 3 111]
def om_E20_31 : List om_E := [om_e 31 (.aload_n 0) 1, om_ef 32 (.getfield 18) 3 2 4 4 21, om_e 35 (.iload 6) 2, om_e 37 (.aload_n 1) 1, om_ef 38 (.getfield 88) 3 3 6 7 10023, om_e 41 (.iload 6) 2, om_e 43 .iaload 1, om_e 44 .iastore 1, om_e 45 (.aload_n 0) 1, om_ef 46 (.getfield 18) 3 2 4 4 21, om_e 49 (.iload 6) 2, om_e 51 .iaload 1, om_ef 52 (.invokestatic 91) 3 0 17 1 37]
def om_E20_55 : List om_E := [om_e 55 (.istore 7) 2, om_e 57 (.iload 4) 2, om_e 59 (.iload 6) 2, om_e 61 .ishr 1, om_ew 62 (.iconst 1) 1 (om_i (1)) 0, om_e 63 .iand 1, om_et 64 (.ifCond .eq 41) 3 105]
def om_E20_67 : List om_E := [om_e 67 (.iload 7) 2, om_ew 69 (.iconst 2) 1 (om_i (2)) 0, om_et 70 (.if_icmp .ge 6) 3 76]
def om_E20_73 : List om_E := [om_et 73 (.goto 32) 3 105]
def om_E20_76 : List om_E := [om_e 76 (.aload_n 0) 1, om_ef 77 (.getfield 18) 3 2 4 4 21, om_e 80 (.iload 6) 2, om_e 82 (.aload_n 0) 1, om_ef 83 (.getfield 18) 3 2 4 4 21, om_e 86 (.iload 6) 2, om_e 88 .iaload 1, om_e 89 (.iload 5) 2, om_e 91 (.iload 7) 2, om_e 93 .irem 1, om_ef 94 (.invokestatic 109) 3 0 19 2 40]
def om_E20_97 : List om_E := [om_e 97 .iastore 1, om_e 98 (.iload 5) 2, om_e 100 (.iload 7) 2, om_e 102 .idiv 1, om_e 103 (.istore 5) 2]
def om_E20_105 : List om_E := [om_ec 105 (.iinc 6 1) 3 (om_i (1)), om_et 108 (.goto (-86)) 3 22]
def om_E20_111 : List om_E := [om_e 111 .return_ 1]
def om_B20 : List om_Bk := [(0, [true, true, true, true, false, false, false, false], om_E20_0, 5), (5, [true, true, false, true, false, false, false, false], om_E20_5, 9), (9, [true, true, true, true, false, false, false, false], om_E20_9, 14), (14, [true, true, false, true, false, false, false, false], om_E20_14, 22), (22, [true, true, false, false, true, true, true, false], om_E20_22, 31), (31, [true, true, false, false, true, true, true, false], om_E20_31, 55), (55, [true, true, false, false, true, true, true, false], om_E20_55, 67), (67, [true, true, false, false, true, true, true, true], om_E20_67, 73), (73, [true, true, false, false, true, true, true, false], om_E20_73, 76), (76, [true, true, false, false, true, true, true, true], om_E20_76, 97), (97, [true, true, false, false, true, true, true, true], om_E20_97, 105), (105, [true, true, false, false, true, true, true, false], om_E20_105, 111), (111, [false, false, false, false, false, false, false, false], om_E20_111, 112)]
def om_E21_0 : List om_E := [om_e 0 (.aload_n 1) 1, om_ef 1 (.getfield 33) 3 3 0 0 10015, om_e 4 (.istore 4) 2, om_ew 6 (.iconst 0) 1 (om_i (0)) 0, om_e 7 (.istore 5) 2]
def om_E21_9 : List om_E := [om_e 9 (.iload 5) 2, om_e 11 (.iload 4) 2, om_et 13 (.if_icmp .gt 37) 3 50]
def om_E21_16 : List om_E := [om_ew 16 (.iconst 0) 1 (om_i (0)) 0, om_e 17 (.istore 6) 2]
def om_E21_19 : List om_E := [om_e 19 (.iload 6) 2, om_e 21 (.iload 4) 2, om_et 23 (.if_icmp .ge 21) 3 44]
def om_E21_26 : List om_E := [om_e 26 (.aload_n 0) 1, om_ef 27 (.getfield 24) 3 2 5 5 22, om_e 30 (.iload 5) 2, om_e 32 .aaload 1, om_e 33 (.iload 6) 2, om_ew 35 (.ldc 115) 2 (om_i (1000000)) 4, om_e 37 .iastore 1, om_ec 38 (.iinc 6 1) 3 (om_i (1)), om_et 41 (.goto (-22)) 3 19]
def om_E21_44 : List om_E := [om_ec 44 (.iinc 5 1) 3 (om_i (1)), om_et 47 (.goto (-38)) 3 9]
def om_E21_50 : List om_E := [om_e 50 (.aload_n 0) 1, om_ef 51 (.getfield 24) 3 2 5 5 22, om_ew 54 (.iconst 0) 1 (om_i (0)) 0, om_e 55 .aaload 1, om_e 56 (.iload_n 3) 1, om_ew 57 (.iconst 0) 1 (om_i (0)) 0, om_e 58 .iastore 1, om_ew 59 (.iconst 1) 1 (om_i (1)) 0, om_e 60 (.istore 5) 2]
def om_E21_62 : List om_E := [om_e 62 (.iload 5) 2, om_e 64 (.iload 4) 2, om_et 66 (.if_icmp .gt 125) 3 191]
def om_E21_69 : List om_E := [om_ew 69 (.iconst 0) 1 (om_i (0)) 0, om_e 70 (.istore 6) 2]
def om_E21_72 : List om_E := [om_e 72 (.iload 6) 2, om_e 74 (.aload_n 1) 1, om_ef 75 (.getfield 48) 3 3 2 0 10018, om_et 78 (.if_icmp .ge 107) 3 185]
def om_E21_81 : List om_E := [om_e 81 (.aload_n 1) 1, om_ef 82 (.getfield 51) 3 3 3 4 10019, om_e 85 (.iload 6) 2, om_e 87 .iaload 1, om_e 88 (.istore 7) 2, om_e 90 (.aload_n 1) 1, om_ef 91 (.getfield 57) 3 3 4 5 10020, om_e 94 (.iload 6) 2, om_e 96 .iaload 1, om_e 97 (.istore 8) 2, om_e 99 (.aload_n 0) 1, om_ef 100 (.getfield 18) 3 2 4 4 21, om_e 103 (.iload 7) 2, om_e 105 .iaload 1, om_e 106 (.iload 8) 2, om_e 108 .ishr 1, om_ew 109 (.iconst 1) 1 (om_i (1)) 0, om_e 110 .iand 1, om_et 111 (.ifCond .eq 68) 3 179]
def om_E21_114 : List om_E := [om_e 114 (.aload_n 0) 1, om_ef 115 (.getfield 24) 3 2 5 5 22, om_e 118 (.iload 5) 2, om_ew 120 (.iconst 1) 1 (om_i (1)) 0, om_e 121 .isub 1, om_e 122 .aaload 1, om_e 123 (.iload 7) 2, om_e 125 .iaload 1, om_ew 126 (.ldc 115) 2 (om_i (1000000)) 4, om_et 128 (.if_icmp .lt 6) 3 134]
def om_E21_131 : List om_E := [om_et 131 (.goto 48) 3 179]
def om_E21_134 : List om_E := [om_e 134 (.aload_n 0) 1, om_ef 135 (.getfield 24) 3 2 5 5 22, om_e 138 (.iload 5) 2, om_e 140 .aaload 1, om_e 141 (.iload 8) 2, om_e 143 (.aload_n 0) 1, om_ef 144 (.getfield 24) 3 2 5 5 22, om_e 147 (.iload 5) 2, om_e 149 .aaload 1, om_e 150 (.iload 8) 2, om_e 152 .iaload 1, om_e 153 (.aload_n 0) 1, om_ef 154 (.getfield 24) 3 2 5 5 22, om_e 157 (.iload 5) 2, om_ew 159 (.iconst 1) 1 (om_i (1)) 0, om_e 160 .isub 1, om_e 161 .aaload 1, om_e 162 (.iload 7) 2, om_e 164 .iaload 1, om_e 165 (.iload_n 2) 1, om_e 166 (.aload_n 1) 1, om_ef 167 (.getfield 54) 3 3 5 6 10021, om_e 170 (.iload 6) 2, om_e 172 .iaload 1, om_e 173 .imul 1, om_e 174 .iadd 1, om_ef 175 (.invokestatic 69) 3 1 0 0 2, om_e 178 .iastore 1]
def om_E21_179 : List om_E := [om_ec 179 (.iinc 6 1) 3 (om_i (1)), om_et 182 (.goto (-110)) 3 72]
def om_E21_185 : List om_E := [om_ec 185 (.iinc 5 1) 3 (om_i (1)), om_et 188 (.goto (-126)) 3 62]
def om_E21_191 : List om_E := [om_e 191 .return_ 1]
def om_B21 : List om_Bk := [(0, [true, true, true, true, false, false, false, false, false], om_E21_0, 9), (9, [true, true, true, true, true, true, false, false, false], om_E21_9, 16), (16, [true, true, true, true, true, true, false, false, false], om_E21_16, 19), (19, [true, true, true, true, true, true, true, false, false], om_E21_19, 26), (26, [true, true, true, true, true, true, true, false, false], om_E21_26, 44), (44, [true, true, true, true, true, true, false, false, false], om_E21_44, 50), (50, [true, true, true, true, true, false, false, false, false], om_E21_50, 62), (62, [true, true, true, false, true, true, false, false, false], om_E21_62, 69), (69, [true, true, true, false, true, true, false, false, false], om_E21_69, 72), (72, [true, true, true, false, true, true, true, false, false], om_E21_72, 81), (81, [true, true, true, false, true, true, true, false, false], om_E21_81, 114), (114, [true, true, true, false, true, true, true, true, true], om_E21_114, 131), (131, [true, true, true, false, true, true, true, false, false], om_E21_131, 134), (134, [true, true, true, false, true, true, true, true, true], om_E21_134, 179), (179, [true, true, true, false, true, true, true, false, false], om_E21_179, 185), (185, [true, true, true, false, true, true, false, false, false], om_E21_185, 191), (191, [false, false, false, false, false, false, false, false, false], om_E21_191, 192)]
def om_E22_0 : List om_E := [om_e 0 (.aload_n 0) 1, om_e 1 (.aload_n 1) 1, om_e 2 (.iload_n 2) 1, om_e 3 (.iload_n 3) 1, om_ef 4 (.invokevirtual 112) 3 2 21 4 42]
def om_E22_7 : List om_E := [om_e 7 (.aload_n 1) 1, om_ef 8 (.getfield 33) 3 3 0 0 10015, om_e 11 (.istore 4) 2, om_ew 13 (.iconst 0) 1 (om_i (0)) 0, om_e 14 (.istore 5) 2, om_ew 16 (.iconst 0) 1 (om_i (0)) 0, om_e 17 (.istore 6) 2]
def om_E22_19 : List om_E := [om_e 19 (.iload 6) 2, om_e 21 (.iload 4) 2, om_et 23 (.if_icmp .ge 168) 3 191]
def om_E22_26 : List om_E := [om_e 26 (.aload_n 0) 1, om_ef 27 (.getfield 24) 3 2 5 5 22, om_e 30 (.iload 4) 2, om_e 32 .aaload 1, om_e 33 (.iload 6) 2, om_e 35 .iaload 1, om_ew 36 (.ldc 115) 2 (om_i (1000000)) 4, om_et 38 (.if_icmp .lt 6) 3 44]
def om_E22_41 : List om_E := [om_et 41 (.goto 144) 3 185]
def om_E22_44 : List om_E := [om_ew 44 (.iconst 0) 1 (om_i (0)) 0, om_e 45 (.istore 7) 2, om_ew 47 (.iconst 0) 1 (om_i (0)) 0, om_e 48 (.istore 8) 2, om_ew 50 (.iconst 0) 1 (om_i (0)) 0, om_e 51 (.istore 9) 2]
def om_E22_53 : List om_E := [om_e 53 (.iload 9) 2, om_e 55 (.iload 4) 2, om_et 57 (.if_icmp .ge 83) 3 140]
def om_E22_60 : List om_E := [om_e 60 (.aload_n 0) 1, om_ef 61 (.getfield 24) 3 2 5 5 22, om_e 64 (.iload 9) 2, om_e 66 .aaload 1, om_e 67 (.iload 6) 2, om_e 69 .iaload 1, om_ew 70 (.ldc 115) 2 (om_i (1000000)) 4, om_et 72 (.if_icmp .lt 6) 3 78]
def om_E22_75 : List om_E := [om_et 75 (.goto 59) 3 134]
def om_E22_78 : List om_E := [om_e 78 (.aload_n 0) 1, om_ef 79 (.getfield 24) 3 2 5 5 22, om_e 82 (.iload 4) 2, om_e 84 .aaload 1, om_e 85 (.iload 6) 2, om_e 87 .iaload 1, om_e 88 (.aload_n 0) 1, om_ef 89 (.getfield 24) 3 2 5 5 22, om_e 92 (.iload 9) 2, om_e 94 .aaload 1, om_e 95 (.iload 6) 2, om_e 97 .iaload 1, om_e 98 .isub 1, om_e 99 (.istore 10) 2, om_e 101 (.iload 4) 2, om_e 103 (.iload 9) 2, om_e 105 .isub 1, om_e 106 (.istore 11) 2, om_e 108 (.iload 8) 2, om_et 110 (.ifCond .eq 16) 3 126]
def om_E22_113 : List om_E := [om_e 113 (.iload 10) 2, om_e 115 (.iload 8) 2, om_e 117 .imul 1, om_e 118 (.iload 7) 2, om_e 120 (.iload 11) 2, om_e 122 .imul 1, om_et 123 (.if_icmp .le 11) 3 134]
def om_E22_126 : List om_E := [om_e 126 (.iload 10) 2, om_e 128 (.istore 7) 2, om_e 130 (.iload 11) 2, om_e 132 (.istore 8) 2]
def om_E22_134 : List om_E := [om_ec 134 (.iinc 9 1) 3 (om_i (1)), om_et 137 (.goto (-84)) 3 53]
def om_E22_140 : List om_E := [om_e 140 (.iload 8) 2, om_et 142 (.ifCond .ne 6) 3 148]
def om_E22_145 : List om_E := [om_et 145 (.goto 40) 3 185]
def om_E22_148 : List om_E := [om_e 148 (.iload 5) 2, om_et 150 (.ifCond .eq 20) 3 170]
def om_E22_153 : List om_E := [om_e 153 (.iload 7) 2, om_e 155 (.aload_n 0) 1, om_ef 156 (.getfield 15) 3 2 3 0 20, om_e 159 .imul 1, om_e 160 (.aload_n 0) 1, om_ef 161 (.getfield 103) 3 2 2 0 19, om_e 164 (.iload 8) 2, om_e 166 .imul 1, om_et 167 (.if_icmp .ge 15) 3 182]
def om_E22_170 : List om_E := [om_e 170 (.aload_n 0) 1, om_e 171 (.iload 7) 2, om_ef 173 (.putfield 103) 3 2 2 0 19, om_e 176 (.aload_n 0) 1, om_e 177 (.iload 8) 2, om_ef 179 (.putfield 15) 3 2 3 0 20]
def om_E22_182 : List om_E := [om_ew 182 (.iconst 1) 1 (om_i (1)) 0, om_e 183 (.istore 5) 2]
def om_E22_185 : List om_E := [om_ec 185 (.iinc 6 1) 3 (om_i (1)), om_et 188 (.goto (-169)) 3 19]
def om_E22_191 : List om_E := [om_e 191 .return_ 1]
def om_B22 : List om_Bk := [(0, [true, true, true, true, false, false, false, false, false, false, false, false], om_E22_0, 7), (7, [true, true, false, false, false, false, false, false, false, false, false, false], om_E22_7, 19), (19, [true, false, false, false, true, true, true, false, false, false, false, false], om_E22_19, 26), (26, [true, false, false, false, true, true, true, false, false, false, false, false], om_E22_26, 41), (41, [true, false, false, false, true, true, true, false, false, false, false, false], om_E22_41, 44), (44, [true, false, false, false, true, true, true, false, false, false, false, false], om_E22_44, 53), (53, [true, false, false, false, true, true, true, true, true, true, false, false], om_E22_53, 60), (60, [true, false, false, false, true, true, true, true, true, true, false, false], om_E22_60, 75), (75, [true, false, false, false, true, true, true, true, true, true, false, false], om_E22_75, 78), (78, [true, false, false, false, true, true, true, true, true, true, false, false], om_E22_78, 113), (113, [true, false, false, false, true, true, true, true, true, true, true, true], om_E22_113, 126), (126, [true, false, false, false, true, true, true, false, false, true, true, true], om_E22_126, 134), (134, [true, false, false, false, true, true, true, true, true, true, false, false], om_E22_134, 140), (140, [true, false, false, false, true, true, true, true, true, false, false, false], om_E22_140, 145), (145, [true, false, false, false, true, true, true, false, false, false, false, false], om_E22_145, 148), (148, [true, false, false, false, true, true, true, true, true, false, false, false], om_E22_148, 153), (153, [true, false, false, false, true, false, true, true, true, false, false, false], om_E22_153, 170), (170, [true, false, false, false, true, false, true, true, true, false, false, false], om_E22_170, 182), (182, [true, false, false, false, true, false, true, false, false, false, false, false], om_E22_182, 185), (185, [true, false, false, false, true, true, true, false, false, false, false, false], om_E22_185, 191), (191, [false, false, false, false, false, false, false, false, false, false, false, false], om_E22_191, 192)]
def om_E23_0 : List om_E := [om_ew 0 (.iconst 0) 1 (om_i (0)) 0, om_e 1 (.istore 6) 2]
def om_E23_3 : List om_E := [om_e 3 (.iload 6) 2, om_e 5 (.iload_n 3) 1, om_et 6 (.if_icmp .ge 68) 3 74]
def om_E23_9 : List om_E := [om_e 9 (.aload_n 0) 1, om_e 10 (.aload_n 1) 1, om_e 11 (.iload_n 2) 1, om_e 12 (.iload 6) 2, om_ef 14 (.invokevirtual 96) 3 2 20 4 39]
def om_E23_17 : List om_E := [om_e 17 (.aload_n 0) 1, om_e 18 (.aload_n 1) 1, om_e 19 (.iload 4) 2, om_e 21 (.iload 5) 2, om_ef 23 (.invokevirtual 100) 3 2 22 4 41]
def om_E23_26 : List om_E := [om_e 26 (.iload 6) 2, om_et 28 (.ifCond .eq 24) 3 52]
def om_E23_31 : List om_E := [om_e 31 (.aload_n 0) 1, om_ef 32 (.getfield 103) 3 2 2 0 19, om_e 35 (.aload_n 0) 1, om_ef 36 (.getfield 9) 3 2 1 0 18, om_e 39 .imul 1, om_e 40 (.aload_n 0) 1, om_ef 41 (.getfield 106) 3 2 0 0 17, om_e 44 (.aload_n 0) 1, om_ef 45 (.getfield 15) 3 2 3 0 20, om_e 48 .imul 1, om_et 49 (.if_icmp .le 19) 3 68]
def om_E23_52 : List om_E := [om_e 52 (.aload_n 0) 1, om_e 53 (.aload_n 0) 1, om_ef 54 (.getfield 103) 3 2 2 0 19, om_ef 57 (.putfield 106) 3 2 0 0 17, om_e 60 (.aload_n 0) 1, om_e 61 (.aload_n 0) 1, om_ef 62 (.getfield 15) 3 2 3 0 20, om_ef 65 (.putfield 9) 3 2 1 0 18]
def om_E23_68 : List om_E := [om_ec 68 (.iinc 6 1) 3 (om_i (1)), om_et 71 (.goto (-68)) 3 3]
def om_E23_74 : List om_E := [om_e 74 (.aload_n 0) 1, om_e 75 .dup 1, om_ef 76 (.getfield 106) 3 2 0 0 17, om_e 79 (.iload 4) 2, om_e 81 .imul 1, om_ef 82 (.putfield 106) 3 2 0 0 17, om_e 85 (.aload_n 0) 1, om_ef 86 (.getfield 9) 3 2 1 0 18, om_e 89 (.istore 6) 2]
def om_E23_91 : List om_E := [om_e 91 (.iload 6) 2, om_ew 93 (.iconst 1) 1 (om_i (1)) 0, om_et 94 (.if_icmp .le 51) 3 145]
def om_E23_97 : List om_E := [om_e 97 (.aload_n 0) 1, om_ef 98 (.getfield 106) 3 2 0 0 17, om_e 101 (.iload 6) 2, om_e 103 .irem 1, om_et 104 (.ifCond .ne 35) 3 139]
def om_E23_107 : List om_E := [om_e 107 (.aload_n 0) 1, om_ef 108 (.getfield 9) 3 2 1 0 18, om_e 111 (.iload 6) 2, om_e 113 .irem 1, om_et 114 (.ifCond .ne 25) 3 139]
def om_E23_117 : List om_E := [om_e 117 (.aload_n 0) 1, om_e 118 .dup 1, om_ef 119 (.getfield 106) 3 2 0 0 17, om_e 122 (.iload 6) 2, om_e 124 .idiv 1, om_ef 125 (.putfield 106) 3 2 0 0 17, om_e 128 (.aload_n 0) 1, om_e 129 .dup 1, om_ef 130 (.getfield 9) 3 2 1 0 18, om_e 133 (.iload 6) 2, om_e 135 .idiv 1, om_ef 136 (.putfield 9) 3 2 1 0 18]
def om_E23_139 : List om_E := [om_ec 139 (.iinc 6 (-1)) 3 (om_i (-1)), om_et 142 (.goto (-51)) 3 91]
def om_E23_145 : List om_E := [om_e 145 .return_ 1]
def om_B23 : List om_Bk := [(0, [true, true, true, true, true, true, false], om_E23_0, 3), (3, [true, true, true, true, true, true, true], om_E23_3, 9), (9, [true, true, true, true, true, true, true], om_E23_9, 17), (17, [true, true, true, true, true, true, true], om_E23_17, 26), (26, [true, true, true, true, true, true, true], om_E23_26, 31), (31, [true, true, true, true, true, true, true], om_E23_31, 52), (52, [true, true, true, true, true, true, true], om_E23_52, 68), (68, [true, true, true, true, true, true, true], om_E23_68, 74), (74, [true, false, false, false, true, false, false], om_E23_74, 91), (91, [true, false, false, false, false, false, true], om_E23_91, 97), (97, [true, false, false, false, false, false, true], om_E23_97, 107), (107, [true, false, false, false, false, false, true], om_E23_107, 117), (117, [true, false, false, false, false, false, true], om_E23_117, 139), (139, [true, false, false, false, false, false, true], om_E23_139, 145), (145, [false, false, false, false, false, false, false], om_E23_145, 146)]
def om_E24_0 : List om_E := [om_e 0 (.aload_n 0) 1, om_e 1 (.aload_n 1) 1, om_e 2 (.iload_n 2) 1, om_ef 3 (.invokevirtual 72) 3 2 18 3 36]
def om_E24_6 : List om_E := [om_e 6 (.istore 4) 2, om_e 8 (.aload_n 0) 1, om_e 9 (.aload_n 1) 1, om_ew 10 (.iconst 1) 1 (om_i (1)) 0, om_e 11 (.iload_n 2) 1, om_e 12 .isub 1, om_ef 13 (.invokevirtual 72) 3 2 18 3 36]
def om_E24_16 : List om_E := [om_e 16 (.istore 5) 2, om_e 18 (.iload 4) 2, om_e 20 (.iload 5) 2, om_et 22 (.if_icmp .gt 16) 3 38]
def om_E24_25 : List om_E := [om_e 25 (.aload_n 0) 1, om_e 26 (.aload_n 1) 1, om_e 27 (.iload_n 2) 1, om_e 28 (.iload 4) 2, om_ew 30 (.iconst 1) 1 (om_i (1)) 0, om_e 31 (.iload_n 3) 1, om_ef 32 (.invokevirtual 76) 3 2 23 6 38]
def om_E24_35 : List om_E := [om_et 35 (.goto 15) 3 50]
def om_E24_38 : List om_E := [om_e 38 (.aload_n 0) 1, om_e 39 (.aload_n 1) 1, om_ew 40 (.iconst 1) 1 (om_i (1)) 0, om_e 41 (.iload_n 2) 1, om_e 42 .isub 1, om_e 43 (.iload 5) 2, om_ew 45 (.iconst (-1)) 1 (om_i (-1)) 0, om_e 46 (.iload_n 3) 1, om_ef 47 (.invokevirtual 76) 3 2 23 6 38]
def om_E24_50 : List om_E := [om_e 50 .return_ 1]
def om_B24 : List om_Bk := [(0, [true, true, true, true, false, false], om_E24_0, 6), (6, [true, true, true, true, false, false], om_E24_6, 16), (16, [true, true, true, true, true, false], om_E24_16, 25), (25, [true, true, true, true, true, false], om_E24_25, 35), (35, [false, false, false, false, false, false], om_E24_35, 38), (38, [true, true, true, true, false, true], om_E24_38, 50), (50, [false, false, false, false, false, false], om_E24_50, 51)]
def om_E25_0 : List om_E := [om_e 0 (.aload_n 1) 1, om_e 1 (.iload_n 2) 1, om_ef 2 (.invokevirtual 84) 3 3 16 2 10015]
def om_E25_5 : List om_E := [om_e 5 (.istore 5) 2, om_e 7 (.iload_n 2) 1, om_et 8 (.ifCond .ne 7) 3 15]
def om_E25_11 : List om_E := [om_ew 11 (.iconst 1) 1 (om_i (1)) 0, om_et 12 (.goto 4) 3 16]
def om_E25_15 : List om_E := [om_ew 15 (.iconst (-1)) 1 (om_i (-1)) 0]
def om_E25_16 : List om_E := [om_e 16 (.istore 6) 2, om_ew 18 (.iconst 0) 1 (om_i (0)) 0, om_e 19 (.istore 7) 2, om_ew 21 (.iconst 0) 1 (om_i (0)) 0, om_e 22 (.istore 8) 2]
def om_E25_24 : List om_E := [om_e 24 (.iload 8) 2, om_e 26 (.aload_n 1) 1, om_ef 27 (.getfield 48) 3 3 2 0 10018, om_et 30 (.if_icmp .ge 147) 3 177]
def om_E25_33 : List om_E := [om_e 33 (.aload_n 1) 1, om_ef 34 (.getfield 51) 3 3 3 4 10019, om_e 37 (.iload 8) 2, om_e 39 .iaload 1, om_e 40 (.istore 9) 2, om_e 42 (.aload_n 0) 1, om_ef 43 (.getfield 27) 3 2 6 6 23, om_e 46 (.aload_n 1) 1, om_ef 47 (.getfield 57) 3 3 4 5 10020, om_e 50 (.iload 8) 2, om_e 52 .iaload 1, om_e 53 .iaload 1, om_e 54 (.istore 10) 2, om_e 56 (.iload 10) 2, om_e 58 (.iload 4) 2, om_et 60 (.if_icmp .le 8) 3 68]
def om_E25_63 : List om_E := [om_e 63 (.iload 10) 2, om_et 65 (.goto 22) 3 87]
def om_E25_68 : List om_E := [om_ew 68 (.iconst 0) 1 (om_i (0)) 0, om_e 69 (.iload 10) 2, om_e 71 (.iload 6) 2, om_e 73 (.iload_n 3) 1, om_e 74 (.aload_n 1) 1, om_ef 75 (.getfield 54) 3 3 5 6 10021, om_e 78 (.iload 8) 2, om_e 80 .iaload 1, om_e 81 .isub 1, om_e 82 .imul 1, om_e 83 .iadd 1, om_ef 84 (.invokestatic 63) 3 2 0 0 1]
def om_E25_87 : List om_E := [om_e 87 (.istore 11) 2, om_e 89 (.iload 7) 2, om_e 91 (.iload 9) 2, om_e 93 .ishr 1, om_ew 94 (.iconst 1) 1 (om_i (1)) 0, om_e 95 .iand 1, om_et 96 (.ifCond .ne 15) 3 111]
def om_E25_99 : List om_E := [om_e 99 (.aload_n 0) 1, om_ef 100 (.getfield 30) 3 2 7 7 24, om_e 103 (.iload 9) 2, om_e 105 (.iload 11) 2, om_e 107 .iastore 1, om_et 108 (.goto 54) 3 162]
def om_E25_111 : List om_E := [om_e 111 (.iload 5) 2, om_e 113 (.iload 9) 2, om_e 115 .ishr 1, om_ew 116 (.iconst 1) 1 (om_i (1)) 0, om_e 117 .iand 1, om_et 118 (.ifCond .eq 25) 3 143]
def om_E25_121 : List om_E := [om_e 121 (.aload_n 0) 1, om_ef 122 (.getfield 30) 3 2 7 7 24, om_e 125 (.iload 9) 2, om_e 127 (.aload_n 0) 1, om_ef 128 (.getfield 30) 3 2 7 7 24, om_e 131 (.iload 9) 2, om_e 133 .iaload 1, om_e 134 (.iload 11) 2, om_ef 136 (.invokestatic 69) 3 1 0 0 2, om_e 139 .iastore 1, om_et 140 (.goto 22) 3 162]
def om_E25_143 : List om_E := [om_e 143 (.aload_n 0) 1, om_ef 144 (.getfield 30) 3 2 7 7 24, om_e 147 (.iload 9) 2, om_e 149 (.aload_n 0) 1, om_ef 150 (.getfield 30) 3 2 7 7 24, om_e 153 (.iload 9) 2, om_e 155 .iaload 1, om_e 156 (.iload 11) 2, om_ef 158 (.invokestatic 63) 3 2 0 0 1, om_e 161 .iastore 1]
def om_E25_162 : List om_E := [om_e 162 (.iload 7) 2, om_ew 164 (.iconst 1) 1 (om_i (1)) 0, om_e 165 (.iload 9) 2, om_e 167 .ishl 1, om_e 168 .ior 1, om_e 169 (.istore 7) 2, om_ec 171 (.iinc 8 1) 3 (om_i (1)), om_et 174 (.goto (-150)) 3 24]
def om_E25_177 : List om_E := [om_ew 177 (.iconst 0) 1 (om_i (0)) 0, om_e 178 (.istore 8) 2, om_ew 180 (.iconst 0) 1 (om_i (0)) 0, om_e 181 (.istore 9) 2]
def om_E25_183 : List om_E := [om_e 183 (.iload 9) 2, om_e 185 (.aload_n 1) 1, om_ef 186 (.getfield 33) 3 3 0 0 10015, om_et 189 (.if_icmp .ge 49) 3 238]
def om_E25_192 : List om_E := [om_e 192 (.aload_n 0) 1, om_ef 193 (.getfield 30) 3 2 7 7 24, om_e 196 (.iload 9) 2, om_e 198 .iaload 1, om_e 199 (.iload 4) 2, om_ew 201 (.iconst 1) 1 (om_i (1)) 0, om_e 202 .iadd 1, om_ef 203 (.invokestatic 69) 3 1 0 0 2, om_e 206 (.istore 10) 2, om_e 208 (.iload 10) 2, om_e 210 (.aload_n 0) 1, om_ef 211 (.getfield 27) 3 2 6 6 23, om_e 214 (.iload 9) 2, om_e 216 .iaload 1, om_et 217 (.if_icmp .le 6) 3 223]
def om_E25_220 : List om_E := [om_ew 220 (.iconst 1) 1 (om_i (1)) 0, om_e 221 (.istore 8) 2]
def om_E25_223 : List om_E := [om_e 223 (.aload_n 0) 1, om_ef 224 (.getfield 27) 3 2 6 6 23, om_e 227 (.iload 9) 2, om_e 229 (.iload 10) 2, om_e 231 .iastore 1, om_ec 232 (.iinc 9 1) 3 (om_i (1)), om_et 235 (.goto (-52)) 3 183]
def om_E25_238 : List om_E := [om_e 238 (.iload 8) 2, om_e 240 .ireturn 1]
def om_B25 : List om_Bk := [(0, [true, true, true, true, true, false, false, false, false, false, false, false], om_E25_0, 5), (5, [true, true, true, true, true, false, false, false, false, false, false, false], om_E25_5, 11), (11, [true, true, false, true, true, true, false, false, false, false, false, false], om_E25_11, 15), (15, [true, true, false, true, true, true, false, false, false, false, false, false], om_E25_15, 16), (16, [true, true, false, true, true, true, false, false, false, false, false, false], om_E25_16, 24), (24, [true, true, false, true, true, true, true, true, true, false, false, false], om_E25_24, 33), (33, [true, true, false, true, true, true, true, true, true, false, false, false], om_E25_33, 63), (63, [true, true, false, true, true, true, true, true, true, true, true, false], om_E25_63, 68), (68, [true, true, false, true, true, true, true, true, true, true, true, false], om_E25_68, 87), (87, [true, true, false, true, true, true, true, true, true, true, false, false], om_E25_87, 99), (99, [true, true, false, true, true, true, true, true, true, true, false, true], om_E25_99, 111), (111, [true, true, false, true, true, true, true, true, true, true, false, true], om_E25_111, 121), (121, [true, true, false, true, true, true, true, true, true, true, false, true], om_E25_121, 143), (143, [true, true, false, true, true, true, true, true, true, true, false, true], om_E25_143, 162), (162, [true, true, false, true, true, true, true, true, true, true, false, false], om_E25_162, 177), (177, [true, true, false, false, true, false, false, false, false, false, false, false], om_E25_177, 183), (183, [true, true, false, false, true, false, false, false, true, true, false, false], om_E25_183, 192), (192, [true, true, false, false, true, false, false, false, true, true, false, false], om_E25_192, 220), (220, [true, true, false, false, true, false, false, false, false, true, true, false], om_E25_220, 223), (223, [true, true, false, false, true, false, false, false, true, true, true, false], om_E25_223, 238), (238, [false, false, false, false, false, false, false, false, true, false, false, false], om_E25_238, 241)]
def om_E26_0 : List om_E := [om_e 0 (.aload_n 1) 1, om_ef 1 (.getfield 33) 3 3 0 0 10015, om_e 4 (.iload_n 3) 1, om_ew 5 (.iconst 5) 1 (om_i (5)) 0, om_e 6 .iadd 1, om_e 7 .imul 1, om_e 8 (.istore 5) 2, om_ew 10 (.iconst 0) 1 (om_i (0)) 0, om_e 11 (.istore 6) 2]
def om_E26_13 : List om_E := [om_e 13 (.iload 6) 2, om_e 15 (.aload_n 1) 1, om_ef 16 (.getfield 33) 3 3 0 0 10015, om_et 19 (.if_icmp .ge 17) 3 36]
def om_E26_22 : List om_E := [om_e 22 (.aload_n 0) 1, om_ef 23 (.getfield 27) 3 2 6 6 23, om_e 26 (.iload 6) 2, om_ew 28 (.iconst 0) 1 (om_i (0)) 0, om_e 29 .iastore 1, om_ec 30 (.iinc 6 1) 3 (om_i (1)), om_et 33 (.goto (-20)) 3 13]
def om_E26_36 : List om_E := [om_ew 36 (.iconst 0) 1 (om_i (0)) 0, om_e 37 (.istore 6) 2]
def om_E26_39 : List om_E := [om_e 39 (.iload 6) 2, om_e 41 (.aload_n 1) 1, om_ef 42 (.getfield 33) 3 3 0 0 10015, om_e 45 (.iload 5) 2, om_ew 47 (.iconst 1) 1 (om_i (1)) 0, om_e 48 .iadd 1, om_e 49 .imul 1, om_et 50 (.if_icmp .gt 36) 3 86]
def om_E26_53 : List om_E := [om_e 53 (.aload_n 0) 1, om_ef 54 (.getfield 27) 3 2 6 6 23, om_e 57 (.iload 4) 2, om_e 59 .iaload 1, om_e 60 (.iload 5) 2, om_et 62 (.if_icmp .gt 24) 3 86]
def om_E26_65 : List om_E := [om_e 65 (.aload_n 0) 1, om_e 66 (.aload_n 1) 1, om_e 67 (.iload_n 2) 1, om_e 68 (.iload_n 3) 1, om_e 69 (.iload 5) 2, om_ef 71 (.invokevirtual 80) 3 2 25 5 88]
def om_E26_74 : List om_E := [om_et 74 (.ifCond .ne 6) 3 80]
def om_E26_77 : List om_E := [om_et 77 (.goto 9) 3 86]
def om_E26_80 : List om_E := [om_ec 80 (.iinc 6 1) 3 (om_i (1)), om_et 83 (.goto (-44)) 3 39]
def om_E26_86 : List om_E := [om_e 86 (.aload_n 0) 1, om_ef 87 (.getfield 27) 3 2 6 6 23, om_e 90 (.iload 4) 2, om_e 92 .iaload 1, om_e 93 (.iload 5) 2, om_et 95 (.if_icmp .gt 7) 3 102]
def om_E26_98 : List om_E := [om_ew 98 (.iconst 1) 1 (om_i (1)) 0, om_et 99 (.goto 4) 3 103]
def om_E26_102 : List om_E := [om_ew 102 (.iconst 0) 1 (om_i (0)) 0]
def om_E26_103 : List om_E := [om_e 103 .ireturn 1]
def om_B26 : List om_Bk := [(0, [true, true, true, true, true, false, false], om_E26_0, 13), (13, [true, true, true, true, true, true, true], om_E26_13, 22), (22, [true, true, true, true, true, true, true], om_E26_22, 36), (36, [true, true, true, true, true, true, false], om_E26_36, 39), (39, [true, true, true, true, true, true, true], om_E26_39, 53), (53, [true, true, true, true, true, true, true], om_E26_53, 65), (65, [true, true, true, true, true, true, true], om_E26_65, 74), (74, [true, true, true, true, true, true, true], om_E26_74, 77), (77, [true, false, false, false, true, true, false], om_E26_77, 80), (80, [true, true, true, true, true, true, true], om_E26_80, 86), (86, [true, false, false, false, true, true, false], om_E26_86, 98), (98, [false, false, false, false, false, false, false], om_E26_98, 102), (102, [false, false, false, false, false, false, false], om_E26_102, 103), (103, [false, false, false, false, false, false, false], om_E26_103, 104)]
def om_E27_0 : List om_E := [om_e 0 (.aload_n 0) 1, om_e 1 (.aload_n 1) 1, om_ew 2 (.iconst (-1)) 1 (om_i (-1)) 0, om_ew 3 (.iconst 1) 1 (om_i (1)) 0, om_e 4 (.iload_n 2) 1, om_et 5 (.ifCond .ne 7) 3 12]
def om_E27_8 : List om_E := [om_ew 8 (.iconst 1) 1 (om_i (1)) 0, om_et 9 (.goto 4) 3 13]
def om_E27_12 : List om_E := [om_ew 12 (.iconst (-1)) 1 (om_i (-1)) 0]
def om_E27_13 : List om_E := [om_e 13 (.iload_n 3) 1, om_ef 14 (.invokevirtual 76) 3 2 23 6 38]
def om_E27_17 : List om_E := [om_e 17 .return_ 1]
def om_B27 : List om_Bk := [(0, [true, true, true, true], om_E27_0, 8), (8, [false, false, false, true], om_E27_8, 12), (12, [false, false, false, true], om_E27_12, 13), (13, [false, false, false, true], om_E27_13, 17), (17, [false, false, false, false], om_E27_17, 18)]
def om_E28_0 : List om_E := [om_e 0 (.aload_n 0) 1, om_e 1 (.aload_n 1) 1, om_ef 2 (.getfield 48) 3 0 0 0 10001, om_ef 5 (.putfield 51) 3 3 0 0 8, om_e 8 (.aload_n 0) 1, om_e 9 (.aload_n 1) 1, om_ef 10 (.getfield 52) 3 0 2 0 10004, om_e 13 (.iload_n 2) 1, om_e 14 .ixor 1, om_ef 15 (.putfield 55) 3 3 1 0 9, om_e 18 (.aload_n 0) 1, om_ew 19 (.iconst 0) 1 (om_i (0)) 0, om_ef 20 (.putfield 56) 3 3 2 0 10, om_ew 23 (.iconst 0) 1 (om_i (0)) 0, om_e 24 (.istore_n 3) 1]
def om_E28_25 : List om_E := [om_e 25 (.iload_n 3) 1, om_e 26 (.aload_n 0) 1, om_ef 27 (.getfield 51) 3 3 0 0 8, om_et 30 (.if_icmp .ge 16) 3 46]
def om_E28_33 : List om_E := [om_e 33 (.aload_n 0) 1, om_ef 34 (.getfield 21) 3 3 6 7 14, om_e 37 (.iload_n 3) 1, om_ew 38 (.iconst 0) 1 (om_i (0)) 0, om_e 39 .iastore 1, om_ec 40 (.iinc 3 1) 3 (om_i (1)), om_et 43 (.goto (-18)) 3 25]
def om_E28_46 : List om_E := [om_e 46 .return_ 1]
def om_B28 : List om_Bk := [(0, [true, true, true, false], om_E28_0, 25), (25, [true, false, false, true], om_E28_25, 33), (33, [true, false, false, true], om_E28_33, 46), (46, [false, false, false, false], om_E28_46, 47)]
def om_E29_0 : List om_E := [om_e 0 (.aload_n 0) 1, om_ef 1 (.getfield 56) 3 3 2 0 10, om_ew 4 (.bipush 28) 2 (om_i (28)) 0, om_et 6 (.if_icmp .lt 4) 3 10]
def om_E29_9 : List om_E := [om_e 9 .return_ 1]
def om_E29_10 : List om_E := [om_e 10 (.aload_n 0) 1, om_ef 11 (.getfield 9) 3 3 3 4 11, om_e 14 (.aload_n 0) 1, om_ef 15 (.getfield 56) 3 3 2 0 10, om_e 18 (.iload_n 1) 1, om_e 19 .iastore 1, om_e 20 (.aload_n 0) 1, om_ef 21 (.getfield 15) 3 3 4 5 12, om_e 24 (.aload_n 0) 1, om_ef 25 (.getfield 56) 3 3 2 0 10, om_e 28 (.iload_n 2) 1, om_e 29 .iastore 1, om_e 30 (.aload_n 0) 1, om_ef 31 (.getfield 18) 3 3 5 6 13, om_e 34 (.aload_n 0) 1, om_ef 35 (.getfield 56) 3 3 2 0 10, om_e 38 (.iload_n 3) 1, om_e 39 .iastore 1, om_e 40 (.aload_n 0) 1, om_e 41 .dup 1, om_ef 42 (.getfield 56) 3 3 2 0 10, om_ew 45 (.iconst 1) 1 (om_i (1)) 0, om_e 46 .iadd 1, om_ef 47 (.putfield 56) 3 3 2 0 10, om_e 50 (.aload_n 0) 1, om_ef 51 (.getfield 21) 3 3 6 7 14, om_e 54 (.iload_n 1) 1, om_e 55 .dup2 1, om_e 56 .iaload 1, om_ew 57 (.iconst 1) 1 (om_i (1)) 0, om_e 58 (.iload_n 2) 1, om_e 59 .ishl 1, om_e 60 .ior 1, om_e 61 .iastore 1, om_e 62 .return_ 1]
def om_B29 : List om_Bk := [(0, [true, true, true, true], om_E29_0, 9), (9, [false, false, false, false], om_E29_9, 10), (10, [true, true, true, true], om_E29_10, 63)]
def om_E30_0 : List om_E := [om_ew 0 (.iconst 0) 1 (om_i (0)) 0, om_e 1 (.istore_n 1) 1]
def om_E30_2 : List om_E := [om_e 2 (.iload_n 1) 1, om_e 3 (.aload_n 0) 1, om_ef 4 (.getfield 51) 3 3 0 0 8, om_et 7 (.if_icmp .ge 25) 3 32]
def om_E30_10 : List om_E := [om_e 10 (.aload_n 0) 1, om_ef 11 (.getfield 21) 3 3 6 7 14, om_e 14 (.iload_n 1) 1, om_e 15 .iaload 1, om_et 16 (.ifCond .ne 10) 3 26]
def om_E30_19 : List om_E := [om_e 19 (.aload_n 0) 1, om_e 20 (.iload_n 1) 1, om_e 21 (.iload_n 1) 1, om_ew 22 (.iconst 0) 1 (om_i (0)) 0, om_ef 23 (.invokevirtual 37) 3 3 29 4 15]
def om_E30_26 : List om_E := [om_ec 26 (.iinc 1 1) 3 (om_i (1)), om_et 29 (.goto (-27)) 3 2]
def om_E30_32 : List om_E := [om_e 32 .return_ 1]
def om_B30 : List om_Bk := [(0, [true, false], om_E30_0, 2), (2, [true, true], om_E30_2, 10), (10, [true, true], om_E30_10, 19), (19, [true, true], om_E30_19, 26), (26, [true, true], om_E30_26, 32), (32, [false, false], om_E30_32, 33)]
def om_E31_0 : List om_E := [om_e 0 (.aload_n 0) 1, om_e 1 (.aload_n 1) 1, om_e 2 (.iload_n 3) 1, om_ef 3 (.invokevirtual 24) 3 3 28 3 14]
def om_E31_6 : List om_E := [om_ew 6 (.iconst 0) 1 (om_i (0)) 0, om_e 7 (.istore 4) 2]
def om_E31_9 : List om_E := [om_e 9 (.iload 4) 2, om_e 11 (.aload_n 1) 1, om_ef 12 (.getfield 28) 3 0 1 0 10002, om_et 15 (.if_icmp .ge 40) 3 55]
def om_E31_18 : List om_E := [om_e 18 (.iload 4) 2, om_e 20 (.iload_n 2) 1, om_et 21 (.if_icmp .eq 28) 3 49]
def om_E31_24 : List om_E := [om_e 24 (.aload_n 0) 1, om_e 25 (.aload_n 1) 1, om_ef 26 (.getfield 34) 3 0 5 6 10009, om_e 29 (.iload 4) 2, om_e 31 .iaload 1, om_e 32 (.aload_n 1) 1, om_ef 33 (.getfield 35) 3 0 6 7 10011, om_e 36 (.iload 4) 2, om_e 38 .iaload 1, om_e 39 (.aload_n 1) 1, om_ef 40 (.getfield 36) 3 0 7 8 10013, om_e 43 (.iload 4) 2, om_e 45 .iaload 1, om_ef 46 (.invokevirtual 37) 3 3 29 4 15]
def om_E31_49 : List om_E := [om_ec 49 (.iinc 4 1) 3 (om_i (1)), om_et 52 (.goto (-43)) 3 9]
def om_E31_55 : List om_E := [om_e 55 (.aload_n 0) 1, om_ef 56 (.invokevirtual 41) 3 3 30 1 16]
def om_E31_59 : List om_E := [om_e 59 .return_ 1]
def om_B31 : List om_Bk := [(0, [true, true, true, true, false], om_E31_0, 6), (6, [true, true, true, false, false], om_E31_6, 9), (9, [true, true, true, false, true], om_E31_9, 18), (18, [true, true, true, false, true], om_E31_18, 24), (24, [true, true, true, false, true], om_E31_24, 49), (49, [true, true, true, false, true], om_E31_49, 55), (55, [true, false, false, false, false], om_E31_55, 59), (59, [false, false, false, false, false], om_E31_59, 60)]
def om_E32_0 : List om_E := [om_e 0 (.aload_n 0) 1, om_e 1 (.aload_n 1) 1, om_ew 2 (.iconst 0) 1 (om_i (0)) 0, om_ef 3 (.invokevirtual 24) 3 3 28 3 14]
def om_E32_6 : List om_E := [om_ew 6 (.iconst 0) 1 (om_i (0)) 0, om_e 7 (.istore_n 3) 1]
def om_E32_8 : List om_E := [om_e 8 (.iload_n 3) 1, om_e 9 (.aload_n 1) 1, om_ef 10 (.getfield 28) 3 0 1 0 10002, om_et 13 (.if_icmp .ge 40) 3 53]
def om_E32_16 : List om_E := [om_e 16 (.aload_n 1) 1, om_e 17 (.iload_n 3) 1, om_e 18 (.iload_n 2) 1, om_ef 19 (.invokevirtual 44) 3 0 6 3 10018]
def om_E32_22 : List om_E := [om_et 22 (.ifCond .eq 25) 3 47]
def om_E32_25 : List om_E := [om_e 25 (.aload_n 0) 1, om_e 26 (.aload_n 1) 1, om_ef 27 (.getfield 34) 3 0 5 6 10009, om_e 30 (.iload_n 3) 1, om_e 31 .iaload 1, om_e 32 (.aload_n 1) 1, om_ef 33 (.getfield 35) 3 0 6 7 10011, om_e 36 (.iload_n 3) 1, om_e 37 .iaload 1, om_e 38 (.aload_n 1) 1, om_ef 39 (.getfield 36) 3 0 7 8 10013, om_e 42 (.iload_n 3) 1, om_e 43 .iaload 1, om_ef 44 (.invokevirtual 37) 3 3 29 4 15]
def om_E32_47 : List om_E := [om_ec 47 (.iinc 3 1) 3 (om_i (1)), om_et 50 (.goto (-42)) 3 8]
def om_E32_53 : List om_E := [om_e 53 (.aload_n 0) 1, om_ef 54 (.invokevirtual 41) 3 3 30 1 16]
def om_E32_57 : List om_E := [om_e 57 .return_ 1]
def om_B32 : List om_Bk := [(0, [true, true, true, false], om_E32_0, 6), (6, [true, true, true, false], om_E32_6, 8), (8, [true, true, true, true], om_E32_8, 16), (16, [true, true, true, true], om_E32_16, 22), (22, [true, true, true, true], om_E32_22, 25), (25, [true, true, true, true], om_E32_25, 47), (47, [true, true, true, true], om_E32_47, 53), (53, [true, false, false, false], om_E32_53, 57), (57, [false, false, false, false], om_E32_57, 58)]
def om_E33_0 : List om_E := [om_ew 0 (.iconst 0) 1 (om_i (0)) 0, om_e 1 (.istore_n 2) 1]
def om_E33_2 : List om_E := [om_e 2 (.iload_n 2) 1, om_e 3 (.aload_n 0) 1, om_ef 4 (.getfield 56) 3 3 2 0 10, om_et 7 (.if_icmp .ge 25) 3 32]
def om_E33_10 : List om_E := [om_e 10 (.aload_n 0) 1, om_ef 11 (.getfield 18) 3 3 5 6 13, om_e 14 (.iload_n 2) 1, om_e 15 (.iload_n 1) 1, om_e 16 (.aload_n 0) 1, om_ef 17 (.getfield 9) 3 3 3 4 11, om_e 20 (.iload_n 2) 1, om_e 21 .iaload 1, om_e 22 .ishr 1, om_ew 23 (.iconst 1) 1 (om_i (1)) 0, om_e 24 .iand 1, om_e 25 .iastore 1, om_ec 26 (.iinc 2 1) 3 (om_i (1)), om_et 29 (.goto (-27)) 3 2]
def om_E33_32 : List om_E := [om_e 32 .return_ 1]
def om_B33 : List om_Bk := [(0, [true, true, false], om_E33_0, 2), (2, [true, true, true], om_E33_2, 10), (10, [true, true, true], om_E33_10, 32), (32, [false, false, false], om_E33_32, 33)]
def om_E34_0 : List om_E := [om_ew 0 (.iconst 1) 1 (om_i (1)) 0, om_e 1 (.aload_n 0) 1, om_ef 2 (.getfield 51) 3 3 0 0 8, om_e 5 .ishl 1, om_ew 6 (.iconst 1) 1 (om_i (1)) 0, om_e 7 .isub 1, om_e 8 .ireturn 1]
def om_B34 : List om_Bk := [(0, [true], om_E34_0, 9)]
def om_E35_0 : List om_E := [om_ew 0 (.iconst 0) 1 (om_i (0)) 0, om_e 1 (.istore_n 1) 1, om_ew 2 (.iconst 0) 1 (om_i (0)) 0, om_e 3 (.istore_n 2) 1]
def om_E35_4 : List om_E := [om_e 4 (.iload_n 2) 1, om_e 5 (.aload_n 0) 1, om_ef 6 (.getfield 51) 3 3 0 0 8, om_et 9 (.if_icmp .ge 28) 3 37]
def om_E35_12 : List om_E := [om_e 12 (.aload_n 0) 1, om_ef 13 (.getfield 21) 3 3 6 7 14, om_e 16 (.iload_n 2) 1, om_e 17 .iaload 1, om_ef 18 (.invokestatic 59) 3 0 17 1 92]
def om_E35_21 : List om_E := [om_ew 21 (.iconst 1) 1 (om_i (1)) 0, om_et 22 (.if_icmp .le 9) 3 31]
def om_E35_25 : List om_E := [om_e 25 (.iload_n 1) 1, om_ew 26 (.iconst 1) 1 (om_i (1)) 0, om_e 27 (.iload_n 2) 1, om_e 28 .ishl 1, om_e 29 .ior 1, om_e 30 (.istore_n 1) 1]
def om_E35_31 : List om_E := [om_ec 31 (.iinc 2 1) 3 (om_i (1)), om_et 34 (.goto (-30)) 3 4]
def om_E35_37 : List om_E := [om_e 37 (.iload_n 1) 1, om_e 38 .ireturn 1]
def om_B35 : List om_Bk := [(0, [true, false, false], om_E35_0, 4), (4, [true, true, true], om_E35_4, 12), (12, [true, true, true], om_E35_12, 21), (21, [true, true, true], om_E35_21, 25), (25, [true, true, true], om_E35_25, 31), (31, [true, true, true], om_E35_31, 37), (37, [false, true, false], om_E35_37, 39)]
def om_E36_0 : List om_E := [om_e 0 (.iload_n 1) 1, om_et 1 (.ifCond .ne 10) 3 11]
def om_E36_4 : List om_E := [om_e 4 (.aload_n 0) 1, om_ef 5 (.getfield 55) 3 3 1 0 9, om_et 8 (.goto 9) 3 17]
def om_E36_11 : List om_E := [om_e 11 (.aload_n 0) 1, om_ef 12 (.getfield 55) 3 3 1 0 9, om_ew 15 (.iconst (-1)) 1 (om_i (-1)) 0, om_e 16 .ixor 1]
def om_E36_17 : List om_E := [om_e 17 (.istore 4) 2, om_ew 19 (.iconst 0) 1 (om_i (0)) 0, om_e 20 (.istore 5) 2, om_ew 22 (.iconst 0) 1 (om_i (0)) 0, om_e 23 (.istore 6) 2]
def om_E36_25 : List om_E := [om_e 25 (.iload 6) 2, om_e 27 (.aload_n 0) 1, om_ef 28 (.getfield 51) 3 3 0 0 8, om_et 31 (.if_icmp .ge 75) 3 106]
def om_E36_34 : List om_E := [om_e 34 (.aload_n 0) 1, om_ef 35 (.getfield 21) 3 3 6 7 14, om_e 38 (.iload 6) 2, om_e 40 .iaload 1, om_e 41 (.iload_n 3) 1, om_e 42 .iand 1, om_e 43 (.istore 7) 2, om_e 45 (.iload 4) 2, om_e 47 (.iload 6) 2, om_e 49 .ishr 1, om_ew 50 (.iconst 1) 1 (om_i (1)) 0, om_e 51 .iand 1, om_et 52 (.ifCond .eq 18) 3 70]
def om_E36_55 : List om_E := [om_e 55 (.iload 7) 2, om_e 57 (.iload_n 2) 1, om_e 58 .iand 1, om_et 59 (.ifCond .eq 7) 3 66]
def om_E36_62 : List om_E := [om_ew 62 (.iconst 1) 1 (om_i (1)) 0, om_et 63 (.goto 21) 3 84]
def om_E36_66 : List om_E := [om_ew 66 (.iconst 0) 1 (om_i (0)) 0, om_et 67 (.goto 17) 3 84]
def om_E36_70 : List om_E := [om_e 70 (.iload 7) 2, om_e 72 (.iload_n 2) 1, om_ew 73 (.iconst (-1)) 1 (om_i (-1)) 0, om_e 74 .ixor 1, om_e 75 .iand 1, om_et 76 (.ifCond .ne 7) 3 83]
def om_E36_79 : List om_E := [om_ew 79 (.iconst 1) 1 (om_i (1)) 0, om_et 80 (.goto 4) 3 84]
def om_E36_83 : List om_E := [om_ew 83 (.iconst 0) 1 (om_i (0)) 0]
def om_E36_84 : List om_E := [om_e 84 (.istore 8) 2, om_e 86 (.iload 8) 2, om_et 88 (.ifCond .eq 12) 3 100]
def om_E36_91 : List om_E := [om_e 91 (.iload 5) 2, om_ew 93 (.iconst 1) 1 (om_i (1)) 0, om_e 94 (.iload 6) 2, om_e 96 .ishl 1, om_e 97 .ior 1, om_e 98 (.istore 5) 2]
def om_E36_100 : List om_E := [om_ec 100 (.iinc 6 1) 3 (om_i (1)), om_et 103 (.goto (-78)) 3 25]
def om_E36_106 : List om_E := [om_e 106 (.iload 5) 2, om_e 108 (.iload_n 3) 1, om_e 109 .iand 1, om_e 110 .ireturn 1]
def om_B36 : List om_Bk := [(0, [true, true, true, true, false, false, false, false, false], om_E36_0, 4), (4, [true, false, true, true, false, false, false, false, false], om_E36_4, 11), (11, [true, false, true, true, false, false, false, false, false], om_E36_11, 17), (17, [true, false, true, true, false, false, false, false, false], om_E36_17, 25), (25, [true, false, true, true, true, true, true, false, false], om_E36_25, 34), (34, [true, false, true, true, true, true, true, false, false], om_E36_34, 55), (55, [true, false, true, true, true, true, true, true, false], om_E36_55, 62), (62, [true, false, true, true, true, true, true, false, false], om_E36_62, 66), (66, [true, false, true, true, true, true, true, false, false], om_E36_66, 70), (70, [true, false, true, true, true, true, true, true, false], om_E36_70, 79), (79, [true, false, true, true, true, true, true, false, false], om_E36_79, 83), (83, [true, false, true, true, true, true, true, false, false], om_E36_83, 84), (84, [true, false, true, true, true, true, true, false, false], om_E36_84, 91), (91, [true, false, true, true, true, true, true, false, false], om_E36_91, 100), (100, [true, false, true, true, true, true, true, false, false], om_E36_100, 106), (106, [false, false, false, true, false, true, false, false, false], om_E36_106, 111)]
def om_E37_0 : List om_E := [om_e 0 (.iload_n 2) 1, om_e 1 (.iload_n 3) 1, om_e 2 .iand 1, om_e 3 (.istore 4) 2, om_ew 5 (.iconst 0) 1 (om_i (0)) 0, om_e 6 (.istore 5) 2]
def om_E37_8 : List om_E := [om_e 8 (.iload 5) 2, om_e 10 (.aload_n 0) 1, om_ef 11 (.getfield 51) 3 3 0 0 8, om_et 14 (.if_icmp .ge 36) 3 50]
def om_E37_17 : List om_E := [om_e 17 (.iload 4) 2, om_e 19 (.aload_n 0) 1, om_e 20 (.iload_n 1) 1, om_e 21 (.iload 4) 2, om_e 23 (.iload_n 3) 1, om_ef 24 (.invokevirtual 65) 3 3 36 4 17]
def om_E37_27 : List om_E := [om_e 27 .ior 1, om_e 28 (.istore 6) 2, om_e 30 (.iload 6) 2, om_e 32 (.iload 4) 2, om_et 34 (.if_icmp .ne 6) 3 40]
def om_E37_37 : List om_E := [om_et 37 (.goto 13) 3 50]
def om_E37_40 : List om_E := [om_e 40 (.iload 6) 2, om_e 42 (.istore 4) 2, om_ec 44 (.iinc 5 1) 3 (om_i (1)), om_et 47 (.goto (-39)) 3 8]
def om_E37_50 : List om_E := [om_e 50 (.iload 4) 2, om_e 52 .ireturn 1]
def om_B37 : List om_Bk := [(0, [true, true, true, true, false, false, false], om_E37_0, 8), (8, [true, true, false, true, true, true, false], om_E37_8, 17), (17, [true, true, false, true, true, true, false], om_E37_17, 27), (27, [true, true, false, true, true, true, false], om_E37_27, 37), (37, [false, false, false, false, true, false, false], om_E37_37, 40), (40, [true, true, false, true, false, true, true], om_E37_40, 50), (50, [false, false, false, false, true, false, false], om_E37_50, 53)]
def om_E38_0 : List om_E := [om_e 0 (.iload_n 2) 1, om_e 1 (.istore 4) 2, om_ew 3 (.iconst 0) 1 (om_i (0)) 0, om_e 4 (.istore 5) 2]
def om_E38_6 : List om_E := [om_e 6 (.iload 5) 2, om_e 8 (.aload_n 0) 1, om_ef 9 (.getfield 51) 3 3 0 0 8, om_et 12 (.if_icmp .gt 37) 3 49]
def om_E38_15 : List om_E := [om_e 15 (.iload 4) 2, om_e 17 (.iload_n 3) 1, om_e 18 .ishr 1, om_ew 19 (.iconst 1) 1 (om_i (1)) 0, om_e 20 .iand 1, om_et 21 (.ifCond .eq 6) 3 27]
def om_E38_24 : List om_E := [om_e 24 (.iload 5) 2, om_e 26 .ireturn 1]
def om_E38_27 : List om_E := [om_e 27 (.iload 4) 2, om_e 29 (.aload_n 0) 1, om_e 30 (.iload_n 1) 1, om_e 31 (.iload 4) 2, om_e 33 (.aload_n 0) 1, om_ef 34 (.invokevirtual 69) 3 3 34 1 19]
def om_E38_37 : List om_E := [om_ef 37 (.invokevirtual 65) 3 3 36 4 17]
def om_E38_40 : List om_E := [om_e 40 .ior 1, om_e 41 (.istore 4) 2, om_ec 43 (.iinc 5 1) 3 (om_i (1)), om_et 46 (.goto (-40)) 3 6]
def om_E38_49 : List om_E := [om_ew 49 (.iconst (-1)) 1 (om_i (-1)) 0, om_e 50 .ireturn 1]
def om_B38 : List om_Bk := [(0, [true, true, true, true, false, false], om_E38_0, 6), (6, [true, true, false, true, true, true], om_E38_6, 15), (15, [true, true, false, true, true, true], om_E38_15, 24), (24, [false, false, false, false, false, true], om_E38_24, 27), (27, [true, true, false, true, true, true], om_E38_27, 37), (37, [true, true, false, true, false, true], om_E38_37, 40), (40, [true, true, false, true, false, true], om_E38_40, 49), (49, [false, false, false, false, false, false], om_E38_49, 51)]
def om_E39_0 : List om_E := [om_e 0 (.aload_n 0) 1, om_ef 1 (.invokevirtual 69) 3 3 34 1 19]
def om_E39_4 : List om_E := [om_e 4 (.istore_n 3) 1, om_e 5 (.iload_n 3) 1, om_e 6 (.aload_n 0) 1, om_ew 7 (.iconst 1) 1 (om_i (1)) 0, om_e 8 (.iload_n 1) 1, om_e 9 .isub 1, om_e 10 (.iload_n 3) 1, om_e 11 (.iload_n 2) 1, om_ew 12 (.iconst (-1)) 1 (om_i (-1)) 0, om_e 13 .ixor 1, om_e 14 .iand 1, om_e 15 (.iload_n 3) 1, om_ef 16 (.invokevirtual 73) 3 3 37 4 21]
def om_E39_19 : List om_E := [om_ew 19 (.iconst (-1)) 1 (om_i (-1)) 0, om_e 20 .ixor 1, om_e 21 .iand 1, om_e 22 .ireturn 1]
def om_B39 : List om_Bk := [(0, [true, true, true, false], om_E39_0, 4), (4, [true, true, true, false], om_E39_4, 19), (19, [false, false, false, false], om_E39_19, 23)]
def om_E40_0 : List om_E := [om_e 0 (.iload_n 3) 1, om_e 1 (.aload_n 0) 1, om_e 2 (.iload_n 1) 1, om_e 3 (.iload_n 2) 1, om_e 4 (.iload_n 3) 1, om_ef 5 (.invokevirtual 73) 3 3 37 4 21]
def om_E40_8 : List om_E := [om_ew 8 (.iconst (-1)) 1 (om_i (-1)) 0, om_e 9 .ixor 1, om_e 10 .iand 1, om_e 11 (.istore 4) 2, om_e 13 (.iload_n 3) 1, om_e 14 (.aload_n 0) 1, om_ew 15 (.iconst 1) 1 (om_i (1)) 0, om_e 16 (.iload_n 1) 1, om_e 17 .isub 1, om_e 18 (.iload 4) 2, om_e 20 (.iload_n 3) 1, om_ef 21 (.invokevirtual 73) 3 3 37 4 21]
def om_E40_24 : List om_E := [om_ew 24 (.iconst (-1)) 1 (om_i (-1)) 0, om_e 25 .ixor 1, om_e 26 .iand 1, om_e 27 .ireturn 1]
def om_B40 : List om_Bk := [(0, [true, true, true, true, false], om_E40_0, 8), (8, [true, true, false, true, false], om_E40_8, 24), (24, [false, false, false, false, false], om_E40_24, 28)]
def om_E41_0 : List om_E := [om_e 0 (.aload_n 0) 1, om_ef 1 (.invokevirtual 69) 3 3 34 1 19]
def om_E41_4 : List om_E := [om_e 4 (.istore 4) 2, om_ew 6 (.iconst 0) 1 (om_i (0)) 0, om_e 7 (.istore 5) 2]
def om_E41_9 : List om_E := [om_e 9 (.iload 5) 2, om_e 11 (.aload_n 0) 1, om_ef 12 (.getfield 51) 3 3 0 0 8, om_et 15 (.if_icmp .ge 39) 3 54]
def om_E41_18 : List om_E := [om_e 18 (.aload_n 0) 1, om_e 19 (.iload_n 1) 1, om_e 20 (.iload_n 3) 1, om_e 21 (.aload_n 0) 1, om_e 22 (.iload_n 1) 1, om_e 23 (.iload_n 2) 1, om_e 24 (.iload 4) 2, om_ef 26 (.invokevirtual 76) 3 3 40 4 24]
def om_E41_29 : List om_E := [om_ef 29 (.invokevirtual 76) 3 3 40 4 24]
def om_E41_32 : List om_E := [om_e 32 (.istore 6) 2, om_e 34 (.iload 6) 2, om_e 36 (.iload 4) 2, om_et 38 (.if_icmp .ne 6) 3 44]
def om_E41_41 : List om_E := [om_et 41 (.goto 13) 3 54]
def om_E41_44 : List om_E := [om_e 44 (.iload 6) 2, om_e 46 (.istore 4) 2, om_ec 48 (.iinc 5 1) 3 (om_i (1)), om_et 51 (.goto (-42)) 3 9]
def om_E41_54 : List om_E := [om_e 54 (.iload 4) 2, om_e 56 .ireturn 1]
def om_B41 : List om_Bk := [(0, [true, true, true, true, false, false, false], om_E41_0, 4), (4, [true, true, true, true, false, false, false], om_E41_4, 9), (9, [true, true, true, true, true, true, false], om_E41_9, 18), (18, [true, true, true, true, true, true, false], om_E41_18, 29), (29, [true, true, true, true, true, true, false], om_E41_29, 32), (32, [true, true, true, true, true, true, false], om_E41_32, 41), (41, [false, false, false, false, true, false, false], om_E41_41, 44), (44, [true, true, true, true, false, true, true], om_E41_44, 54), (54, [false, false, false, false, true, false, false], om_E41_54, 57)]
def om_E42_0 : List om_E := [om_ew 0 (.bipush 7) 2 (om_i (7)) 0, om_e 2 (.istore_n 3) 1, om_ew 3 (.iconst 0) 1 (om_i (0)) 0, om_e 4 (.istore 4) 2]
def om_E42_6 : List om_E := [om_e 6 (.iload 4) 2, om_e 8 (.aload_n 0) 1, om_ef 9 (.getfield 51) 3 3 0 0 8, om_et 12 (.if_icmp .ge 27) 3 39]
def om_E42_15 : List om_E := [om_e 15 (.iload_n 2) 1, om_e 16 (.iload 4) 2, om_e 18 .ishr 1, om_ew 19 (.iconst 1) 1 (om_i (1)) 0, om_e 20 .iand 1, om_et 21 (.ifCond .eq 12) 3 33]
def om_E42_24 : List om_E := [om_e 24 (.iload_n 3) 1, om_e 25 (.aload_n 1) 1, om_e 26 (.iload 4) 2, om_e 28 .iaload 1, om_ef 29 (.invokestatic 90) 3 1 0 0 0, om_e 32 (.istore_n 3) 1]
def om_E42_33 : List om_E := [om_ec 33 (.iinc 4 1) 3 (om_i (1)), om_et 36 (.goto (-30)) 3 6]
def om_E42_39 : List om_E := [om_e 39 (.iload_n 3) 1, om_e 40 .ireturn 1]
def om_B42 : List om_Bk := [(0, [true, true, true, false, false], om_E42_0, 6), (6, [true, true, true, true, true], om_E42_6, 15), (15, [true, true, true, true, true], om_E42_15, 24), (24, [true, true, true, true, true], om_E42_24, 33), (33, [true, true, true, true, true], om_E42_33, 39), (39, [false, false, false, true, false], om_E42_39, 41)]
def om_E43_0 : List om_E := [om_ew 0 (.iconst 0) 1 (om_i (0)) 0, om_e 1 (.istore 4) 2, om_ew 3 (.iconst 0) 1 (om_i (0)) 0, om_e 4 (.istore 5) 2]
def om_E43_6 : List om_E := [om_e 6 (.iload 5) 2, om_e 8 (.aload_n 0) 1, om_ef 9 (.getfield 51) 3 3 0 0 8, om_et 12 (.if_icmp .ge 26) 3 38]
def om_E43_15 : List om_E := [om_e 15 (.aload_n 1) 1, om_e 16 (.iload 5) 2, om_e 18 .iaload 1, om_e 19 (.iload_n 3) 1, om_et 20 (.if_icmp .ne 12) 3 32]
def om_E43_23 : List om_E := [om_e 23 (.iload 4) 2, om_ew 25 (.iconst 1) 1 (om_i (1)) 0, om_e 26 (.iload 5) 2, om_e 28 .ishl 1, om_e 29 .ior 1, om_e 30 (.istore 4) 2]
def om_E43_32 : List om_E := [om_ec 32 (.iinc 5 1) 3 (om_i (1)), om_et 35 (.goto (-29)) 3 6]
def om_E43_38 : List om_E := [om_e 38 (.iload 4) 2, om_e 40 (.iload_n 2) 1, om_e 41 .iand 1, om_e 42 .ireturn 1]
def om_B43 : List om_Bk := [(0, [true, true, true, true, false, false], om_E43_0, 6), (6, [true, true, true, true, true, true], om_E43_6, 15), (15, [true, true, true, true, true, true], om_E43_15, 23), (23, [true, true, true, true, true, true], om_E43_23, 32), (32, [true, true, true, true, true, true], om_E43_32, 38), (38, [false, false, true, false, true, false], om_E43_38, 43)]
def om_E44_0 : List om_E := [om_e 0 (.iload_n 2) 1, om_et 1 (.ifCond .eq 9) 3 10]
def om_E44_4 : List om_E := [om_e 4 (.iload_n 3) 1, om_ew 5 (.bipush 8) 2 (om_i (8)) 0, om_et 7 (.if_icmp .le 5) 3 12]
def om_E44_10 : List om_E := [om_ew 10 (.iconst 0) 1 (om_i (0)) 0, om_e 11 .ireturn 1]
def om_E44_12 : List om_E := [om_e 12 (.aload_n 0) 1, om_e 13 (.aload_n 1) 1, om_e 14 (.iload_n 2) 1, om_ef 15 (.invokestatic 83) 3 0 42 3 28]
def om_E44_18 : List om_E := [om_e 18 (.istore 4) 2, om_e 20 (.iload 4) 2, om_ew 22 (.iconst 1) 1 (om_i (1)) 0, om_e 23 .iand 1, om_et 24 (.ifCond .ne 7) 3 31]
def om_E44_27 : List om_E := [om_ew 27 (.iconst 0) 1 (om_i (0)) 0, om_et 28 (.goto 4) 3 32]
def om_E44_31 : List om_E := [om_ew 31 (.iconst 1) 1 (om_i (1)) 0]
def om_E44_32 : List om_E := [om_e 32 (.istore 5) 2, om_e 34 (.aload_n 0) 1, om_e 35 (.iload 5) 2, om_e 37 (.aload_n 0) 1, om_e 38 (.aload_n 1) 1, om_e 39 (.iload_n 2) 1, om_e 40 (.iload 4) 2, om_ef 42 (.invokestatic 87) 3 0 43 4 29]
def om_E44_45 : List om_E := [om_e 45 (.iload_n 2) 1, om_ef 46 (.invokevirtual 73) 3 3 37 4 21]
def om_E44_49 : List om_E := [om_e 49 (.istore 6) 2, om_e 51 (.iload_n 2) 1, om_e 52 (.iload 6) 2, om_ew 54 (.iconst (-1)) 1 (om_i (-1)) 0, om_e 55 .ixor 1, om_e 56 .iand 1, om_e 57 (.istore 7) 2, om_e 59 (.aload_n 0) 1, om_e 60 (.aload_n 1) 1, om_e 61 (.iload 7) 2, om_e 63 (.iload_n 3) 1, om_ew 64 (.iconst 1) 1 (om_i (1)) 0, om_e 65 .iadd 1, om_ef 66 (.invokestatic 79) 3 0 44 4 27]
def om_E44_69 : List om_E := [om_e 69 (.istore 8) 2, om_e 71 (.iload 5) 2, om_et 73 (.ifCond .ne 13) 3 86]
def om_E44_76 : List om_E := [om_e 76 (.iload 7) 2, om_e 78 (.iload 8) 2, om_ew 80 (.iconst (-1)) 1 (om_i (-1)) 0, om_e 81 .ixor 1, om_e 82 .iand 1, om_et 83 (.goto 5) 3 88]
def om_E44_86 : List om_E := [om_e 86 (.iload 8) 2]
def om_E44_88 : List om_E := [om_e 88 (.istore 9) 2, om_e 90 (.iload 9) 2, om_et 92 (.ifCond .ne 14) 3 106]
def om_E44_95 : List om_E := [om_e 95 (.iload 5) 2, om_et 97 (.ifCond .ne 7) 3 104]
def om_E44_100 : List om_E := [om_e 100 (.iload_n 2) 1, om_et 101 (.goto 4) 3 105]
def om_E44_104 : List om_E := [om_ew 104 (.iconst 0) 1 (om_i (0)) 0]
def om_E44_105 : List om_E := [om_e 105 .ireturn 1]
def om_E44_106 : List om_E := [om_e 106 (.aload_n 0) 1, om_ew 107 (.iconst 1) 1 (om_i (1)) 0, om_e 108 (.iload 5) 2, om_e 110 .isub 1, om_e 111 (.iload 9) 2, om_e 113 (.iload_n 2) 1, om_ef 114 (.invokevirtual 73) 3 3 37 4 21]
def om_E44_117 : List om_E := [om_e 117 (.istore 10) 2, om_e 119 (.aload_n 0) 1, om_e 120 (.aload_n 1) 1, om_e 121 (.iload_n 2) 1, om_e 122 (.iload 10) 2, om_ew 124 (.iconst (-1)) 1 (om_i (-1)) 0, om_e 125 .ixor 1, om_e 126 .iand 1, om_e 127 (.iload_n 3) 1, om_ew 128 (.iconst 1) 1 (om_i (1)) 0, om_e 129 .iadd 1, om_ef 130 (.invokestatic 79) 3 0 44 4 27]
def om_E44_133 : List om_E := [om_e 133 (.istore 11) 2, om_e 135 (.iload 5) 2, om_et 137 (.ifCond .ne 8) 3 145]
def om_E44_140 : List om_E := [om_e 140 (.iload 11) 2, om_et 142 (.goto 8) 3 150]
def om_E44_145 : List om_E := [om_e 145 (.iload 11) 2, om_e 147 (.iload 10) 2, om_e 149 .ior 1]
def om_E44_150 : List om_E := [om_e 150 .ireturn 1]
def om_B44 : List om_Bk := [(0, [true, true, true, true, false, false, false, false, false, false, false, false], om_E44_0, 4), (4, [true, true, true, true, false, false, false, false, false, false, false, false], om_E44_4, 10), (10, [false, false, false, false, false, false, false, false, false, false, false, false], om_E44_10, 12), (12, [true, true, true, true, false, false, false, false, false, false, false, false], om_E44_12, 18), (18, [true, true, true, true, false, false, false, false, false, false, false, false], om_E44_18, 27), (27, [true, true, true, true, true, false, false, false, false, false, false, false], om_E44_27, 31), (31, [true, true, true, true, true, false, false, false, false, false, false, false], om_E44_31, 32), (32, [true, true, true, true, true, false, false, false, false, false, false, false], om_E44_32, 45), (45, [true, true, true, true, false, true, false, false, false, false, false, false], om_E44_45, 49), (49, [true, true, true, true, false, true, false, false, false, false, false, false], om_E44_49, 69), (69, [true, true, true, true, false, true, false, true, false, false, false, false], om_E44_69, 76), (76, [true, true, true, true, false, true, false, true, true, false, false, false], om_E44_76, 86), (86, [true, true, true, true, false, true, false, false, true, false, false, false], om_E44_86, 88), (88, [true, true, true, true, false, true, false, false, false, false, false, false], om_E44_88, 95), (95, [false, false, true, false, false, true, false, false, false, false, false, false], om_E44_95, 100), (100, [false, false, true, false, false, false, false, false, false, false, false, false], om_E44_100, 104), (104, [false, false, false, false, false, false, false, false, false, false, false, false], om_E44_104, 105), (105, [false, false, false, false, false, false, false, false, false, false, false, false], om_E44_105, 106), (106, [true, true, true, true, false, true, false, false, false, true, false, false], om_E44_106, 117), (117, [true, true, true, true, false, true, false, false, false, false, false, false], om_E44_117, 133), (133, [false, false, false, false, false, true, false, false, false, false, true, false], om_E44_133, 140), (140, [false, false, false, false, false, false, false, false, false, false, false, true], om_E44_140, 145), (145, [false, false, false, false, false, false, false, false, false, false, true, true], om_E44_145, 150), (150, [false, false, false, false, false, false, false, false, false, false, false, false], om_E44_150, 151)]
def om_E45_0 : List om_E := [om_e 0 (.aload_n 0) 1, om_e 1 (.aload_n 2) 1, om_e 2 (.aload_n 0) 1, om_ef 3 (.invokevirtual 69) 3 3 34 1 19]
def om_E45_6 : List om_E := [om_ew 6 (.iconst 0) 1 (om_i (0)) 0, om_ef 7 (.invokestatic 79) 3 0 44 4 27]
def om_E45_10 : List om_E := [om_e 10 (.istore_n 3) 1, om_e 11 (.iload_n 1) 1, om_et 12 (.ifCond .ne 7) 3 19]
def om_E45_15 : List om_E := [om_e 15 (.iload_n 3) 1, om_et 16 (.goto 11) 3 27]
def om_E45_19 : List om_E := [om_e 19 (.aload_n 0) 1, om_ef 20 (.invokevirtual 69) 3 3 34 1 19]
def om_E45_23 : List om_E := [om_e 23 (.iload_n 3) 1, om_ew 24 (.iconst (-1)) 1 (om_i (-1)) 0, om_e 25 .ixor 1, om_e 26 .iand 1]
def om_E45_27 : List om_E := [om_e 27 .ireturn 1]
def om_B45 : List om_Bk := [(0, [true, true, true, false], om_E45_0, 6), (6, [true, true, false, false], om_E45_6, 10), (10, [true, true, false, false], om_E45_10, 15), (15, [false, false, false, true], om_E45_15, 19), (19, [true, false, false, true], om_E45_19, 23), (23, [false, false, false, true], om_E45_23, 27), (27, [false, false, false, false], om_E45_27, 28)]
def om_E46_0 : List om_E := [om_e 0 (.aload_n 0) 1, om_ew 1 (.iconst 0) 1 (om_i (0)) 0, om_ef 2 (.putfield 33) 3 4 0 0 33, om_e 5 (.aload_n 0) 1, om_ew 6 (.iconst 0) 1 (om_i (0)) 0, om_ef 7 (.putfield 37) 3 4 6 0 39, om_e 10 (.aload_n 0) 1, om_ew 11 (.iconst 0) 1 (om_i (0)) 0, om_ef 12 (.putfield 40) 3 4 8 0 41, om_e 15 (.aload_n 0) 1, om_ew 16 (.iconst 0) 1 (om_i (0)) 0, om_ef 17 (.putfield 43) 3 4 10 0 43, om_e 20 .return_ 1]
def om_B46 : List om_Bk := [(0, [true], om_E46_0, 21)]
def om_E47_0 : List om_E := [om_e 0 (.aload_n 0) 1, om_e 1 (.aload_n 0) 1, om_ef 2 (.getfield 33) 3 4 0 0 33, om_ew 5 (.bipush 119) 2 (om_i (119)) 0, om_ef 7 (.invokestatic 46) 3 1 0 0 5, om_ef 10 (.putfield 43) 3 4 10 0 43, om_e 13 (.aload_n 0) 1, om_ef 14 (.getfield 9) 3 4 1 4 34, om_e 17 (.aload_n 0) 1, om_ef 18 (.getfield 43) 3 4 10 0 43, om_e 21 (.iload_n 1) 1, om_e 22 .iastore 1, om_e 23 (.aload_n 0) 1, om_ef 24 (.getfield 15) 3 4 2 5 35, om_e 27 (.aload_n 0) 1, om_ef 28 (.getfield 43) 3 4 10 0 43, om_e 31 (.iload_n 2) 1, om_e 32 .iastore 1, om_e 33 (.aload_n 0) 1, om_ef 34 (.getfield 18) 3 4 3 6 36, om_e 37 (.aload_n 0) 1, om_ef 38 (.getfield 43) 3 4 10 0 43, om_ew 41 (.iconst 0) 1 (om_i (0)) 0, om_e 42 .iastore 1, om_e 43 (.aload_n 0) 1, om_ef 44 (.getfield 21) 3 4 4 7 37, om_e 47 (.aload_n 0) 1, om_ef 48 (.getfield 43) 3 4 10 0 43, om_ew 51 (.iconst 0) 1 (om_i (0)) 0, om_e 52 .iastore 1, om_e 53 (.aload_n 0) 1, om_ef 54 (.getfield 24) 3 4 5 8 38, om_e 57 (.aload_n 0) 1, om_ef 58 (.getfield 43) 3 4 10 0 43, om_ew 61 (.iconst 0) 1 (om_i (0)) 0, om_e 62 .iastore 1, om_e 63 .return_ 1]
def om_B47 : List om_Bk := [(0, [true, true, true], om_E47_0, 64)]
def om_E48_0 : List om_E := [om_e 0 (.aload_n 0) 1, om_ef 1 (.getfield 37) 3 4 6 0 39, om_ew 4 (.bipush 120) 2 (om_i (120)) 0, om_et 6 (.if_icmp .ge 20) 3 26]
def om_E48_9 : List om_E := [om_e 9 (.aload_n 0) 1, om_ef 10 (.getfield 27) 3 4 7 9 40, om_e 13 (.aload_n 0) 1, om_e 14 .dup 1, om_ef 15 (.getfield 37) 3 4 6 0 39, om_e 18 .dup_x1 1, om_ew 19 (.iconst 1) 1 (om_i (1)) 0, om_e 20 .iadd 1, om_ef 21 (.putfield 37) 3 4 6 0 39, om_e 24 (.iload_n 1) 1, om_e 25 .iastore 1]
def om_E48_26 : List om_E := [om_e 26 .return_ 1]
def om_B48 : List om_Bk := [(0, [true, true], om_E48_0, 9), (9, [true, true], om_E48_9, 26), (26, [false, false], om_E48_26, 27)]
def om_E49_0 : List om_E := [om_e 0 (.aload_n 0) 1, om_ef 1 (.getfield 40) 3 4 8 0 41, om_et 4 (.ifCond .le 17) 3 21]
def om_E49_7 : List om_E := [om_e 7 (.aload_n 0) 1, om_ef 8 (.getfield 30) 3 4 9 10 42, om_e 11 (.aload_n 0) 1, om_ef 12 (.getfield 40) 3 4 8 0 41, om_ew 15 (.iconst 1) 1 (om_i (1)) 0, om_e 16 .isub 1, om_e 17 .iaload 1, om_et 18 (.goto 4) 3 22]
def om_E49_21 : List om_E := [om_ew 21 (.iconst 0) 1 (om_i (0)) 0]
def om_E49_22 : List om_E := [om_e 22 .ireturn 1]
def om_B49 : List om_Bk := [(0, [true], om_E49_0, 7), (7, [true], om_E49_7, 21), (21, [false], om_E49_21, 22), (22, [false], om_E49_22, 23)]
def om_E50_0 : List om_E := [om_e 0 (.aload_n 0) 1, om_ef 1 (.getfield 40) 3 4 8 0 41, om_e 4 (.istore_n 1) 1]
def om_E50_5 : List om_E := [om_e 5 (.iload_n 1) 1, om_et 6 (.ifCond .le 32) 3 38]
def om_E50_9 : List om_E := [om_e 9 (.aload_n 0) 1, om_ef 10 (.invokevirtual 59) 3 4 49 1 74]
def om_E50_13 : List om_E := [om_ew 13 (.iconst (-1)) 1 (om_i (-1)) 0, om_et 14 (.if_icmp .ne 24) 3 38]
def om_E50_17 : List om_E := [om_e 17 (.aload_n 0) 1, om_ew 18 (.iconst (-1)) 1 (om_i (-1)) 0, om_ef 19 (.invokevirtual 52) 3 4 48 2 75]
def om_E50_22 : List om_E := [om_e 22 (.aload_n 0) 1, om_e 23 .dup 1, om_ef 24 (.getfield 40) 3 4 8 0 41, om_ew 27 (.iconst 1) 1 (om_i (1)) 0, om_e 28 .isub 1, om_ef 29 (.putfield 40) 3 4 8 0 41, om_ec 32 (.iinc 1 (-1)) 3 (om_i (-1)), om_et 35 (.goto (-30)) 3 5]
def om_E50_38 : List om_E := [om_e 38 .return_ 1]
def om_B50 : List om_Bk := [(0, [true, false], om_E50_0, 5), (5, [true, true], om_E50_5, 9), (9, [true, true], om_E50_9, 13), (13, [true, true], om_E50_13, 17), (17, [true, true], om_E50_17, 22), (22, [true, true], om_E50_22, 38), (38, [false, false], om_E50_38, 39)]
def om_E51_0 : List om_E := [om_e 0 (.aload_n 0) 1, om_e 1 (.aload_n 0) 1, om_ef 2 (.getfield 43) 3 4 10 0 43, om_ef 5 (.invokevirtual 52) 3 4 48 2 75]
def om_E51_8 : List om_E := [om_e 8 (.aload_n 0) 1, om_e 9 (.aload_n 0) 1, om_ef 10 (.getfield 43) 3 4 10 0 43, om_ew 13 (.iconst 1) 1 (om_i (1)) 0, om_e 14 .iadd 1, om_ef 15 (.putfield 33) 3 4 0 0 33, om_e 18 (.aload_n 0) 1, om_ef 19 (.invokevirtual 56) 3 4 50 1 78]
def om_E51_22 : List om_E := [om_e 22 .return_ 1]
def om_B51 : List om_Bk := [(0, [true], om_E51_0, 8), (8, [true], om_E51_8, 22), (22, [false], om_E51_22, 23)]
def om_E52_0 : List om_E := [om_e 0 (.aload_n 0) 1, om_ef 1 (.getfield 40) 3 4 8 0 41, om_ew 4 (.bipush 120) 2 (om_i (120)) 0, om_et 6 (.if_icmp .ge 20) 3 26]
def om_E52_9 : List om_E := [om_e 9 (.aload_n 0) 1, om_ef 10 (.getfield 30) 3 4 9 10 42, om_e 13 (.aload_n 0) 1, om_e 14 .dup 1, om_ef 15 (.getfield 40) 3 4 8 0 41, om_e 18 .dup_x1 1, om_ew 19 (.iconst 1) 1 (om_i (1)) 0, om_e 20 .iadd 1, om_ef 21 (.putfield 40) 3 4 8 0 41, om_e 24 (.iload_n 1) 1, om_e 25 .iastore 1]
def om_E52_26 : List om_E := [om_e 26 .return_ 1]
def om_B52 : List om_Bk := [(0, [true, true], om_E52_0, 9), (9, [true, true], om_E52_9, 26), (26, [false, false], om_E52_26, 27)]
def om_E53_0 : List om_E := [om_e 0 (.aload_n 0) 1, om_ef 1 (.getfield 40) 3 4 8 0 41, om_e 4 (.istore_n 2) 1]
def om_E53_5 : List om_E := [om_e 5 (.iload_n 2) 1, om_et 6 (.ifCond .le 50) 3 56]
def om_E53_9 : List om_E := [om_e 9 (.aload_n 0) 1, om_ef 10 (.invokevirtual 59) 3 4 49 1 74]
def om_E53_13 : List om_E := [om_e 13 (.istore_n 3) 1, om_e 14 (.iload_n 3) 1, om_ew 15 (.bipush (-2)) 2 (om_i (-2)) 0, om_et 17 (.if_icmp .eq 18) 3 35]
def om_E53_20 : List om_E := [om_e 20 (.iload_n 3) 1, om_ew 21 (.bipush (-3)) 2 (om_i (-3)) 0, om_et 23 (.if_icmp .ne 33) 3 56]
def om_E53_26 : List om_E := [om_e 26 (.iload_n 1) 1, om_ew 27 (.bipush (-2)) 2 (om_i (-2)) 0, om_et 29 (.if_icmp .ne 6) 3 35]
def om_E53_32 : List om_E := [om_et 32 (.goto 24) 3 56]
def om_E53_35 : List om_E := [om_e 35 (.aload_n 0) 1, om_e 36 (.iload_n 3) 1, om_ef 37 (.invokevirtual 52) 3 4 48 2 75]
def om_E53_40 : List om_E := [om_e 40 (.aload_n 0) 1, om_e 41 .dup 1, om_ef 42 (.getfield 40) 3 4 8 0 41, om_ew 45 (.iconst 1) 1 (om_i (1)) 0, om_e 46 .isub 1, om_ef 47 (.putfield 40) 3 4 8 0 41, om_ec 50 (.iinc 2 (-1)) 3 (om_i (-1)), om_et 53 (.goto (-48)) 3 5]
def om_E53_56 : List om_E := [om_e 56 (.aload_n 0) 1, om_e 57 (.iload_n 1) 1, om_ef 58 (.invokevirtual 63) 3 4 52 2 76]
def om_E53_61 : List om_E := [om_e 61 .return_ 1]
def om_B53 : List om_Bk := [(0, [true, true, false, false], om_E53_0, 5), (5, [true, true, true, false], om_E53_5, 9), (9, [true, true, true, false], om_E53_9, 13), (13, [true, true, true, false], om_E53_13, 20), (20, [true, true, true, true], om_E53_20, 26), (26, [true, true, true, true], om_E53_26, 32), (32, [true, true, false, false], om_E53_32, 35), (35, [true, true, true, true], om_E53_35, 40), (40, [true, true, true, false], om_E53_40, 56), (56, [true, true, false, false], om_E53_56, 61), (61, [false, false, false, false], om_E53_61, 62)]
def om_E54_0 : List om_E := [om_e 0 (.aload_n 0) 1, om_ef 1 (.getfield 40) 3 4 8 0 41, om_e 4 (.istore_n 1) 1]
def om_E54_5 : List om_E := [om_e 5 (.iload_n 1) 1, om_et 6 (.ifCond .le 36) 3 42]
def om_E54_9 : List om_E := [om_e 9 (.aload_n 0) 1, om_ef 10 (.invokevirtual 59) 3 4 49 1 74]
def om_E54_13 : List om_E := [om_ew 13 (.bipush (-4)) 2 (om_i (-4)) 0, om_et 15 (.if_icmp .eq 27) 3 42]
def om_E54_18 : List om_E := [om_e 18 (.aload_n 0) 1, om_e 19 (.aload_n 0) 1, om_ef 20 (.invokevirtual 59) 3 4 49 1 74]
def om_E54_23 : List om_E := [om_ef 23 (.invokevirtual 52) 3 4 48 2 75]
def om_E54_26 : List om_E := [om_e 26 (.aload_n 0) 1, om_e 27 .dup 1, om_ef 28 (.getfield 40) 3 4 8 0 41, om_ew 31 (.iconst 1) 1 (om_i (1)) 0, om_e 32 .isub 1, om_ef 33 (.putfield 40) 3 4 8 0 41, om_ec 36 (.iinc 1 (-1)) 3 (om_i (-1)), om_et 39 (.goto (-34)) 3 5]
def om_E54_42 : List om_E := [om_e 42 .return_ 1]
def om_B54 : List om_Bk := [(0, [true, false], om_E54_0, 5), (5, [true, true], om_E54_5, 9), (9, [true, true], om_E54_9, 13), (13, [true, true], om_E54_13, 18), (18, [true, true], om_E54_18, 23), (23, [true, true], om_E54_23, 26), (26, [true, true], om_E54_26, 42), (42, [false, false], om_E54_42, 43)]
def om_E55_0 : List om_E := [om_e 0 (.aload_n 0) 1, om_ef 1 (.invokevirtual 66) 3 4 54 1 77]
def om_E55_4 : List om_E := [om_e 4 (.aload_n 0) 1, om_ef 5 (.getfield 40) 3 4 8 0 41, om_et 8 (.ifCond .le 13) 3 21]
def om_E55_11 : List om_E := [om_e 11 (.aload_n 0) 1, om_e 12 .dup 1, om_ef 13 (.getfield 40) 3 4 8 0 41, om_ew 16 (.iconst 1) 1 (om_i (1)) 0, om_e 17 .isub 1, om_ef 18 (.putfield 40) 3 4 8 0 41]
def om_E55_21 : List om_E := [om_e 21 (.aload_n 0) 1, om_ef 22 (.invokevirtual 56) 3 4 50 1 78]
def om_E55_25 : List om_E := [om_e 25 .return_ 1]
def om_B55 : List om_Bk := [(0, [true], om_E55_0, 4), (4, [true], om_E55_4, 11), (11, [true], om_E55_11, 21), (21, [true], om_E55_21, 25), (25, [false], om_E55_25, 26)]
def om_E56_0 : List om_E := [om_e 0 (.aload_n 0) 1, om_ef 1 (.getfield 21) 3 4 4 7 37, om_e 4 (.iload_n 1) 1, om_e 5 .iaload 1, om_e 6 (.istore 5) 2, om_e 8 (.aload_n 0) 1, om_ef 9 (.getfield 9) 3 4 1 4 34, om_e 12 (.iload_n 1) 1, om_e 13 .iaload 1, om_es 14 (.tableswitch 182 11 16 #[38, 72, 102, 138, 182, 159]) 38 196 [((11), 52), ((12), 86), ((13), 116), ((14), 152), ((15), 196), ((16), 173)]]
def om_E56_52 : List om_E := [om_e 52 (.aload_n 2) 1, om_e 53 (.aload_n 0) 1, om_ef 54 (.getfield 15) 3 4 2 5 35, om_e 57 (.iload_n 1) 1, om_e 58 .iaload 1, om_e 59 (.aload_n 0) 1, om_ef 60 (.getfield 18) 3 4 3 6 36, om_e 63 (.iload_n 1) 1, om_e 64 .iaload 1, om_e 65 (.aload_n 2) 1, om_ef 66 (.invokevirtual 86) 3 3 34 1 10034]
def om_E56_69 : List om_E := [om_ef 69 (.invokevirtual 89) 3 3 37 4 10035]
def om_E56_72 : List om_E := [om_e 72 (.iload 5) 2, om_e 74 .ishr 1, om_ew 75 (.iconst 1) 1 (om_i (1)) 0, om_e 76 .iand 1, om_et 77 (.ifCond .eq 7) 3 84]
def om_E56_80 : List om_E := [om_ew 80 (.iconst 1) 1 (om_i (1)) 0, om_et 81 (.goto 4) 3 85]
def om_E56_84 : List om_E := [om_ew 84 (.iconst 0) 1 (om_i (0)) 0]
def om_E56_85 : List om_E := [om_e 85 .ireturn 1]
def om_E56_86 : List om_E := [om_e 86 (.aload_n 2) 1, om_e 87 (.aload_n 0) 1, om_ef 88 (.getfield 15) 3 4 2 5 35, om_e 91 (.iload_n 1) 1, om_e 92 .iaload 1, om_e 93 (.aload_n 0) 1, om_ef 94 (.getfield 18) 3 4 3 6 36, om_e 97 (.iload_n 1) 1, om_e 98 .iaload 1, om_ef 99 (.invokevirtual 93) 3 3 39 3 10036]
def om_E56_102 : List om_E := [om_e 102 (.iload 5) 2, om_e 104 .ishr 1, om_ew 105 (.iconst 1) 1 (om_i (1)) 0, om_e 106 .iand 1, om_et 107 (.ifCond .eq 7) 3 114]
def om_E56_110 : List om_E := [om_ew 110 (.iconst 1) 1 (om_i (1)) 0, om_et 111 (.goto 4) 3 115]
def om_E56_114 : List om_E := [om_ew 114 (.iconst 0) 1 (om_i (0)) 0]
def om_E56_115 : List om_E := [om_e 115 .ireturn 1]
def om_E56_116 : List om_E := [om_e 116 (.aload_n 2) 1, om_e 117 (.aload_n 0) 1, om_ef 118 (.getfield 15) 3 4 2 5 35, om_e 121 (.iload_n 1) 1, om_e 122 .iaload 1, om_e 123 (.aload_n 0) 1, om_ef 124 (.getfield 18) 3 4 3 6 36, om_e 127 (.iload_n 1) 1, om_e 128 .iaload 1, om_e 129 (.aload_n 0) 1, om_ef 130 (.getfield 18) 3 4 3 6 36, om_e 133 (.iload_n 1) 1, om_e 134 .iaload 1, om_ef 135 (.invokevirtual 96) 3 3 41 4 10037]
def om_E56_138 : List om_E := [om_e 138 (.iload 5) 2, om_e 140 .ishr 1, om_ew 141 (.iconst 1) 1 (om_i (1)) 0, om_e 142 .iand 1, om_et 143 (.ifCond .eq 7) 3 150]
def om_E56_146 : List om_E := [om_ew 146 (.iconst 1) 1 (om_i (1)) 0, om_et 147 (.goto 4) 3 151]
def om_E56_150 : List om_E := [om_ew 150 (.iconst 0) 1 (om_i (0)) 0]
def om_E56_151 : List om_E := [om_e 151 .ireturn 1]
def om_E56_152 : List om_E := [om_e 152 (.aload_n 2) 1, om_ew 153 (.iconst 0) 1 (om_i (0)) 0, om_e 154 (.aload 4) 2, om_ef 156 (.invokevirtual 99) 3 3 45 3 10038]
def om_E56_159 : List om_E := [om_e 159 (.iload 5) 2, om_e 161 .ishr 1, om_ew 162 (.iconst 1) 1 (om_i (1)) 0, om_e 163 .iand 1, om_et 164 (.ifCond .eq 7) 3 171]
def om_E56_167 : List om_E := [om_ew 167 (.iconst 1) 1 (om_i (1)) 0, om_et 168 (.goto 4) 3 172]
def om_E56_171 : List om_E := [om_ew 171 (.iconst 0) 1 (om_i (0)) 0]
def om_E56_172 : List om_E := [om_e 172 .ireturn 1]
def om_E56_173 : List om_E := [om_e 173 (.aload_n 3) 1, om_e 174 (.aload_n 2) 1, om_ew 175 (.iconst 1) 1 (om_i (1)) 0, om_e 176 (.aload_n 0) 1, om_ef 177 (.getfield 24) 3 4 5 8 38, om_e 180 (.iload_n 1) 1, om_e 181 .iaload 1, om_e 182 (.iload 5) 2, om_ef 184 (.invokevirtual 103) 3 2 26 5 10039]
def om_E56_187 : List om_E := [om_et 187 (.ifCond .ne 7) 3 194]
def om_E56_190 : List om_E := [om_ew 190 (.iconst 1) 1 (om_i (1)) 0, om_et 191 (.goto 4) 3 195]
def om_E56_194 : List om_E := [om_ew 194 (.iconst 0) 1 (om_i (0)) 0]
def om_E56_195 : List om_E := [om_e 195 .ireturn 1]
def om_E56_196 : List om_E := [om_e 196 (.aload_n 3) 1, om_e 197 (.aload_n 2) 1, om_ew 198 (.iconst 0) 1 (om_i (0)) 0, om_e 199 (.aload_n 0) 1, om_ef 200 (.getfield 24) 3 4 5 8 38, om_e 203 (.iload_n 1) 1, om_e 204 .iaload 1, om_e 205 (.iload 5) 2, om_ef 207 (.invokevirtual 103) 3 2 26 5 10039]
def om_E56_210 : List om_E := [om_et 210 (.ifCond .ne 7) 3 217]
def om_E56_213 : List om_E := [om_ew 213 (.iconst 1) 1 (om_i (1)) 0, om_et 214 (.goto 4) 3 218]
def om_E56_217 : List om_E := [om_ew 217 (.iconst 0) 1 (om_i (0)) 0]
def om_E56_218 : List om_E := [om_e 218 .ireturn 1]
def om_B56 : List om_Bk := [(0, [true, true, true, true, true, false], om_E56_0, 52), (52, [true, true, true, false, false, true], om_E56_52, 69), (69, [false, false, false, false, false, true], om_E56_69, 72), (72, [false, false, false, false, false, true], om_E56_72, 80), (80, [false, false, false, false, false, false], om_E56_80, 84), (84, [false, false, false, false, false, false], om_E56_84, 85), (85, [false, false, false, false, false, false], om_E56_85, 86), (86, [true, true, true, false, false, true], om_E56_86, 102), (102, [false, false, false, false, false, true], om_E56_102, 110), (110, [false, false, false, false, false, false], om_E56_110, 114), (114, [false, false, false, false, false, false], om_E56_114, 115), (115, [false, false, false, false, false, false], om_E56_115, 116), (116, [true, true, true, false, false, true], om_E56_116, 138), (138, [false, false, false, false, false, true], om_E56_138, 146), (146, [false, false, false, false, false, false], om_E56_146, 150), (150, [false, false, false, false, false, false], om_E56_150, 151), (151, [false, false, false, false, false, false], om_E56_151, 152), (152, [false, false, true, false, true, true], om_E56_152, 159), (159, [false, false, false, false, false, true], om_E56_159, 167), (167, [false, false, false, false, false, false], om_E56_167, 171), (171, [false, false, false, false, false, false], om_E56_171, 172), (172, [false, false, false, false, false, false], om_E56_172, 173), (173, [true, true, true, true, false, true], om_E56_173, 187), (187, [false, false, false, false, false, false], om_E56_187, 190), (190, [false, false, false, false, false, false], om_E56_190, 194), (194, [false, false, false, false, false, false], om_E56_194, 195), (195, [false, false, false, false, false, false], om_E56_195, 196), (196, [true, true, true, true, false, true], om_E56_196, 210), (210, [false, false, false, false, false, false], om_E56_210, 213), (213, [false, false, false, false, false, false], om_E56_213, 217), (217, [false, false, false, false, false, false], om_E56_217, 218), (218, [false, false, false, false, false, false], om_E56_218, 219)]
def om_E57_0 : List om_E := [om_e 0 (.aload_n 2) 1, om_e 1 (.aload_n 1) 1, om_e 2 (.iload 4) 2, om_e 4 (.iload 5) 2, om_ef 6 (.invokevirtual 69) 3 3 31 4 10033]
def om_E57_9 : List om_E := [om_ew 9 (.lconst 0) 1 (om_l (0)) 0, om_e 10 (.lstore 6) 2, om_ew 12 (.iconst 0) 1 (om_i (0)) 0, om_e 13 (.istore 8) 2]
def om_E57_15 : List om_E := [om_e 15 (.iload 8) 2, om_e 17 (.aload_n 0) 1, om_ef 18 (.getfield 37) 3 4 6 0 39, om_et 21 (.if_icmp .ge 109) 3 130]
def om_E57_24 : List om_E := [om_e 24 (.aload_n 0) 1, om_ef 25 (.getfield 27) 3 4 7 9 40, om_e 28 (.iload 8) 2, om_e 30 .iaload 1, om_e 31 (.istore 9) 2, om_e 33 (.iload 9) 2, om_et 35 (.ifCond .lt 34) 3 69]
def om_E57_38 : List om_E := [om_e 38 (.lload 6) 2, om_ew 40 (.iconst 1) 1 (om_i (1)) 0, om_e 41 .lshl 1, om_e 42 (.aload_n 0) 1, om_e 43 (.iload 9) 2, om_e 45 (.aload_n 2) 1, om_e 46 (.aload_n 3) 1, om_e 47 (.aload_n 1) 1, om_ef 48 (.getfield 75) 3 0 3 4 10007, om_ef 51 (.invokevirtual 80) 3 4 56 5 87]
def om_E57_54 : List om_E := [om_et 54 (.ifCond .eq 7) 3 61]
def om_E57_57 : List om_E := [om_ew 57 (.iconst 1) 1 (om_i (1)) 0, om_et 58 (.goto 4) 3 62]
def om_E57_61 : List om_E := [om_ew 61 (.iconst 0) 1 (om_i (0)) 0]
def om_E57_62 : List om_E := [om_e 62 .i2l 1, om_e 63 .lor 1, om_e 64 (.lstore 6) 2, om_et 66 (.goto 58) 3 124]
def om_E57_69 : List om_E := [om_e 69 (.iload 9) 2, om_ew 71 (.iconst (-1)) 1 (om_i (-1)) 0, om_et 72 (.if_icmp .ne 12) 3 84]
def om_E57_75 : List om_E := [om_e 75 (.lload 6) 2, om_ew 77 (.lconst 1) 1 (om_l (1)) 0, om_e 78 .lxor 1, om_e 79 (.lstore 6) 2, om_et 81 (.goto 43) 3 124]
def om_E57_84 : List om_E := [om_e 84 (.lload 6) 2, om_ew 86 (.lconst 1) 1 (om_l (1)) 0, om_e 87 .land 1, om_e 88 (.lstore 10) 2, om_e 90 (.lload 6) 2, om_ew 92 (.iconst 1) 1 (om_i (1)) 0, om_e 93 .lshr 1, om_e 94 (.lstore 6) 2, om_e 96 (.iload 9) 2, om_ew 98 (.bipush (-2)) 2 (om_i (-2)) 0, om_et 100 (.if_icmp .ne 17) 3 117]
def om_E57_103 : List om_E := [om_e 103 (.lload 6) 2, om_e 105 (.lload 10) 2, om_ew 107 (.ldc2_w 84) 3 (om_l (-2)) 1, om_e 110 .lor 1, om_e 111 .land 1, om_e 112 (.lstore 6) 2, om_et 114 (.goto 10) 3 124]
def om_E57_117 : List om_E := [om_e 117 (.lload 6) 2, om_e 119 (.lload 10) 2, om_e 121 .lor 1, om_e 122 (.lstore 6) 2]
def om_E57_124 : List om_E := [om_ec 124 (.iinc 8 1) 3 (om_i (1)), om_et 127 (.goto (-112)) 3 15]
def om_E57_130 : List om_E := [om_e 130 (.lload 6) 2, om_ew 132 (.lconst 1) 1 (om_l (1)) 0, om_e 133 .land 1, om_ew 134 (.lconst 0) 1 (om_l (0)) 0, om_e 135 .lcmp 1, om_et 136 (.ifCond .eq 7) 3 143]
def om_E57_139 : List om_E := [om_ew 139 (.iconst 1) 1 (om_i (1)) 0, om_et 140 (.goto 4) 3 144]
def om_E57_143 : List om_E := [om_ew 143 (.iconst 0) 1 (om_i (0)) 0]
def om_E57_144 : List om_E := [om_e 144 .ireturn 1]
def om_B57 : List om_Bk := [(0, [true, true, true, true, true, true, false, false, false, false, false, false], om_E57_0, 9), (9, [true, true, true, true, false, false, false, false, false, false, false, false], om_E57_9, 15), (15, [true, true, true, true, false, false, true, false, true, false, false, false], om_E57_15, 24), (24, [true, true, true, true, false, false, true, false, true, false, false, false], om_E57_24, 38), (38, [true, true, true, true, false, false, true, false, true, true, false, false], om_E57_38, 54), (54, [true, true, true, true, false, false, false, false, true, false, false, false], om_E57_54, 57), (57, [true, true, true, true, false, false, false, false, true, false, false, false], om_E57_57, 61), (61, [true, true, true, true, false, false, false, false, true, false, false, false], om_E57_61, 62), (62, [true, true, true, true, false, false, false, false, true, false, false, false], om_E57_62, 69), (69, [true, true, true, true, false, false, true, false, true, true, false, false], om_E57_69, 75), (75, [true, true, true, true, false, false, true, false, true, false, false, false], om_E57_75, 84), (84, [true, true, true, true, false, false, true, false, true, true, false, false], om_E57_84, 103), (103, [true, true, true, true, false, false, true, false, true, false, true, false], om_E57_103, 117), (117, [true, true, true, true, false, false, true, false, true, false, true, false], om_E57_117, 124), (124, [true, true, true, true, false, false, true, false, true, false, false, false], om_E57_124, 130), (130, [false, false, false, false, false, false, true, false, false, false, false, false], om_E57_130, 139), (139, [false, false, false, false, false, false, false, false, false, false, false, false], om_E57_139, 143), (143, [false, false, false, false, false, false, false, false, false, false, false, false], om_E57_143, 144), (144, [false, false, false, false, false, false, false, false, false, false, false, false], om_E57_144, 145)]
def om_E58_0 : List om_E := [om_e 0 (.aload_n 0) 1, om_ef 1 (.getfield 15) 3 5 0 0 25, om_ew 4 (.bipush 120) 2 (om_i (120)) 0, om_et 6 (.if_icmp .ge 20) 3 26]
def om_E58_9 : List om_E := [om_e 9 (.aload_n 0) 1, om_ef 10 (.getfield 9) 3 5 1 4 26, om_e 13 (.aload_n 0) 1, om_e 14 .dup 1, om_ef 15 (.getfield 15) 3 5 0 0 25, om_e 18 .dup_x1 1, om_ew 19 (.iconst 1) 1 (om_i (1)) 0, om_e 20 .iadd 1, om_ef 21 (.putfield 15) 3 5 0 0 25, om_e 24 (.iload_n 1) 1, om_e 25 .iastore 1]
def om_E58_26 : List om_E := [om_e 26 .return_ 1]
def om_B58 : List om_Bk := [(0, [true, true], om_E58_0, 9), (9, [true, true], om_E58_9, 26), (26, [false, false], om_E58_26, 27)]
def om_E59_0 : List om_E := [om_e 0 (.iload_n 0) 1, om_ew 1 (.bipush 97) 2 (om_i (97)) 0, om_et 3 (.if_icmp .lt 13) 3 16]
def om_E59_6 : List om_E := [om_e 6 (.iload_n 0) 1, om_ew 7 (.bipush 122) 2 (om_i (122)) 0, om_et 9 (.if_icmp .gt 7) 3 16]
def om_E59_12 : List om_E := [om_ew 12 (.iconst 1) 1 (om_i (1)) 0, om_et 13 (.goto 4) 3 17]
def om_E59_16 : List om_E := [om_ew 16 (.iconst 0) 1 (om_i (0)) 0]
def om_E59_17 : List om_E := [om_e 17 .ireturn 1]
def om_B59 : List om_Bk := [(0, [true], om_E59_0, 6), (6, [true], om_E59_6, 12), (12, [false], om_E59_12, 16), (16, [false], om_E59_16, 17), (17, [false], om_E59_17, 18)]
def om_E60_0 : List om_E := [om_ew 0 (.getstatic 38) 3 (om_i 1) 0, om_et 3 (.ifCond .eq 10) 3 13]
def om_E60_6 : List om_E := [om_e 6 (.aload_n 0) 1, om_ef 7 (.getfield 15) 3 99 0 3 0, om_et 10 (.goto 4) 3 14]
def om_E60_13 : List om_E := [om_ew 13 (.iconst 1) 1 (om_i (1)) 0]
def om_E60_14 : List om_E := [om_e 14 .ireturn 1]
def om_B60 : List om_Bk := [(0, [true], om_E60_0, 6), (6, [true], om_E60_6, 13), (13, [false], om_E60_13, 14), (14, [false], om_E60_14, 15)]
def om_E61_0 : List om_E := [om_e 0 (.aload_n 0) 1, om_ef 1 (.getfield 9) 3 99 0 2 0, om_e 4 .arraylength 1, om_e 5 (.aload_n 0) 1, om_ef 6 (.invokevirtual 335) 3 99 60 1 63]
def om_E61_9 : List om_E := [om_e 9 .ishr 1, om_e 10 .ireturn 1]
def om_B61 : List om_Bk := [(0, [true], om_E61_0, 9), (9, [false], om_E61_9, 11)]
def om_E62_0 : List om_E := [om_ew 0 (.getstatic 38) 3 (om_i 1) 0, om_et 3 (.ifCond .eq 14) 3 17]
def om_E62_6 : List om_E := [om_e 6 (.aload_n 0) 1, om_ef 7 (.getfield 15) 3 99 0 3 0, om_et 10 (.ifCond .ne 7) 3 17]
def om_E62_13 : List om_E := [om_ew 13 (.iconst 1) 1 (om_i (1)) 0, om_et 14 (.goto 4) 3 18]
def om_E62_17 : List om_E := [om_ew 17 (.iconst 0) 1 (om_i (0)) 0]
def om_E62_18 : List om_E := [om_e 18 .ireturn 1]
def om_B62 : List om_Bk := [(0, [true], om_E62_0, 6), (6, [true], om_E62_6, 13), (13, [false], om_E62_13, 17), (17, [false], om_E62_17, 18), (18, [false], om_E62_18, 19)]
def om_E63_0 : List om_E := [om_e 0 (.iload_n 0) 1, om_et 1 (.ifCond .lt 8) 3 9]
def om_E63_4 : List om_E := [om_e 4 (.iload_n 0) 1, om_e 5 (.iload_n 1) 1, om_et 6 (.if_icmp .lt 10) 3 16]
def om_E63_16 : List om_E := [om_e 16 (.iload_n 0) 1, om_e 17 .ireturn 1]
def om_B63 : List om_Bk := [(0, [true, true, true], om_E63_0, 4), (4, [true, true, true], om_E63_4, 9), (16, [true, false, false], om_E63_16, 18)]
def om_E64_0 : List om_E := [om_e 0 (.iload_n 0) 1, om_e 1 (.iload_n 1) 1, om_ew 2 (.getstatic 1053) 3 (om_r 3000) 0, om_ef 5 (.invokestatic 1059) 3 0 63 3 68]
def om_E64_8 : List om_E := [om_e 8 .pop 1, om_e 9 .return_ 1]
def om_B64 : List om_Bk := [(0, [true, true], om_E64_0, 8), (8, [false, false], om_E64_8, 10)]
def om_E65_0 : List om_E := [om_e 0 (.iload_n 1) 1, om_e 1 (.aload_n 0) 1, om_e 2 .arraylength 1, om_ef 3 (.invokestatic 9) 3 0 64 2 67]
def om_E65_6 : List om_E := [om_e 6 (.aload_n 0) 1, om_e 7 (.iload_n 1) 1, om_e 8 .baload 1, om_ew 9 (.sipush 255) 3 (om_i (255)) 0, om_e 12 .iand 1, om_e 13 .i2c 1, om_e 14 .ireturn 1]
def om_B65 : List om_Bk := [(0, [true, true], om_E65_0, 6), (6, [true, true], om_E65_6, 15)]
def om_E66_0 : List om_E := [om_e 0 (.aload_n 0) 1, om_ef 1 (.invokevirtual 492) 3 99 62 1 65]
def om_E66_4 : List om_E := [om_et 4 (.ifCond .eq 12) 3 16]
def om_E66_7 : List om_E := [om_e 7 (.aload_n 0) 1, om_ef 8 (.getfield 9) 3 99 0 2 0, om_e 11 (.iload_n 1) 1, om_ef 12 (.invokestatic 495) 3 0 65 2 66]
def om_E66_15 : List om_E := [om_e 15 .ireturn 1]
def om_B66 : List om_Bk := [(0, [true, true], om_E66_0, 4), (4, [true, true], om_E66_4, 7), (7, [true, true], om_E66_7, 15), (15, [false, false], om_E66_15, 16)]
def om_E67_0 : List om_E := [om_e 0 (.aload_n 1) 1, om_ef 1 (.invokevirtual 157) 3 99 61 1 62]
def om_E67_4 : List om_E := [om_e 4 (.aload_n 0) 1, om_ef 5 (.getfield 28) 3 5 2 0 27, om_e 8 (.aload_n 0) 1, om_ef 9 (.getfield 44) 3 5 3 0 28, om_e 12 .isub 1, om_et 13 (.if_icmp .eq 5) 3 18]
def om_E67_16 : List om_E := [om_ew 16 (.iconst 0) 1 (om_i (0)) 0, om_e 17 .ireturn 1]
def om_E67_18 : List om_E := [om_ew 18 (.iconst 0) 1 (om_i (0)) 0, om_e 19 (.istore_n 2) 1]
def om_E67_20 : List om_E := [om_e 20 (.iload_n 2) 1, om_e 21 (.aload_n 1) 1, om_ef 22 (.invokevirtual 157) 3 99 61 1 62]
def om_E67_25 : List om_E := [om_et 25 (.if_icmp .ge 30) 3 55]
def om_E67_28 : List om_E := [om_e 28 (.aload_n 0) 1, om_ef 29 (.getfield 9) 3 5 1 4 26, om_e 32 (.aload_n 0) 1, om_ef 33 (.getfield 44) 3 5 3 0 28, om_e 36 (.iload_n 2) 1, om_e 37 .iadd 1, om_e 38 .iaload 1, om_e 39 (.aload_n 1) 1, om_e 40 (.iload_n 2) 1, om_ef 41 (.invokevirtual 161) 3 99 66 2 64]
def om_E67_44 : List om_E := [om_et 44 (.if_icmp .eq 5) 3 49]
def om_E67_47 : List om_E := [om_ew 47 (.iconst 0) 1 (om_i (0)) 0, om_e 48 .ireturn 1]
def om_E67_49 : List om_E := [om_ec 49 (.iinc 2 1) 3 (om_i (1)), om_et 52 (.goto (-32)) 3 20]
def om_E67_55 : List om_E := [om_ew 55 (.iconst 1) 1 (om_i (1)) 0, om_e 56 .ireturn 1]
def om_B67 : List om_Bk := [(0, [true, true, false], om_E67_0, 4), (4, [true, true, false], om_E67_4, 16), (16, [false, false, false], om_E67_16, 18), (18, [true, true, false], om_E67_18, 20), (20, [true, true, true], om_E67_20, 25), (25, [true, true, true], om_E67_25, 28), (28, [true, true, true], om_E67_28, 44), (44, [true, true, true], om_E67_44, 47), (47, [false, false, false], om_E67_47, 49), (49, [true, true, true], om_E67_49, 55), (55, [false, false, false], om_E67_55, 57)]
def om_E68_0 : List om_E := [om_e 0 (.aload_n 0) 1, om_ew 1 (.ldc 127) 2 (om_r 1000) 0, om_ef 3 (.invokevirtual 129) 3 5 67 2 61]
def om_E68_6 : List om_E := [om_et 6 (.ifCond .eq 5) 3 11]
def om_E68_9 : List om_E := [om_ew 9 (.iconst 5) 1 (om_i (5)) 0, om_e 10 .ireturn 1]
def om_E68_11 : List om_E := [om_e 11 (.aload_n 0) 1, om_ew 12 (.ldc 133) 2 (om_r 1001) 1, om_ef 14 (.invokevirtual 129) 3 5 67 2 61]
def om_E68_17 : List om_E := [om_et 17 (.ifCond .eq 6) 3 23]
def om_E68_20 : List om_E := [om_ew 20 (.bipush 6) 2 (om_i (6)) 0, om_e 22 .ireturn 1]
def om_E68_23 : List om_E := [om_e 23 (.aload_n 0) 1, om_ew 24 (.ldc 135) 2 (om_r 1002) 2, om_ef 26 (.invokevirtual 129) 3 5 67 2 61]
def om_E68_29 : List om_E := [om_et 29 (.ifCond .eq 6) 3 35]
def om_E68_32 : List om_E := [om_ew 32 (.bipush 7) 2 (om_i (7)) 0, om_e 34 .ireturn 1]
def om_E68_35 : List om_E := [om_e 35 (.aload_n 0) 1, om_ew 36 (.ldc 137) 2 (om_r 1003) 3, om_ef 38 (.invokevirtual 129) 3 5 67 2 61]
def om_E68_41 : List om_E := [om_et 41 (.ifCond .eq 6) 3 47]
def om_E68_44 : List om_E := [om_ew 44 (.bipush 8) 2 (om_i (8)) 0, om_e 46 .ireturn 1]
def om_E68_47 : List om_E := [om_e 47 (.aload_n 0) 1, om_ew 48 (.ldc 139) 2 (om_r 1004) 4, om_ef 50 (.invokevirtual 129) 3 5 67 2 61]
def om_E68_53 : List om_E := [om_et 53 (.ifCond .eq 6) 3 59]
def om_E68_56 : List om_E := [om_ew 56 (.bipush 9) 2 (om_i (9)) 0, om_e 58 .ireturn 1]
def om_E68_59 : List om_E := [om_e 59 (.aload_n 0) 1, om_ew 60 (.ldc 141) 2 (om_r 1005) 5, om_ef 62 (.invokevirtual 129) 3 5 67 2 61]
def om_E68_65 : List om_E := [om_et 65 (.ifCond .eq 6) 3 71]
def om_E68_68 : List om_E := [om_ew 68 (.bipush 10) 2 (om_i (10)) 0, om_e 70 .ireturn 1]
def om_E68_71 : List om_E := [om_e 71 (.aload_n 0) 1, om_ew 72 (.ldc 143) 2 (om_r 1006) 6, om_ef 74 (.invokevirtual 129) 3 5 67 2 61]
def om_E68_77 : List om_E := [om_et 77 (.ifCond .eq 6) 3 83]
def om_E68_80 : List om_E := [om_ew 80 (.bipush 11) 2 (om_i (11)) 0, om_e 82 .ireturn 1]
def om_E68_83 : List om_E := [om_e 83 (.aload_n 0) 1, om_ew 84 (.ldc 145) 2 (om_r 1007) 7, om_ef 86 (.invokevirtual 129) 3 5 67 2 61]
def om_E68_89 : List om_E := [om_et 89 (.ifCond .eq 6) 3 95]
def om_E68_92 : List om_E := [om_ew 92 (.bipush 12) 2 (om_i (12)) 0, om_e 94 .ireturn 1]
def om_E68_95 : List om_E := [om_e 95 (.aload_n 0) 1, om_ew 96 (.ldc 147) 2 (om_r 1008) 8, om_ef 98 (.invokevirtual 129) 3 5 67 2 61]
def om_E68_101 : List om_E := [om_et 101 (.ifCond .eq 6) 3 107]
def om_E68_104 : List om_E := [om_ew 104 (.bipush 13) 2 (om_i (13)) 0, om_e 106 .ireturn 1]
def om_E68_107 : List om_E := [om_e 107 (.aload_n 0) 1, om_ew 108 (.ldc 149) 2 (om_r 1009) 9, om_ef 110 (.invokevirtual 129) 3 5 67 2 61]
def om_E68_113 : List om_E := [om_et 113 (.ifCond .eq 6) 3 119]
def om_E68_116 : List om_E := [om_ew 116 (.bipush 14) 2 (om_i (14)) 0, om_e 118 .ireturn 1]
def om_E68_119 : List om_E := [om_e 119 (.aload_n 0) 1, om_ew 120 (.ldc 151) 2 (om_r 1010) 10, om_ef 122 (.invokevirtual 129) 3 5 67 2 61]
def om_E68_125 : List om_E := [om_et 125 (.ifCond .eq 6) 3 131]
def om_E68_128 : List om_E := [om_ew 128 (.bipush 15) 2 (om_i (15)) 0, om_e 130 .ireturn 1]
def om_E68_131 : List om_E := [om_e 131 (.aload_n 0) 1, om_ew 132 (.ldc 153) 2 (om_r 1011) 11, om_ef 134 (.invokevirtual 129) 3 5 67 2 61]
def om_E68_137 : List om_E := [om_et 137 (.ifCond .eq 6) 3 143]
def om_E68_140 : List om_E := [om_ew 140 (.bipush 16) 2 (om_i (16)) 0, om_e 142 .ireturn 1]
def om_E68_143 : List om_E := [om_e 143 (.aload_n 0) 1, om_ew 144 (.ldc 155) 2 (om_r 1012) 12, om_ef 146 (.invokevirtual 129) 3 5 67 2 61]
def om_E68_149 : List om_E := [om_et 149 (.ifCond .eq 6) 3 155]
def om_E68_152 : List om_E := [om_ew 152 (.bipush 17) 2 (om_i (17)) 0, om_e 154 .ireturn 1]
def om_E68_155 : List om_E := [om_ew 155 (.iconst 4) 1 (om_i (4)) 0, om_e 156 .ireturn 1]
def om_B68 : List om_Bk := [(0, [true], om_E68_0, 6), (6, [true], om_E68_6, 9), (9, [false], om_E68_9, 11), (11, [true], om_E68_11, 17), (17, [true], om_E68_17, 20), (20, [false], om_E68_20, 23), (23, [true], om_E68_23, 29), (29, [true], om_E68_29, 32), (32, [false], om_E68_32, 35), (35, [true], om_E68_35, 41), (41, [true], om_E68_41, 44), (44, [false], om_E68_44, 47), (47, [true], om_E68_47, 53), (53, [true], om_E68_53, 56), (56, [false], om_E68_56, 59), (59, [true], om_E68_59, 65), (65, [true], om_E68_65, 68), (68, [false], om_E68_68, 71), (71, [true], om_E68_71, 77), (77, [true], om_E68_77, 80), (80, [false], om_E68_80, 83), (83, [true], om_E68_83, 89), (89, [true], om_E68_89, 92), (92, [false], om_E68_92, 95), (95, [true], om_E68_95, 101), (101, [true], om_E68_101, 104), (104, [false], om_E68_104, 107), (107, [true], om_E68_107, 113), (113, [true], om_E68_113, 116), (116, [false], om_E68_116, 119), (119, [true], om_E68_119, 125), (125, [true], om_E68_125, 128), (128, [false], om_E68_128, 131), (131, [true], om_E68_131, 137), (137, [true], om_E68_137, 140), (140, [false], om_E68_140, 143), (143, [true], om_E68_143, 149), (149, [false], om_E68_149, 152), (152, [false], om_E68_152, 155), (155, [false], om_E68_155, 157)]
def om_E69_0 : List om_E := [om_e 0 (.iload_n 0) 1, om_ew 1 (.bipush 48) 2 (om_i (48)) 0, om_et 3 (.if_icmp .lt 13) 3 16]
def om_E69_6 : List om_E := [om_e 6 (.iload_n 0) 1, om_ew 7 (.bipush 57) 2 (om_i (57)) 0, om_et 9 (.if_icmp .gt 7) 3 16]
def om_E69_12 : List om_E := [om_ew 12 (.iconst 1) 1 (om_i (1)) 0, om_et 13 (.goto 4) 3 17]
def om_E69_16 : List om_E := [om_ew 16 (.iconst 0) 1 (om_i (0)) 0]
def om_E69_17 : List om_E := [om_e 17 .ireturn 1]
def om_B69 : List om_Bk := [(0, [true], om_E69_0, 6), (6, [true], om_E69_6, 12), (12, [false], om_E69_12, 16), (16, [false], om_E69_16, 17), (17, [false], om_E69_17, 18)]
def om_E70_0 : List om_E := [om_e 0 (.aload_n 0) 1, om_ef 1 (.getfield 28) 3 5 2 0 27, om_e 4 (.aload_n 0) 1, om_ef 5 (.getfield 44) 3 5 3 0 28, om_e 8 .isub 1, om_ew 9 (.iconst 2) 1 (om_i (2)) 0, om_et 10 (.if_icmp .le 5) 3 15]
def om_E70_13 : List om_E := [om_ew 13 (.iconst (-1)) 1 (om_i (-1)) 0, om_e 14 .ireturn 1]
def om_E70_15 : List om_E := [om_ew 15 (.iconst 0) 1 (om_i (0)) 0, om_e 16 (.istore_n 1) 1, om_e 17 (.aload_n 0) 1, om_ef 18 (.getfield 44) 3 5 3 0 28, om_e 21 (.istore_n 2) 1]
def om_E70_22 : List om_E := [om_e 22 (.iload_n 2) 1, om_e 23 (.aload_n 0) 1, om_ef 24 (.getfield 28) 3 5 2 0 27, om_et 27 (.if_icmp .ge 24) 3 51]
def om_E70_30 : List om_E := [om_e 30 (.iload_n 1) 1, om_ew 31 (.bipush 10) 2 (om_i (10)) 0, om_e 33 .imul 1, om_e 34 (.aload_n 0) 1, om_ef 35 (.getfield 9) 3 5 1 4 26, om_e 38 (.iload_n 2) 1, om_e 39 .iaload 1, om_e 40 .iadd 1, om_ew 41 (.bipush 48) 2 (om_i (48)) 0, om_e 43 .isub 1, om_e 44 (.istore_n 1) 1, om_ec 45 (.iinc 2 1) 3 (om_i (1)), om_et 48 (.goto (-26)) 3 22]
def om_E70_51 : List om_E := [om_e 51 (.iload_n 1) 1, om_e 52 .ireturn 1]
def om_B70 : List om_Bk := [(0, [true, false, false], om_E70_0, 13), (13, [false, false, false], om_E70_13, 15), (15, [true, false, false], om_E70_15, 22), (22, [true, true, true], om_E70_22, 30), (30, [true, true, true], om_E70_30, 51), (51, [false, true, false], om_E70_51, 53)]
def om_E71_0 : List om_E := [om_e 0 (.aload_n 0) 1, om_ef 1 (.getfield 28) 3 5 2 0 27, om_e 4 (.aload_n 0) 1, om_ef 5 (.getfield 15) 3 5 0 0 25, om_et 8 (.if_icmp .ge 30) 3 38]
def om_E71_11 : List om_E := [om_e 11 (.aload_n 0) 1, om_ef 12 (.getfield 9) 3 5 1 4 26, om_e 15 (.aload_n 0) 1, om_ef 16 (.getfield 28) 3 5 2 0 27, om_e 19 .iaload 1, om_ew 20 (.bipush 32) 2 (om_i (32)) 0, om_et 22 (.if_icmp .ne 16) 3 38]
def om_E71_25 : List om_E := [om_e 25 (.aload_n 0) 1, om_e 26 .dup 1, om_ef 27 (.getfield 28) 3 5 2 0 27, om_ew 30 (.iconst 1) 1 (om_i (1)) 0, om_e 31 .iadd 1, om_ef 32 (.putfield 28) 3 5 2 0 27, om_et 35 (.goto (-35)) 3 0]
def om_E71_38 : List om_E := [om_e 38 (.aload_n 0) 1, om_e 39 (.aload_n 0) 1, om_ef 40 (.getfield 28) 3 5 2 0 27, om_ef 43 (.putfield 44) 3 5 3 0 28, om_e 46 (.aload_n 0) 1, om_ef 47 (.getfield 28) 3 5 2 0 27, om_e 50 (.aload_n 0) 1, om_ef 51 (.getfield 15) 3 5 0 0 25, om_et 54 (.if_icmp .lt 9) 3 63]
def om_E71_57 : List om_E := [om_e 57 (.aload_n 0) 1, om_ew 58 (.iconst 0) 1 (om_i (0)) 0, om_ef 59 (.putfield 37) 3 5 4 0 29, om_e 62 .return_ 1]
def om_E71_63 : List om_E := [om_e 63 (.aload_n 0) 1, om_ef 64 (.getfield 9) 3 5 1 4 26, om_e 67 (.aload_n 0) 1, om_e 68 .dup 1, om_ef 69 (.getfield 28) 3 5 2 0 27, om_e 72 .dup_x1 1, om_ew 73 (.iconst 1) 1 (om_i (1)) 0, om_e 74 .iadd 1, om_ef 75 (.putfield 28) 3 5 2 0 27, om_e 78 .iaload 1, om_e 79 (.istore_n 1) 1, om_e 80 (.iload_n 1) 1, om_ef 81 (.invokestatic 115) 3 0 59 1 59]
def om_E71_84 : List om_E := [om_et 84 (.ifCond .eq 53) 3 137]
def om_E71_87 : List om_E := [om_e 87 (.aload_n 0) 1, om_ef 88 (.getfield 28) 3 5 2 0 27, om_e 91 (.aload_n 0) 1, om_ef 92 (.getfield 15) 3 5 0 0 25, om_et 95 (.if_icmp .ge 31) 3 126]
def om_E71_98 : List om_E := [om_e 98 (.aload_n 0) 1, om_ef 99 (.getfield 9) 3 5 1 4 26, om_e 102 (.aload_n 0) 1, om_ef 103 (.getfield 28) 3 5 2 0 27, om_e 106 .iaload 1, om_ef 107 (.invokestatic 115) 3 0 59 1 59]
def om_E71_110 : List om_E := [om_et 110 (.ifCond .eq 16) 3 126]
def om_E71_113 : List om_E := [om_e 113 (.aload_n 0) 1, om_e 114 .dup 1, om_ef 115 (.getfield 28) 3 5 2 0 27, om_ew 118 (.iconst 1) 1 (om_i (1)) 0, om_e 119 .iadd 1, om_ef 120 (.putfield 28) 3 5 2 0 27, om_et 123 (.goto (-36)) 3 87]
def om_E71_126 : List om_E := [om_e 126 (.aload_n 0) 1, om_e 127 (.aload_n 0) 1, om_ef 128 (.invokevirtual 118) 3 5 68 1 60]
def om_E71_131 : List om_E := [om_ef 131 (.putfield 37) 3 5 4 0 29, om_et 134 (.goto 90) 3 224]
def om_E71_137 : List om_E := [om_e 137 (.iload_n 1) 1, om_ef 138 (.invokestatic 121) 3 0 69 1 69]
def om_E71_141 : List om_E := [om_et 141 (.ifCond .eq 58) 3 199]
def om_E71_144 : List om_E := [om_e 144 (.aload_n 0) 1, om_ef 145 (.getfield 28) 3 5 2 0 27, om_e 148 (.aload_n 0) 1, om_ef 149 (.getfield 15) 3 5 0 0 25, om_et 152 (.if_icmp .ge 31) 3 183]
def om_E71_155 : List om_E := [om_e 155 (.aload_n 0) 1, om_ef 156 (.getfield 9) 3 5 1 4 26, om_e 159 (.aload_n 0) 1, om_ef 160 (.getfield 28) 3 5 2 0 27, om_e 163 .iaload 1, om_ef 164 (.invokestatic 121) 3 0 69 1 69]
def om_E71_167 : List om_E := [om_et 167 (.ifCond .eq 16) 3 183]
def om_E71_170 : List om_E := [om_e 170 (.aload_n 0) 1, om_e 171 .dup 1, om_ef 172 (.getfield 28) 3 5 2 0 27, om_ew 175 (.iconst 1) 1 (om_i (1)) 0, om_e 176 .iadd 1, om_ef 177 (.putfield 28) 3 5 2 0 27, om_et 180 (.goto (-36)) 3 144]
def om_E71_183 : List om_E := [om_e 183 (.aload_n 0) 1, om_ew 184 (.iconst 1) 1 (om_i (1)) 0, om_ef 185 (.putfield 37) 3 5 4 0 29, om_e 188 (.aload_n 0) 1, om_e 189 (.aload_n 0) 1, om_ef 190 (.invokevirtual 124) 3 5 70 1 70]
def om_E71_193 : List om_E := [om_ef 193 (.putfield 104) 3 5 5 0 30, om_et 196 (.goto 28) 3 224]
def om_E71_199 : List om_E := [om_e 199 (.aload_n 0) 1, om_e 200 (.iload_n 1) 1, om_ew 201 (.bipush 40) 2 (om_i (40)) 0, om_et 203 (.if_icmp .ne 7) 3 210]
def om_E71_206 : List om_E := [om_ew 206 (.iconst 2) 1 (om_i (2)) 0, om_et 207 (.goto 14) 3 221]
def om_E71_210 : List om_E := [om_e 210 (.iload_n 1) 1, om_ew 211 (.bipush 41) 2 (om_i (41)) 0, om_et 213 (.if_icmp .ne 7) 3 220]
def om_E71_216 : List om_E := [om_ew 216 (.iconst 3) 1 (om_i (3)) 0, om_et 217 (.goto 4) 3 221]
def om_E71_220 : List om_E := [om_ew 220 (.iconst 4) 1 (om_i (4)) 0]
def om_E71_221 : List om_E := [om_ef 221 (.putfield 37) 3 5 4 0 29]
def om_E71_224 : List om_E := [om_e 224 .return_ 1]
def om_B71 : List om_Bk := [(0, [true, false], om_E71_0, 11), (11, [true, false], om_E71_11, 25), (25, [true, false], om_E71_25, 38), (38, [true, false], om_E71_38, 57), (57, [true, false], om_E71_57, 63), (63, [true, false], om_E71_63, 84), (84, [true, true], om_E71_84, 87), (87, [true, false], om_E71_87, 98), (98, [true, false], om_E71_98, 110), (110, [true, false], om_E71_110, 113), (113, [true, false], om_E71_113, 126), (126, [true, false], om_E71_126, 131), (131, [false, false], om_E71_131, 137), (137, [true, true], om_E71_137, 141), (141, [true, true], om_E71_141, 144), (144, [true, false], om_E71_144, 155), (155, [true, false], om_E71_155, 167), (167, [true, false], om_E71_167, 170), (170, [true, false], om_E71_170, 183), (183, [true, false], om_E71_183, 193), (193, [false, false], om_E71_193, 199), (199, [true, true], om_E71_199, 206), (206, [false, false], om_E71_206, 210), (210, [false, true], om_E71_210, 216), (216, [false, false], om_E71_216, 220), (220, [false, false], om_E71_220, 221), (221, [false, false], om_E71_221, 224), (224, [false, false], om_E71_224, 225)]
def om_E72_0 : List om_E := [om_e 0 (.aload_n 0) 1, om_ef 1 (.getfield 37) 3 5 4 0 29, om_es 4 (.tableswitch 154 2 15 #[82, 154, 154, 72, 154, 154, 103, 103, 154, 154, 154, 154, 128, 141]) 72 158 [((2), 86), ((3), 158), ((4), 158), ((5), 76), ((6), 158), ((7), 158), ((8), 107), ((9), 107), ((10), 158), ((11), 158), ((12), 158), ((13), 158), ((14), 132), ((15), 145)]]
def om_E72_76 : List om_E := [om_e 76 (.aload_n 0) 1, om_ef 77 (.getfield 19) 3 5 7 1 32, om_ew 80 (.iconst (-1)) 1 (om_i (-1)) 0, om_ef 81 (.invokevirtual 78) 3 4 52 2 10025]
def om_E72_84 : List om_E := [om_ew 84 (.iconst 0) 1 (om_i (0)) 0, om_e 85 .ireturn 1]
def om_E72_86 : List om_E := [om_e 86 (.aload_n 0) 1, om_ef 87 (.getfield 19) 3 5 7 1 32, om_ew 90 (.bipush (-4)) 2 (om_i (-4)) 0, om_ef 92 (.invokevirtual 78) 3 4 52 2 10025]
def om_E72_95 : List om_E := [om_e 95 (.aload_n 0) 1, om_e 96 .dup 1, om_ef 97 (.getfield 31) 3 5 6 0 31, om_ew 100 (.iconst 1) 1 (om_i (1)) 0, om_e 101 .iadd 1, om_ef 102 (.putfield 31) 3 5 6 0 31, om_ew 105 (.iconst 0) 1 (om_i (0)) 0, om_e 106 .ireturn 1]
def om_E72_107 : List om_E := [om_e 107 (.aload_n 0) 1, om_ef 108 (.getfield 19) 3 5 7 1 32, om_ew 111 (.bipush 11) 2 (om_i (11)) 0, om_e 113 (.aload_n 0) 1, om_ef 114 (.getfield 37) 3 5 4 0 29, om_ew 117 (.bipush 8) 2 (om_i (8)) 0, om_et 119 (.if_icmp .ne 7) 3 126]
def om_E72_122 : List om_E := [om_ew 122 (.iconst 0) 1 (om_i (0)) 0, om_et 123 (.goto 4) 3 127]
def om_E72_126 : List om_E := [om_ew 126 (.iconst 1) 1 (om_i (1)) 0]
def om_E72_127 : List om_E := [om_ef 127 (.invokevirtual 82) 3 4 47 3 10026]
def om_E72_130 : List om_E := [om_ew 130 (.iconst 2) 1 (om_i (2)) 0, om_e 131 .ireturn 1]
def om_E72_132 : List om_E := [om_e 132 (.aload_n 0) 1, om_ef 133 (.getfield 19) 3 5 7 1 32, om_ew 136 (.bipush 14) 2 (om_i (14)) 0, om_ew 138 (.iconst 0) 1 (om_i (0)) 0, om_ef 139 (.invokevirtual 82) 3 4 47 3 10026]
def om_E72_142 : List om_E := [om_ew 142 (.bipush 6) 2 (om_i (6)) 0, om_e 144 .ireturn 1]
def om_E72_145 : List om_E := [om_e 145 (.aload_n 0) 1, om_ef 146 (.getfield 19) 3 5 7 1 32, om_ew 149 (.bipush 16) 2 (om_i (16)) 0, om_ew 151 (.iconst 0) 1 (om_i (0)) 0, om_ef 152 (.invokevirtual 82) 3 4 47 3 10026]
def om_E72_155 : List om_E := [om_ew 155 (.bipush 7) 2 (om_i (7)) 0, om_e 157 .ireturn 1]
def om_E72_158 : List om_E := [om_ew 158 (.iconst (-1)) 1 (om_i (-1)) 0, om_e 159 .ireturn 1]
def om_B72 : List om_Bk := [(0, [true], om_E72_0, 76), (76, [true], om_E72_76, 84), (84, [false], om_E72_84, 86), (86, [true], om_E72_86, 95), (95, [true], om_E72_95, 107), (107, [true], om_E72_107, 122), (122, [false], om_E72_122, 126), (126, [false], om_E72_126, 127), (127, [false], om_E72_127, 130), (130, [false], om_E72_130, 132), (132, [true], om_E72_132, 142), (142, [false], om_E72_142, 145), (145, [true], om_E72_145, 155), (155, [false], om_E72_155, 158), (158, [false], om_E72_158, 160)]
def om_E73_0 : List om_E := [om_e 0 (.aload_n 0) 1, om_ef 1 (.getfield 37) 3 5 4 0 29, om_ew 4 (.bipush 6) 2 (om_i (6)) 0, om_et 6 (.if_icmp .ne 14) 3 20]
def om_E73_9 : List om_E := [om_e 9 (.aload_n 0) 1, om_ef 10 (.getfield 19) 3 5 7 1 32, om_ew 13 (.bipush (-2)) 2 (om_i (-2)) 0, om_ef 15 (.invokevirtual 86) 3 4 53 2 10027]
def om_E73_18 : List om_E := [om_ew 18 (.iconst 0) 1 (om_i (0)) 0, om_e 19 .ireturn 1]
def om_E73_20 : List om_E := [om_e 20 (.aload_n 0) 1, om_ef 21 (.getfield 37) 3 5 4 0 29, om_ew 24 (.bipush 7) 2 (om_i (7)) 0, om_et 26 (.if_icmp .ne 14) 3 40]
def om_E73_29 : List om_E := [om_e 29 (.aload_n 0) 1, om_ef 30 (.getfield 19) 3 5 7 1 32, om_ew 33 (.bipush (-3)) 2 (om_i (-3)) 0, om_ef 35 (.invokevirtual 86) 3 4 53 2 10027]
def om_E73_38 : List om_E := [om_ew 38 (.iconst 0) 1 (om_i (0)) 0, om_e 39 .ireturn 1]
def om_E73_40 : List om_E := [om_e 40 (.aload_n 0) 1, om_ef 41 (.getfield 37) 3 5 4 0 29, om_ew 44 (.iconst 3) 1 (om_i (3)) 0, om_et 45 (.if_icmp .ne 10) 3 55]
def om_E73_48 : List om_E := [om_e 48 (.aload_n 0) 1, om_ef 49 (.getfield 31) 3 5 6 0 31, om_et 52 (.ifCond .ne 5) 3 57]
def om_E73_55 : List om_E := [om_ew 55 (.iconst (-1)) 1 (om_i (-1)) 0, om_e 56 .ireturn 1]
def om_E73_57 : List om_E := [om_e 57 (.aload_n 0) 1, om_e 58 .dup 1, om_ef 59 (.getfield 31) 3 5 6 0 31, om_ew 62 (.iconst 1) 1 (om_i (1)) 0, om_e 63 .isub 1, om_ef 64 (.putfield 31) 3 5 6 0 31, om_e 67 (.aload_n 0) 1, om_ef 68 (.getfield 19) 3 5 7 1 32, om_ef 71 (.invokevirtual 89) 3 4 55 1 10028]
def om_E73_74 : List om_E := [om_ew 74 (.iconst 1) 1 (om_i (1)) 0, om_e 75 .ireturn 1]
def om_B73 : List om_Bk := [(0, [true], om_E73_0, 9), (9, [true], om_E73_9, 18), (18, [false], om_E73_18, 20), (20, [true], om_E73_20, 29), (29, [true], om_E73_29, 38), (38, [false], om_E73_38, 40), (40, [true], om_E73_40, 48), (48, [true], om_E73_48, 55), (55, [false], om_E73_55, 57), (57, [true], om_E73_57, 74), (74, [false], om_E73_74, 76)]
def om_E74_0 : List om_E := [om_e 0 (.aload_n 0) 1, om_ef 1 (.getfield 37) 3 5 4 0 29, om_ew 4 (.bipush 11) 2 (om_i (11)) 0, om_et 6 (.if_icmp .eq 23) 3 29]
def om_E74_9 : List om_E := [om_e 9 (.aload_n 0) 1, om_ef 10 (.getfield 37) 3 5 4 0 29, om_ew 13 (.bipush 12) 2 (om_i (12)) 0, om_et 15 (.if_icmp .eq 14) 3 29]
def om_E74_18 : List om_E := [om_e 18 (.aload_n 0) 1, om_ef 19 (.getfield 37) 3 5 4 0 29, om_ew 22 (.bipush 13) 2 (om_i (13)) 0, om_et 24 (.if_icmp .eq 5) 3 29]
def om_E74_27 : List om_E := [om_ew 27 (.iconst (-1)) 1 (om_i (-1)) 0, om_e 28 .ireturn 1]
def om_E74_29 : List om_E := [om_e 29 (.aload_n 0) 1, om_ef 30 (.getfield 19) 3 5 7 1 32, om_ef 33 (.getfield 92) 3 4 1 4 10031, om_e 36 (.aload_n 0) 1, om_ef 37 (.getfield 19) 3 5 7 1 32, om_ef 40 (.getfield 95) 3 4 10 0 10035, om_e 43 (.aload_n 0) 1, om_ef 44 (.getfield 37) 3 5 4 0 29, om_e 47 .iastore 1, om_ew 48 (.iconst 3) 1 (om_i (3)) 0, om_e 49 .ireturn 1]
def om_B74 : List om_Bk := [(0, [true], om_E74_0, 9), (9, [true], om_E74_9, 18), (18, [true], om_E74_18, 27), (27, [false], om_E74_27, 29), (29, [true], om_E74_29, 50)]
def om_E75_0 : List om_E := [om_e 0 (.aload_n 0) 1, om_ef 1 (.getfield 37) 3 5 4 0 29, om_ew 4 (.iconst 1) 1 (om_i (1)) 0, om_et 5 (.if_icmp .ne 23) 3 28]
def om_E75_8 : List om_E := [om_e 8 (.aload_n 0) 1, om_ef 9 (.getfield 104) 3 5 5 0 30, om_ew 12 (.iconst (-1)) 1 (om_i (-1)) 0, om_et 13 (.if_icmp .eq 15) 3 28]
def om_E75_16 : List om_E := [om_e 16 (.aload_n 0) 1, om_ef 17 (.getfield 104) 3 5 5 0 30, om_e 20 (.iload_n 1) 1, om_et 21 (.if_icmp .ge 7) 3 28]
def om_E75_24 : List om_E := [om_ew 24 (.iconst 1) 1 (om_i (1)) 0, om_et 25 (.goto 4) 3 29]
def om_E75_28 : List om_E := [om_ew 28 (.iconst 0) 1 (om_i (0)) 0]
def om_E75_29 : List om_E := [om_e 29 .ireturn 1]
def om_B75 : List om_Bk := [(0, [true, true], om_E75_0, 8), (8, [true, true], om_E75_8, 16), (16, [true, true], om_E75_16, 24), (24, [false, false], om_E75_24, 28), (28, [false, false], om_E75_28, 29), (29, [false, false], om_E75_29, 30)]
def om_E76_0 : List om_E := [om_e 0 (.aload_n 0) 1, om_e 1 (.iload_n 1) 1, om_ef 2 (.invokevirtual 98) 3 5 75 2 81]
def om_E76_5 : List om_E := [om_et 5 (.ifCond .ne 5) 3 10]
def om_E76_8 : List om_E := [om_ew 8 (.iconst (-1)) 1 (om_i (-1)) 0, om_e 9 .ireturn 1]
def om_E76_10 : List om_E := [om_e 10 (.aload_n 0) 1, om_ef 11 (.getfield 19) 3 5 7 1 32, om_ef 14 (.getfield 101) 3 4 3 6 10032, om_e 17 (.aload_n 0) 1, om_ef 18 (.getfield 19) 3 5 7 1 32, om_ef 21 (.getfield 95) 3 4 10 0 10035, om_e 24 .dup2 1, om_e 25 .iaload 1, om_ew 26 (.iconst 1) 1 (om_i (1)) 0, om_e 27 (.aload_n 0) 1, om_ef 28 (.getfield 104) 3 5 5 0 30, om_e 31 .ishl 1, om_e 32 .ior 1, om_e 33 .iastore 1, om_ew 34 (.iconst 4) 1 (om_i (4)) 0, om_e 35 .ireturn 1]
def om_B76 : List om_Bk := [(0, [true, true], om_E76_0, 5), (5, [true, false], om_E76_5, 8), (8, [false, false], om_E76_8, 10), (10, [true, false], om_E76_10, 36)]
def om_E77_0 : List om_E := [om_e 0 (.aload_n 0) 1, om_e 1 (.iload_n 1) 1, om_ef 2 (.invokevirtual 98) 3 5 75 2 81]
def om_E77_5 : List om_E := [om_et 5 (.ifCond .ne 5) 3 10]
def om_E77_8 : List om_E := [om_ew 8 (.iconst 0) 1 (om_i (0)) 0, om_e 9 .ireturn 1]
def om_E77_10 : List om_E := [om_e 10 (.aload_n 0) 1, om_ef 11 (.getfield 19) 3 5 7 1 32, om_ef 14 (.getfield 107) 3 4 4 7 10033, om_e 17 (.aload_n 0) 1, om_ef 18 (.getfield 19) 3 5 7 1 32, om_ef 21 (.getfield 95) 3 4 10 0 10035, om_e 24 (.aload_n 0) 1, om_ef 25 (.getfield 104) 3 5 5 0 30, om_e 28 .iastore 1, om_ew 29 (.iconst 1) 1 (om_i (1)) 0, om_e 30 .ireturn 1]
def om_B77 : List om_Bk := [(0, [true, true], om_E77_0, 5), (5, [true, false], om_E77_5, 8), (8, [false, false], om_E77_8, 10), (10, [true, false], om_E77_10, 31)]
def om_E78_0 : List om_E := [om_e 0 (.aload_n 0) 1, om_ef 1 (.getfield 19) 3 5 7 1 32, om_ef 4 (.invokevirtual 113) 3 4 51 1 10029]
def om_E78_7 : List om_E := [om_ew 7 (.iconst 1) 1 (om_i (1)) 0, om_e 8 .ireturn 1]
def om_B78 : List om_Bk := [(0, [true], om_E78_0, 7), (7, [false], om_E78_7, 9)]
def om_E79_0 : List om_E := [om_e 0 (.aload_n 0) 1, om_ef 1 (.getfield 37) 3 5 4 0 29, om_ew 4 (.bipush 16) 2 (om_i (16)) 0, om_et 6 (.if_icmp .eq 14) 3 20]
def om_E79_9 : List om_E := [om_e 9 (.aload_n 0) 1, om_ef 10 (.getfield 37) 3 5 4 0 29, om_ew 13 (.bipush 17) 2 (om_i (17)) 0, om_et 15 (.if_icmp .eq 5) 3 20]
def om_E79_18 : List om_E := [om_ew 18 (.iconst (-1)) 1 (om_i (-1)) 0, om_e 19 .ireturn 1]
def om_E79_20 : List om_E := [om_e 20 (.aload_n 0) 1, om_ef 21 (.getfield 19) 3 5 7 1 32, om_ef 24 (.getfield 92) 3 4 1 4 10031, om_e 27 (.aload_n 0) 1, om_ef 28 (.getfield 19) 3 5 7 1 32, om_ef 31 (.getfield 95) 3 4 10 0 10035, om_e 34 (.aload_n 0) 1, om_ef 35 (.getfield 37) 3 5 4 0 29, om_e 38 .iastore 1, om_ew 39 (.bipush 9) 2 (om_i (9)) 0, om_e 41 .ireturn 1]
def om_B79 : List om_Bk := [(0, [true], om_E79_0, 9), (9, [true], om_E79_9, 18), (18, [false], om_E79_18, 20), (20, [true], om_E79_20, 42)]
def om_E80_0 : List om_E := [om_e 0 (.aload_n 0) 1, om_ef 1 (.getfield 37) 3 5 4 0 29, om_ew 4 (.iconst 1) 1 (om_i (1)) 0, om_et 5 (.if_icmp .ne 11) 3 16]
def om_E80_8 : List om_E := [om_e 8 (.aload_n 0) 1, om_ef 9 (.getfield 104) 3 5 5 0 30, om_ew 12 (.iconst (-1)) 1 (om_i (-1)) 0, om_et 13 (.if_icmp .ne 5) 3 18]
def om_E80_16 : List om_E := [om_ew 16 (.iconst 0) 1 (om_i (0)) 0, om_e 17 .ireturn 1]
def om_E80_18 : List om_E := [om_e 18 (.aload_n 0) 1, om_ef 19 (.getfield 19) 3 5 7 1 32, om_ef 22 (.getfield 110) 3 4 5 8 10034, om_e 25 (.aload_n 0) 1, om_ef 26 (.getfield 19) 3 5 7 1 32, om_ef 29 (.getfield 95) 3 4 10 0 10035, om_e 32 (.aload_n 0) 1, om_ef 33 (.getfield 104) 3 5 5 0 30, om_e 36 .iastore 1, om_ew 37 (.iconst 1) 1 (om_i (1)) 0, om_e 38 .ireturn 1]
def om_B80 : List om_Bk := [(0, [true], om_E80_0, 8), (8, [true], om_E80_8, 16), (16, [false], om_E80_16, 18), (18, [true], om_E80_18, 39)]
def om_E81_0 : List om_E := [om_e 0 (.iload_n 1) 1, om_es 1 (.tableswitch 143 0 8 #[51, 56, 61, 66, 72, 91, 108, 123, 138]) 51 144 [((0), 52), ((1), 57), ((2), 62), ((3), 67), ((4), 73), ((5), 92), ((6), 109), ((7), 124), ((8), 139)]]
def om_E81_52 : List om_E := [om_e 52 (.aload_n 0) 1, om_ef 53 (.invokevirtual 50) 3 5 72 1 72]
def om_E81_56 : List om_E := [om_e 56 .ireturn 1]
def om_E81_57 : List om_E := [om_e 57 (.aload_n 0) 1, om_ef 58 (.invokevirtual 54) 3 5 73 1 73]
def om_E81_61 : List om_E := [om_e 61 .ireturn 1]
def om_E81_62 : List om_E := [om_e 62 (.aload_n 0) 1, om_ef 63 (.invokevirtual 57) 3 5 74 1 79]
def om_E81_66 : List om_E := [om_e 66 .ireturn 1]
def om_E81_67 : List om_E := [om_e 67 (.aload_n 0) 1, om_e 68 (.iload_n 2) 1, om_ef 69 (.invokevirtual 60) 3 5 76 2 80]
def om_E81_72 : List om_E := [om_e 72 .ireturn 1]
def om_E81_73 : List om_E := [om_e 73 (.aload_n 0) 1, om_ef 74 (.getfield 37) 3 5 4 0 29, om_ew 77 (.bipush 10) 2 (om_i (10)) 0, om_et 79 (.if_icmp .ne 7) 3 86]
def om_E81_82 : List om_E := [om_ew 82 (.iconst 5) 1 (om_i (5)) 0, om_et 83 (.goto 8) 3 91]
def om_E81_86 : List om_E := [om_e 86 (.aload_n 0) 1, om_e 87 (.iload_n 2) 1, om_ef 88 (.invokevirtual 60) 3 5 76 2 80]
def om_E81_91 : List om_E := [om_e 91 .ireturn 1]
def om_E81_92 : List om_E := [om_e 92 (.aload_n 0) 1, om_e 93 (.iload_n 2) 1, om_ef 94 (.invokevirtual 64) 3 5 77 2 82]
def om_E81_97 : List om_E := [om_et 97 (.ifCond .eq 10) 3 107]
def om_E81_100 : List om_E := [om_e 100 (.aload_n 0) 1, om_ef 101 (.invokevirtual 68) 3 5 78 1 83]
def om_E81_104 : List om_E := [om_et 104 (.goto 4) 3 108]
def om_E81_107 : List om_E := [om_ew 107 (.iconst (-1)) 1 (om_i (-1)) 0]
def om_E81_108 : List om_E := [om_e 108 .ireturn 1]
def om_E81_109 : List om_E := [om_e 109 (.aload_n 0) 1, om_ef 110 (.getfield 37) 3 5 4 0 29, om_ew 113 (.bipush 10) 2 (om_i (10)) 0, om_et 115 (.if_icmp .ne 7) 3 122]
def om_E81_118 : List om_E := [om_ew 118 (.iconst 5) 1 (om_i (5)) 0, om_et 119 (.goto 4) 3 123]
def om_E81_122 : List om_E := [om_ew 122 (.iconst (-1)) 1 (om_i (-1)) 0]
def om_E81_123 : List om_E := [om_e 123 .ireturn 1]
def om_E81_124 : List om_E := [om_e 124 (.aload_n 0) 1, om_e 125 (.iload_n 2) 1, om_ef 126 (.invokevirtual 64) 3 5 77 2 82]
def om_E81_129 : List om_E := [om_et 129 (.ifCond .eq 8) 3 137]
def om_E81_132 : List om_E := [om_ew 132 (.bipush 8) 2 (om_i (8)) 0, om_et 134 (.goto 4) 3 138]
def om_E81_137 : List om_E := [om_ew 137 (.iconst (-1)) 1 (om_i (-1)) 0]
def om_E81_138 : List om_E := [om_e 138 .ireturn 1]
def om_E81_139 : List om_E := [om_e 139 (.aload_n 0) 1, om_ef 140 (.invokevirtual 71) 3 5 79 1 84]
def om_E81_143 : List om_E := [om_e 143 .ireturn 1]
def om_E81_144 : List om_E := [om_e 144 (.aload_n 0) 1, om_ef 145 (.invokevirtual 74) 3 5 80 1 85]
def om_E81_148 : List om_E := [om_et 148 (.ifCond .eq 10) 3 158]
def om_E81_151 : List om_E := [om_e 151 (.aload_n 0) 1, om_ef 152 (.invokevirtual 68) 3 5 78 1 83]
def om_E81_155 : List om_E := [om_et 155 (.goto 4) 3 159]
def om_E81_158 : List om_E := [om_ew 158 (.iconst (-1)) 1 (om_i (-1)) 0]
def om_E81_159 : List om_E := [om_e 159 .ireturn 1]
def om_B81 : List om_Bk := [(0, [true, true, true], om_E81_0, 52), (52, [true, false, false], om_E81_52, 56), (56, [false, false, false], om_E81_56, 57), (57, [true, false, false], om_E81_57, 61), (61, [false, false, false], om_E81_61, 62), (62, [true, false, false], om_E81_62, 66), (66, [false, false, false], om_E81_66, 67), (67, [true, false, true], om_E81_67, 72), (72, [false, false, false], om_E81_72, 73), (73, [true, false, true], om_E81_73, 82), (82, [false, false, false], om_E81_82, 86), (86, [true, false, true], om_E81_86, 91), (91, [false, false, false], om_E81_91, 92), (92, [true, false, true], om_E81_92, 97), (97, [true, false, false], om_E81_97, 100), (100, [true, false, false], om_E81_100, 104), (104, [false, false, false], om_E81_104, 107), (107, [false, false, false], om_E81_107, 108), (108, [false, false, false], om_E81_108, 109), (109, [true, false, false], om_E81_109, 118), (118, [false, false, false], om_E81_118, 122), (122, [false, false, false], om_E81_122, 123), (123, [false, false, false], om_E81_123, 124), (124, [true, false, true], om_E81_124, 129), (129, [false, false, false], om_E81_129, 132), (132, [false, false, false], om_E81_132, 137), (137, [false, false, false], om_E81_137, 138), (138, [false, false, false], om_E81_138, 139), (139, [true, false, false], om_E81_139, 143), (143, [false, false, false], om_E81_143, 144), (144, [true, false, false], om_E81_144, 148), (148, [true, false, false], om_E81_148, 151), (151, [true, false, false], om_E81_151, 155), (155, [false, false, false], om_E81_155, 158), (158, [false, false, false], om_E81_158, 159), (159, [false, false, false], om_E81_159, 160)]
def om_E82_0 : List om_E := [om_e 0 (.aload_n 0) 1, om_e 1 (.aload_n 1) 1, om_ef 2 (.putfield 19) 3 5 7 1 32, om_e 5 (.aload_n 0) 1, om_ef 6 (.getfield 19) 3 5 7 1 32, om_ef 9 (.invokevirtual 23) 3 4 46 1 10024]
def om_E82_12 : List om_E := [om_e 12 (.aload_n 0) 1, om_ew 13 (.iconst 0) 1 (om_i (0)) 0, om_ef 14 (.putfield 28) 3 5 2 0 27, om_e 17 (.aload_n 0) 1, om_ew 18 (.iconst 0) 1 (om_i (0)) 0, om_ef 19 (.putfield 31) 3 5 6 0 31, om_ew 22 (.iconst 0) 1 (om_i (0)) 0, om_e 23 (.istore_n 3) 1, om_ew 24 (.iconst 0) 1 (om_i (0)) 0, om_e 25 (.istore 4) 2]
def om_E82_27 : List om_E := [om_e 27 (.iload 4) 2, om_e 29 (.aload_n 0) 1, om_ef 30 (.getfield 15) 3 5 0 0 25, om_et 33 (.if_icmp .gt 40) 3 73]
def om_E82_36 : List om_E := [om_e 36 (.aload_n 0) 1, om_ef 37 (.invokevirtual 34) 3 5 71 1 58]
def om_E82_40 : List om_E := [om_e 40 (.aload_n 0) 1, om_ef 41 (.getfield 37) 3 5 4 0 29, om_et 44 (.ifCond .ne 6) 3 50]
def om_E82_47 : List om_E := [om_et 47 (.goto 26) 3 73]
def om_E82_50 : List om_E := [om_e 50 (.aload_n 0) 1, om_e 51 (.iload_n 3) 1, om_e 52 (.iload_n 2) 1, om_ef 53 (.invokevirtual 40) 3 5 81 3 71]
def om_E82_56 : List om_E := [om_e 56 (.istore_n 3) 1, om_e 57 (.iload_n 3) 1, om_ew 58 (.iconst (-1)) 1 (om_i (-1)) 0, om_et 59 (.if_icmp .ne 8) 3 67]
def om_E82_62 : List om_E := [om_e 62 (.aload_n 0) 1, om_ef 63 (.getfield 44) 3 5 3 0 28, om_e 66 .ireturn 1]
def om_E82_67 : List om_E := [om_ec 67 (.iinc 4 1) 3 (om_i (1)), om_et 70 (.goto (-43)) 3 27]
def om_E82_73 : List om_E := [om_e 73 (.iload_n 3) 1, om_ew 74 (.iconst 1) 1 (om_i (1)) 0, om_et 75 (.if_icmp .ne 10) 3 85]
def om_E82_78 : List om_E := [om_e 78 (.aload_n 0) 1, om_ef 79 (.getfield 31) 3 5 6 0 31, om_et 82 (.ifCond .le 8) 3 90]
def om_E82_85 : List om_E := [om_e 85 (.aload_n 0) 1, om_ef 86 (.getfield 15) 3 5 0 0 25, om_e 89 .ireturn 1]
def om_E82_90 : List om_E := [om_e 90 (.aload_n 0) 1, om_ef 91 (.getfield 19) 3 5 7 1 32, om_ef 94 (.invokevirtual 47) 3 4 54 1 10030]
def om_E82_97 : List om_E := [om_ew 97 (.iconst (-1)) 1 (om_i (-1)) 0, om_e 98 .ireturn 1]
def om_B82 : List om_Bk := [(0, [true, true, true, false, false], om_E82_0, 12), (12, [true, false, true, false, false], om_E82_12, 27), (27, [true, false, true, true, true], om_E82_27, 36), (36, [true, false, true, true, true], om_E82_36, 40), (40, [true, false, true, true, true], om_E82_40, 47), (47, [true, false, false, true, false], om_E82_47, 50), (50, [true, false, true, true, true], om_E82_50, 56), (56, [true, false, true, false, true], om_E82_56, 62), (62, [true, false, false, false, false], om_E82_62, 67), (67, [true, false, true, true, true], om_E82_67, 73), (73, [true, false, false, true, false], om_E82_73, 78), (78, [true, false, false, false, false], om_E82_78, 85), (85, [true, false, false, false, false], om_E82_85, 90), (90, [true, false, false, false, false], om_E82_90, 97), (97, [false, false, false, false, false], om_E82_97, 99)]
def om_E83_0 : List om_E := [om_e 0 (.iload_n 0) 1, om_et 1 (.ifCond .eq 8) 3 9]
def om_E83_4 : List om_E := [om_e 4 (.iload_n 0) 1, om_ew 5 (.iconst 1) 1 (om_i (1)) 0, om_et 6 (.if_icmp .ne 7) 3 13]
def om_E83_9 : List om_E := [om_ew 9 (.iconst 1) 1 (om_i (1)) 0, om_et 10 (.goto 4) 3 14]
def om_E83_13 : List om_E := [om_ew 13 (.iconst 0) 1 (om_i (0)) 0]
def om_E83_14 : List om_E := [om_e 14 .ireturn 1]
def om_B83 : List om_Bk := [(0, [true], om_E83_0, 4), (4, [true], om_E83_4, 9), (9, [false], om_E83_9, 13), (13, [false], om_E83_13, 14), (14, [false], om_E83_14, 15)]
def om_E84_0 : List om_E := [om_e 0 (.iload_n 0) 1, om_et 1 (.ifCond .lt 13) 3 14]
def om_E84_4 : List om_E := [om_e 4 (.iload_n 0) 1, om_ew 5 (.bipush 7) 2 (om_i (7)) 0, om_et 7 (.if_icmp .gt 7) 3 14]
def om_E84_10 : List om_E := [om_ew 10 (.iconst 1) 1 (om_i (1)) 0, om_et 11 (.goto 4) 3 15]
def om_E84_14 : List om_E := [om_ew 14 (.iconst 0) 1 (om_i (0)) 0]
def om_E84_15 : List om_E := [om_e 15 .ireturn 1]
def om_B84 : List om_Bk := [(0, [true], om_E84_0, 4), (4, [true], om_E84_4, 10), (10, [false], om_E84_10, 14), (14, [false], om_E84_14, 15), (15, [false], om_E84_15, 16)]
def om_E85_0 : List om_E := [om_e 0 (.iload_n 1) 1, om_ef 1 (.invokestatic 54) 3 0 83 1 1]
def om_E85_4 : List om_E := [om_et 4 (.ifCond .ne 6) 3 10]
def om_E85_7 : List om_E := [om_ew 7 (.bipush (-2)) 2 (om_i (-2)) 0, om_e 9 .ireturn 1]
def om_E85_10 : List om_E := [om_e 10 (.iload_n 2) 1, om_ef 11 (.invokestatic 58) 3 0 84 1 2]
def om_E85_14 : List om_E := [om_et 14 (.ifCond .ne 6) 3 20]
def om_E85_17 : List om_E := [om_ew 17 (.bipush (-3)) 2 (om_i (-3)) 0, om_e 19 .ireturn 1]
def om_E85_20 : List om_E := [om_e 20 (.aload_n 0) 1, om_ef 21 (.getfield 12) 3 6 0 4 44, om_ef 24 (.getfield 61) 3 0 0 0 10000, om_ew 27 (.bipush 8) 2 (om_i (8)) 0, om_et 29 (.if_icmp .lt 6) 3 35]
def om_E85_32 : List om_E := [om_ew 32 (.bipush (-5)) 2 (om_i (-5)) 0, om_e 34 .ireturn 1]
def om_E85_35 : List om_E := [om_e 35 (.aload_n 0) 1, om_ef 36 (.getfield 12) 3 6 0 4 44, om_e 39 (.iload_n 1) 1, om_e 40 (.iload_n 2) 1, om_ef 41 (.invokevirtual 65) 3 0 1 3 10000]
def om_E85_44 : List om_E := [om_e 44 .ireturn 1]
def om_B85 : List om_Bk := [(0, [true, true, true], om_E85_0, 4), (4, [true, true, true], om_E85_4, 7), (7, [false, false, false], om_E85_7, 10), (10, [true, true, true], om_E85_10, 14), (14, [true, true, true], om_E85_14, 17), (17, [false, false, false], om_E85_17, 20), (20, [true, true, true], om_E85_20, 32), (32, [false, false, false], om_E85_32, 35), (35, [true, true, true], om_E85_35, 44), (44, [false, false, false], om_E85_44, 45)]
def om_E86_0 : List om_E := [om_e 0 (.iload_n 1) 1, om_et 1 (.ifCond .lt 18) 3 19]
def om_E86_4 : List om_E := [om_e 4 (.iload_n 1) 1, om_e 5 (.aload_n 0) 1, om_ef 6 (.getfield 12) 3 6 0 4 44, om_ef 9 (.getfield 61) 3 0 0 0 10000, om_et 12 (.if_icmp .ge 7) 3 19]
def om_E86_15 : List om_E := [om_ew 15 (.iconst 1) 1 (om_i (1)) 0, om_et 16 (.goto 4) 3 20]
def om_E86_19 : List om_E := [om_ew 19 (.iconst 0) 1 (om_i (0)) 0]
def om_E86_20 : List om_E := [om_e 20 .ireturn 1]
def om_B86 : List om_Bk := [(0, [true, true], om_E86_0, 4), (4, [true, true], om_E86_4, 15), (15, [false, false], om_E86_15, 19), (19, [false, false], om_E86_19, 20), (20, [false, false], om_E86_20, 21)]
def om_E87_0 : List om_E := [om_e 0 (.iload_n 0) 1, om_ew 1 (.bipush (-5)) 2 (om_i (-5)) 0, om_et 3 (.if_icmp .lt 12) 3 15]
def om_E87_6 : List om_E := [om_e 6 (.iload_n 0) 1, om_ew 7 (.iconst 5) 1 (om_i (5)) 0, om_et 8 (.if_icmp .gt 7) 3 15]
def om_E87_11 : List om_E := [om_ew 11 (.iconst 1) 1 (om_i (1)) 0, om_et 12 (.goto 4) 3 16]
def om_E87_15 : List om_E := [om_ew 15 (.iconst 0) 1 (om_i (0)) 0]
def om_E87_16 : List om_E := [om_e 16 .ireturn 1]
def om_B87 : List om_Bk := [(0, [true], om_E87_0, 6), (6, [true], om_E87_6, 11), (11, [false], om_E87_11, 15), (15, [false], om_E87_15, 16), (16, [false], om_E87_16, 17)]
def om_E88_0 : List om_E := [om_e 0 (.aload_n 0) 1, om_e 1 (.iload_n 1) 1, om_ef 2 (.invokevirtual 69) 3 6 86 2 5]
def om_E88_5 : List om_E := [om_et 5 (.ifCond .eq 11) 3 16]
def om_E88_8 : List om_E := [om_e 8 (.aload_n 0) 1, om_e 9 (.iload_n 2) 1, om_ef 10 (.invokevirtual 69) 3 6 86 2 5]
def om_E88_13 : List om_E := [om_et 13 (.ifCond .ne 6) 3 19]
def om_E88_16 : List om_E := [om_ew 16 (.bipush (-2)) 2 (om_i (-2)) 0, om_e 18 .ireturn 1]
def om_E88_19 : List om_E := [om_e 19 (.iload_n 3) 1, om_ef 20 (.invokestatic 72) 3 0 87 1 6]
def om_E88_23 : List om_E := [om_et 23 (.ifCond .ne 6) 3 29]
def om_E88_26 : List om_E := [om_ew 26 (.bipush (-3)) 2 (om_i (-3)) 0, om_e 28 .ireturn 1]
def om_E88_29 : List om_E := [om_e 29 (.aload_n 0) 1, om_ef 30 (.getfield 12) 3 6 0 4 44, om_e 33 (.iload_n 1) 1, om_e 34 (.iload_n 2) 1, om_ef 35 (.invokevirtual 75) 3 0 4 3 10001]
def om_E88_38 : List om_E := [om_ew 38 (.iconst (-1)) 1 (om_i (-1)) 0, om_et 39 (.if_icmp .eq 6) 3 45]
def om_E88_42 : List om_E := [om_ew 42 (.bipush (-4)) 2 (om_i (-4)) 0, om_e 44 .ireturn 1]
def om_E88_45 : List om_E := [om_e 45 (.aload_n 0) 1, om_ef 46 (.getfield 12) 3 6 0 4 44, om_ef 49 (.getfield 78) 3 0 1 0 10003, om_ew 52 (.bipush 20) 2 (om_i (20)) 0, om_et 54 (.if_icmp .lt 6) 3 60]
def om_E88_57 : List om_E := [om_ew 57 (.bipush (-5)) 2 (om_i (-5)) 0, om_e 59 .ireturn 1]
def om_E88_60 : List om_E := [om_e 60 (.aload_n 0) 1, om_ef 61 (.getfield 12) 3 6 0 4 44, om_e 64 (.iload_n 1) 1, om_e 65 (.iload_n 2) 1, om_e 66 (.iload_n 3) 1, om_ef 67 (.invokevirtual 81) 3 0 2 4 10002]
def om_E88_70 : List om_E := [om_e 70 .ireturn 1]
def om_B88 : List om_Bk := [(0, [true, true, true, true], om_E88_0, 5), (5, [true, true, true, true], om_E88_5, 8), (8, [true, true, true, true], om_E88_8, 13), (13, [true, true, true, true], om_E88_13, 16), (16, [false, false, false, false], om_E88_16, 19), (19, [true, true, true, true], om_E88_19, 23), (23, [true, true, true, true], om_E88_23, 26), (26, [false, false, false, false], om_E88_26, 29), (29, [true, true, true, true], om_E88_29, 38), (38, [true, true, true, true], om_E88_38, 42), (42, [false, false, false, false], om_E88_42, 45), (45, [true, true, true, true], om_E88_45, 57), (57, [false, false, false, false], om_E88_57, 60), (60, [true, true, true, true], om_E88_60, 70), (70, [false, false, false, false], om_E88_70, 71)]
def om_E89_0 : List om_E := [om_e 0 (.iload_n 1) 1, om_et 1 (.ifCond .lt 18) 3 19]
def om_E89_4 : List om_E := [om_e 4 (.iload_n 1) 1, om_e 5 (.aload_n 0) 1, om_ef 6 (.getfield 12) 3 6 0 4 44, om_ef 9 (.getfield 78) 3 0 1 0 10003, om_et 12 (.if_icmp .ge 7) 3 19]
def om_E89_15 : List om_E := [om_ew 15 (.iconst 1) 1 (om_i (1)) 0, om_et 16 (.goto 4) 3 20]
def om_E89_19 : List om_E := [om_ew 19 (.iconst 0) 1 (om_i (0)) 0]
def om_E89_20 : List om_E := [om_e 20 .ireturn 1]
def om_B89 : List om_Bk := [(0, [true, true], om_E89_0, 4), (4, [true, true], om_E89_4, 15), (15, [false, false], om_E89_15, 19), (19, [false, false], om_E89_19, 20), (20, [false, false], om_E89_20, 21)]
def om_E90_0 : List om_E := [om_e 0 (.aload_n 0) 1, om_e 1 (.iload_n 1) 1, om_ef 2 (.invokevirtual 85) 3 6 89 2 8]
def om_E90_5 : List om_E := [om_et 5 (.ifCond .ne 6) 3 11]
def om_E90_8 : List om_E := [om_ew 8 (.bipush (-2)) 2 (om_i (-2)) 0, om_e 10 .ireturn 1]
def om_E90_11 : List om_E := [om_e 11 (.aload_n 0) 1, om_ef 12 (.getfield 12) 3 6 0 4 44, om_e 15 (.iload_n 1) 1, om_ef 16 (.invokevirtual 88) 3 0 3 2 10003]
def om_E90_19 : List om_E := [om_e 19 (.aload_n 0) 1, om_ef 20 (.getfield 12) 3 6 0 4 44, om_ef 23 (.getfield 78) 3 0 1 0 10003, om_e 26 .ireturn 1]
def om_B90 : List om_Bk := [(0, [true, true], om_E90_0, 5), (5, [true, true], om_E90_5, 8), (8, [false, false], om_E90_8, 11), (11, [true, true], om_E90_11, 19), (19, [true, false], om_E90_19, 27)]
def om_E91_0 : List om_E := [om_e 0 (.aload_n 0) 1, om_e 1 (.iload_n 1) 1, om_ef 2 (.invokevirtual 69) 3 6 86 2 5]
def om_E91_5 : List om_E := [om_et 5 (.ifCond .eq 10) 3 15]
def om_E91_8 : List om_E := [om_e 8 (.iload_n 2) 1, om_ef 9 (.invokestatic 54) 3 0 83 1 1]
def om_E91_12 : List om_E := [om_et 12 (.ifCond .ne 6) 3 18]
def om_E91_15 : List om_E := [om_ew 15 (.bipush (-2)) 2 (om_i (-2)) 0, om_e 17 .ireturn 1]
def om_E91_18 : List om_E := [om_e 18 (.aload_n 0) 1, om_ef 19 (.getfield 12) 3 6 0 4 44, om_e 22 (.iload_n 1) 1, om_ef 23 (.invokevirtual 92) 3 0 5 2 10004]
def om_E91_26 : List om_E := [om_e 26 (.istore_n 3) 1, om_e 27 (.aload_n 0) 1, om_ef 28 (.getfield 12) 3 6 0 4 44, om_e 31 (.iload_n 1) 1, om_e 32 (.iload_n 2) 1, om_ef 33 (.invokevirtual 96) 3 0 0 3 10005]
def om_E91_36 : List om_E := [om_e 36 (.iload_n 3) 1, om_e 37 .ireturn 1]
def om_B91 : List om_Bk := [(0, [true, true, true, false], om_E91_0, 5), (5, [true, true, true, false], om_E91_5, 8), (8, [true, true, true, false], om_E91_8, 12), (12, [true, true, true, false], om_E91_12, 15), (15, [false, false, false, false], om_E91_15, 18), (18, [true, true, true, false], om_E91_18, 26), (26, [true, true, true, false], om_E91_26, 36), (36, [false, false, false, true], om_E91_36, 38)]
def om_E92_0 : List om_E := [om_e 0 (.iload_n 1) 1, om_et 1 (.ifCond .ne 42) 3 43]
def om_E92_4 : List om_E := [om_e 4 (.aload_n 0) 1, om_e 5 (.iload_n 2) 1, om_ef 6 (.invokevirtual 69) 3 6 86 2 5]
def om_E92_9 : List om_E := [om_et 9 (.ifCond .eq 34) 3 43]
def om_E92_12 : List om_E := [om_e 12 (.iload_n 3) 1, om_ef 13 (.invokestatic 58) 3 0 84 1 2]
def om_E92_16 : List om_E := [om_et 16 (.ifCond .eq 27) 3 43]
def om_E92_19 : List om_E := [om_e 19 (.aload_n 0) 1, om_ef 20 (.getfield 12) 3 6 0 4 44, om_ef 23 (.getfield 100) 3 0 3 4 10006, om_e 26 (.iload_n 2) 1, om_e 27 .iaload 1, om_e 28 (.istore 4) 2, om_e 30 (.aload_n 0) 1, om_ef 31 (.getfield 12) 3 6 0 4 44, om_ef 34 (.getfield 100) 3 0 3 4 10006, om_e 37 (.iload_n 2) 1, om_e 38 (.iload_n 3) 1, om_e 39 .iastore 1, om_e 40 (.iload 4) 2, om_e 42 .ireturn 1]
def om_E92_43 : List om_E := [om_e 43 (.iload_n 1) 1, om_ew 44 (.iconst 1) 1 (om_i (1)) 0, om_et 45 (.if_icmp .ne 42) 3 87]
def om_E92_48 : List om_E := [om_e 48 (.aload_n 0) 1, om_e 49 (.iload_n 2) 1, om_ef 50 (.invokevirtual 85) 3 6 89 2 8]
def om_E92_53 : List om_E := [om_et 53 (.ifCond .eq 34) 3 87]
def om_E92_56 : List om_E := [om_e 56 (.iload_n 3) 1, om_ef 57 (.invokestatic 72) 3 0 87 1 6]
def om_E92_60 : List om_E := [om_et 60 (.ifCond .eq 27) 3 87]
def om_E92_63 : List om_E := [om_e 63 (.aload_n 0) 1, om_ef 64 (.getfield 12) 3 6 0 4 44, om_ef 67 (.getfield 104) 3 0 7 8 10014, om_e 70 (.iload_n 2) 1, om_e 71 .iaload 1, om_e 72 (.istore 4) 2, om_e 74 (.aload_n 0) 1, om_ef 75 (.getfield 12) 3 6 0 4 44, om_ef 78 (.getfield 104) 3 0 7 8 10014, om_e 81 (.iload_n 2) 1, om_e 82 (.iload_n 3) 1, om_e 83 .iastore 1, om_e 84 (.iload 4) 2, om_e 86 .ireturn 1]
def om_E92_87 : List om_E := [om_ew 87 (.ldc 107) 2 (om_i (-2147483648)) 0, om_e 89 .ireturn 1]
def om_B92 : List om_Bk := [(0, [true, true, true, true, false], om_E92_0, 4), (4, [true, true, true, true, false], om_E92_4, 9), (9, [true, true, true, true, false], om_E92_9, 12), (12, [true, true, true, true, false], om_E92_12, 16), (16, [true, true, true, true, false], om_E92_16, 19), (19, [true, false, true, true, false], om_E92_19, 43), (43, [true, true, true, true, false], om_E92_43, 48), (48, [true, false, true, true, false], om_E92_48, 53), (53, [true, false, true, true, false], om_E92_53, 56), (56, [true, false, true, true, false], om_E92_56, 60), (60, [true, false, true, true, false], om_E92_60, 63), (63, [true, false, true, true, false], om_E92_63, 87), (87, [false, false, false, false, false], om_E92_87, 90)]
def om_E93_0 : List om_E := [om_e 0 (.aload_n 0) 1, om_e 1 (.iload_n 1) 1, om_ef 2 (.invokevirtual 69) 3 6 86 2 5]
def om_E93_5 : List om_E := [om_et 5 (.ifCond .eq 11) 3 16]
def om_E93_8 : List om_E := [om_e 8 (.aload_n 0) 1, om_e 9 (.iload_n 2) 1, om_ef 10 (.invokevirtual 69) 3 6 86 2 5]
def om_E93_13 : List om_E := [om_et 13 (.ifCond .ne 6) 3 19]
def om_E93_16 : List om_E := [om_ew 16 (.bipush (-2)) 2 (om_i (-2)) 0, om_e 18 .ireturn 1]
def om_E93_19 : List om_E := [om_e 19 (.aload_n 0) 1, om_ef 20 (.getfield 12) 3 6 0 4 44, om_e 23 (.iload_n 1) 1, om_e 24 (.iload_n 2) 1, om_ef 25 (.invokevirtual 75) 3 0 4 3 10001]
def om_E93_28 : List om_E := [om_e 28 .ireturn 1]
def om_B93 : List om_Bk := [(0, [true, true, true], om_E93_0, 5), (5, [true, true, true], om_E93_5, 8), (8, [true, true, true], om_E93_8, 13), (13, [true, true, true], om_E93_13, 16), (16, [false, false, false], om_E93_16, 19), (19, [true, true, true], om_E93_19, 28), (28, [false, false, false], om_E93_28, 29)]
def om_E94_0 : List om_E := [om_e 0 (.iload_n 1) 1, om_e 1 (.aload_n 0) 1, om_ef 2 (.getfield 12) 3 6 0 4 44, om_ef 5 (.getfield 61) 3 0 0 0 10000, om_e 8 .ishr 1, om_et 9 (.ifCond .ne 7) 3 16]
def om_E94_12 : List om_E := [om_ew 12 (.iconst 1) 1 (om_i (1)) 0, om_et 13 (.goto 4) 3 17]
def om_E94_16 : List om_E := [om_ew 16 (.iconst 0) 1 (om_i (0)) 0]
def om_E94_17 : List om_E := [om_e 17 .ireturn 1]
def om_B94 : List om_Bk := [(0, [true, true], om_E94_0, 12), (12, [false, false], om_E94_12, 16), (16, [false, false], om_E94_16, 17), (17, [false, false], om_E94_17, 18)]
def om_E95_0 : List om_E := [om_e 0 (.iload_n 1) 1, om_ef 1 (.invokestatic 54) 3 0 83 1 1]
def om_E95_4 : List om_E := [om_et 4 (.ifCond .ne 6) 3 10]
def om_E95_7 : List om_E := [om_ew 7 (.bipush (-2)) 2 (om_i (-2)) 0, om_e 9 .ireturn 1]
def om_E95_10 : List om_E := [om_e 10 (.aload_n 0) 1, om_e 11 (.iload_n 2) 1, om_ef 12 (.invokevirtual 108) 3 6 94 2 13]
def om_E95_15 : List om_E := [om_et 15 (.ifCond .ne 6) 3 21]
def om_E95_18 : List om_E := [om_ew 18 (.bipush (-3)) 2 (om_i (-3)) 0, om_e 20 .ireturn 1]
def om_E95_21 : List om_E := [om_e 21 (.aload_n 0) 1, om_ef 22 (.getfield 19) 3 6 1 10 45, om_e 25 (.aload_n 0) 1, om_ef 26 (.getfield 12) 3 6 0 4 44, om_ew 29 (.iconst (-1)) 1 (om_i (-1)) 0, om_ew 30 (.iconst 0) 1 (om_i (0)) 0, om_ef 31 (.invokevirtual 111) 3 3 31 4 10006]
def om_E95_34 : List om_E := [om_e 34 (.aload_n 0) 1, om_ef 35 (.getfield 19) 3 6 1 10 45, om_e 38 (.iload_n 1) 1, om_e 39 (.iload_n 2) 1, om_e 40 (.aload_n 0) 1, om_ef 41 (.getfield 19) 3 6 1 10 45, om_ef 44 (.invokevirtual 115) 3 3 34 1 10007]
def om_E95_47 : List om_E := [om_ef 47 (.invokevirtual 119) 3 3 37 4 10008]
def om_E95_50 : List om_E := [om_e 50 .ireturn 1]
def om_B95 : List om_Bk := [(0, [true, true, true], om_E95_0, 4), (4, [true, true, true], om_E95_4, 7), (7, [false, false, false], om_E95_7, 10), (10, [true, true, true], om_E95_10, 15), (15, [true, true, true], om_E95_15, 18), (18, [false, false, false], om_E95_18, 21), (21, [true, true, true], om_E95_21, 34), (34, [true, true, true], om_E95_34, 47), (47, [false, false, false], om_E95_47, 50), (50, [false, false, false], om_E95_50, 51)]
def om_E96_0 : List om_E := [om_e 0 (.iload_n 1) 1, om_ef 1 (.invokestatic 54) 3 0 83 1 1]
def om_E96_4 : List om_E := [om_et 4 (.ifCond .eq 11) 3 15]
def om_E96_7 : List om_E := [om_e 7 (.aload_n 0) 1, om_e 8 (.iload_n 3) 1, om_ef 9 (.invokevirtual 69) 3 6 86 2 5]
def om_E96_12 : List om_E := [om_et 12 (.ifCond .ne 6) 3 18]
def om_E96_15 : List om_E := [om_ew 15 (.bipush (-2)) 2 (om_i (-2)) 0, om_e 17 .ireturn 1]
def om_E96_18 : List om_E := [om_e 18 (.aload_n 0) 1, om_e 19 (.iload_n 2) 1, om_ef 20 (.invokevirtual 108) 3 6 94 2 13]
def om_E96_23 : List om_E := [om_et 23 (.ifCond .ne 6) 3 29]
def om_E96_26 : List om_E := [om_ew 26 (.bipush (-3)) 2 (om_i (-3)) 0, om_e 28 .ireturn 1]
def om_E96_29 : List om_E := [om_e 29 (.aload_n 0) 1, om_ef 30 (.getfield 19) 3 6 1 10 45, om_e 33 (.aload_n 0) 1, om_ef 34 (.getfield 12) 3 6 0 4 44, om_ew 37 (.iconst (-1)) 1 (om_i (-1)) 0, om_ew 38 (.iconst 0) 1 (om_i (0)) 0, om_ef 39 (.invokevirtual 111) 3 3 31 4 10006]
def om_E96_42 : List om_E := [om_e 42 (.aload_n 0) 1, om_ef 43 (.getfield 19) 3 6 1 10 45, om_e 46 (.iload_n 1) 1, om_e 47 (.iload_n 2) 1, om_e 48 (.iload_n 3) 1, om_ef 49 (.invokevirtual 122) 3 3 38 4 10009]
def om_E96_52 : List om_E := [om_e 52 .ireturn 1]
def om_B96 : List om_Bk := [(0, [true, true, true, true], om_E96_0, 4), (4, [true, true, true, true], om_E96_4, 7), (7, [true, true, true, true], om_E96_7, 12), (12, [true, true, true, true], om_E96_12, 15), (15, [false, false, false, false], om_E96_15, 18), (18, [true, true, true, true], om_E96_18, 23), (23, [true, true, true, true], om_E96_23, 26), (26, [false, false, false, false], om_E96_26, 29), (29, [true, true, true, true], om_E96_29, 42), (42, [true, true, true, true], om_E96_42, 52), (52, [false, false, false, false], om_E96_52, 53)]
def om_E97_0 : List om_E := [om_e 0 (.iload_n 1) 1, om_ef 1 (.invokestatic 54) 3 0 83 1 1]
def om_E97_4 : List om_E := [om_et 4 (.ifCond .ne 6) 3 10]
def om_E97_7 : List om_E := [om_ew 7 (.bipush (-2)) 2 (om_i (-2)) 0, om_e 9 .ireturn 1]
def om_E97_10 : List om_E := [om_e 10 (.aload_n 0) 1, om_e 11 (.iload_n 2) 1, om_ef 12 (.invokevirtual 108) 3 6 94 2 13]
def om_E97_15 : List om_E := [om_et 15 (.ifCond .ne 6) 3 21]
def om_E97_18 : List om_E := [om_ew 18 (.bipush (-3)) 2 (om_i (-3)) 0, om_e 20 .ireturn 1]
def om_E97_21 : List om_E := [om_e 21 (.aload_n 0) 1, om_ef 22 (.getfield 19) 3 6 1 10 45, om_e 25 (.aload_n 0) 1, om_ef 26 (.getfield 12) 3 6 0 4 44, om_ew 29 (.iconst (-1)) 1 (om_i (-1)) 0, om_ew 30 (.iconst 0) 1 (om_i (0)) 0, om_ef 31 (.invokevirtual 111) 3 3 31 4 10006]
def om_E97_34 : List om_E := [om_e 34 (.aload_n 0) 1, om_ef 35 (.getfield 19) 3 6 1 10 45, om_e 38 (.iload_n 1) 1, om_e 39 (.iload_n 2) 1, om_ef 40 (.invokevirtual 125) 3 3 39 3 10010]
def om_E97_43 : List om_E := [om_e 43 .ireturn 1]
def om_B97 : List om_Bk := [(0, [true, true, true], om_E97_0, 4), (4, [true, true, true], om_E97_4, 7), (7, [false, false, false], om_E97_7, 10), (10, [true, true, true], om_E97_10, 15), (15, [true, true, true], om_E97_15, 18), (18, [false, false, false], om_E97_18, 21), (21, [true, true, true], om_E97_21, 34), (34, [true, true, true], om_E97_34, 43), (43, [false, false, false], om_E97_43, 44)]
def om_E98_0 : List om_E := [om_e 0 (.iload_n 1) 1, om_ef 1 (.invokestatic 54) 3 0 83 1 1]
def om_E98_4 : List om_E := [om_et 4 (.ifCond .ne 6) 3 10]
def om_E98_7 : List om_E := [om_ew 7 (.bipush (-2)) 2 (om_i (-2)) 0, om_e 9 .ireturn 1]
def om_E98_10 : List om_E := [om_e 10 (.aload_n 0) 1, om_e 11 (.iload_n 2) 1, om_ef 12 (.invokevirtual 108) 3 6 94 2 13]
def om_E98_15 : List om_E := [om_et 15 (.ifCond .eq 11) 3 26]
def om_E98_18 : List om_E := [om_e 18 (.aload_n 0) 1, om_e 19 (.iload_n 3) 1, om_ef 20 (.invokevirtual 108) 3 6 94 2 13]
def om_E98_23 : List om_E := [om_et 23 (.ifCond .ne 6) 3 29]
def om_E98_26 : List om_E := [om_ew 26 (.bipush (-3)) 2 (om_i (-3)) 0, om_e 28 .ireturn 1]
def om_E98_29 : List om_E := [om_e 29 (.aload_n 0) 1, om_ef 30 (.getfield 19) 3 6 1 10 45, om_e 33 (.aload_n 0) 1, om_ef 34 (.getfield 12) 3 6 0 4 44, om_ew 37 (.iconst (-1)) 1 (om_i (-1)) 0, om_ew 38 (.iconst 0) 1 (om_i (0)) 0, om_ef 39 (.invokevirtual 111) 3 3 31 4 10006]
def om_E98_42 : List om_E := [om_e 42 (.aload_n 0) 1, om_ef 43 (.getfield 19) 3 6 1 10 45, om_e 46 (.iload_n 1) 1, om_e 47 (.iload_n 2) 1, om_e 48 (.iload_n 3) 1, om_ef 49 (.invokevirtual 131) 3 3 41 4 10011]
def om_E98_52 : List om_E := [om_e 52 .ireturn 1]
def om_B98 : List om_Bk := [(0, [true, true, true, true], om_E98_0, 4), (4, [true, true, true, true], om_E98_4, 7), (7, [false, false, false, false], om_E98_7, 10), (10, [true, true, true, true], om_E98_10, 15), (15, [true, true, true, true], om_E98_15, 18), (18, [true, true, true, true], om_E98_18, 23), (23, [true, true, true, true], om_E98_23, 26), (26, [false, false, false, false], om_E98_26, 29), (29, [true, true, true, true], om_E98_29, 42), (42, [true, true, true, true], om_E98_42, 52), (52, [false, false, false, false], om_E98_52, 53)]
def om_E99_0 : List om_E := [om_e 0 (.aload_n 0) 1, om_e 1 (.iload_n 1) 1, om_e 2 (.iload_n 2) 1, om_e 3 (.iload_n 2) 1, om_ef 4 (.invokevirtual 128) 3 6 98 4 23]
def om_E99_7 : List om_E := [om_e 7 .ireturn 1]
def om_B99 : List om_Bk := [(0, [true, true, true], om_E99_0, 7), (7, [false, false, false], om_E99_7, 8)]
def om_E100_0 : List om_E := [om_e 0 (.aload_n 0) 1, om_ef 1 (.getfield 19) 3 6 1 10 45, om_e 4 (.aload_n 0) 1, om_ef 5 (.getfield 12) 3 6 0 4 44, om_ew 8 (.iconst (-1)) 1 (om_i (-1)) 0, om_ew 9 (.iconst 0) 1 (om_i (0)) 0, om_ef 10 (.invokevirtual 111) 3 3 31 4 10006]
def om_E100_13 : List om_E := [om_e 13 (.aload_n 0) 1, om_ef 14 (.getfield 19) 3 6 1 10 45, om_ew 17 (.iconst 0) 1 (om_i (0)) 0, om_e 18 (.aload_n 0) 1, om_ef 19 (.getfield 12) 3 6 0 4 44, om_ef 22 (.getfield 100) 3 0 3 4 10006, om_ef 25 (.invokevirtual 134) 3 3 45 3 10012]
def om_E100_28 : List om_E := [om_e 28 .ireturn 1]
def om_B100 : List om_Bk := [(0, [true], om_E100_0, 13), (13, [true], om_E100_13, 28), (28, [false], om_E100_28, 29)]
def om_E101_0 : List om_E := [om_ew 0 (.iconst 0) 1 (om_i (0)) 0, om_e 1 (.istore 4) 2]
def om_E101_3 : List om_E := [om_e 3 (.iload 4) 2, om_e 5 (.aload_n 0) 1, om_ef 6 (.getfield 12) 3 6 0 4 44, om_ef 9 (.getfield 78) 3 0 1 0 10003, om_et 12 (.if_icmp .ge 72) 3 84]
def om_E101_15 : List om_E := [om_e 15 (.aload_n 0) 1, om_ef 16 (.getfield 12) 3 6 0 4 44, om_ef 19 (.getfield 141) 3 0 5 6 10010, om_e 22 (.iload 4) 2, om_e 24 .iaload 1, om_e 25 (.iload_n 1) 1, om_et 26 (.if_icmp .eq 6) 3 32]
def om_E101_29 : List om_E := [om_et 29 (.goto 49) 3 78]
def om_E101_32 : List om_E := [om_e 32 (.aload_n 0) 1, om_ef 33 (.getfield 19) 3 6 1 10 45, om_ef 36 (.getfield 144) 3 3 6 7 10024, om_e 39 (.iload_n 1) 1, om_ew 40 (.iconst 1) 1 (om_i (1)) 0, om_e 41 (.aload_n 0) 1, om_ef 42 (.getfield 12) 3 6 0 4 44, om_ef 45 (.getfield 147) 3 0 6 7 10012, om_e 48 (.iload 4) 2, om_e 50 .iaload 1, om_e 51 .ishl 1, om_e 52 .iastore 1, om_e 53 (.iload_n 3) 1, om_e 54 (.aload_n 0) 1, om_ef 55 (.getfield 19) 3 6 1 10 45, om_e 58 (.iload_n 2) 1, om_e 59 (.aload_n 0) 1, om_ef 60 (.getfield 12) 3 6 0 4 44, om_ef 63 (.getfield 100) 3 0 3 4 10006, om_ef 66 (.invokevirtual 134) 3 3 45 3 10012]
def om_E101_69 : List om_E := [om_ew 69 (.iconst (-1)) 1 (om_i (-1)) 0, om_e 70 .ixor 1, om_e 71 .iand 1, om_et 72 (.ifCond .ne 6) 3 78]
def om_E101_75 : List om_E := [om_e 75 (.iload 4) 2, om_e 77 .ireturn 1]
def om_E101_78 : List om_E := [om_ec 78 (.iinc 4 1) 3 (om_i (1)), om_et 81 (.goto (-78)) 3 3]
def om_E101_84 : List om_E := [om_ew 84 (.iconst (-1)) 1 (om_i (-1)) 0, om_e 85 .ireturn 1]
def om_B101 : List om_Bk := [(0, [true, true, true, true, false], om_E101_0, 3), (3, [true, true, true, true, true], om_E101_3, 15), (15, [true, true, true, true, true], om_E101_15, 29), (29, [true, true, true, true, true], om_E101_29, 32), (32, [true, true, true, true, true], om_E101_32, 69), (69, [true, true, true, true, true], om_E101_69, 75), (75, [false, false, false, false, true], om_E101_75, 78), (78, [true, true, true, true, true], om_E101_78, 84), (84, [false, false, false, false, false], om_E101_84, 86)]
def om_E102_0 : List om_E := [om_e 0 (.aload_n 0) 1, om_e 1 (.iload_n 1) 1, om_ef 2 (.invokevirtual 69) 3 6 86 2 5]
def om_E102_5 : List om_E := [om_et 5 (.ifCond .ne 6) 3 11]
def om_E102_8 : List om_E := [om_ew 8 (.bipush (-2)) 2 (om_i (-2)) 0, om_e 10 .ireturn 1]
def om_E102_11 : List om_E := [om_e 11 (.aload_n 0) 1, om_ef 12 (.getfield 19) 3 6 1 10 45, om_e 15 (.aload_n 0) 1, om_ef 16 (.getfield 12) 3 6 0 4 44, om_ew 19 (.iconst (-1)) 1 (om_i (-1)) 0, om_ew 20 (.iconst 0) 1 (om_i (0)) 0, om_ef 21 (.invokevirtual 111) 3 3 31 4 10006]
def om_E102_24 : List om_E := [om_e 24 (.aload_n 0) 1, om_ef 25 (.getfield 12) 3 6 0 4 44, om_e 28 (.iload_n 1) 1, om_ef 29 (.invokevirtual 92) 3 0 5 2 10004]
def om_E102_32 : List om_E := [om_e 32 (.istore_n 2) 1, om_e 33 (.aload_n 0) 1, om_ef 34 (.getfield 19) 3 6 1 10 45, om_e 37 (.iload_n 2) 1, om_e 38 (.aload_n 0) 1, om_ef 39 (.getfield 12) 3 6 0 4 44, om_ef 42 (.getfield 100) 3 0 3 4 10006, om_ef 45 (.invokevirtual 134) 3 3 45 3 10012]
def om_E102_48 : List om_E := [om_e 48 (.istore_n 3) 1, om_ew 49 (.iconst (-1)) 1 (om_i (-1)) 0, om_e 50 (.istore 4) 2, om_ew 52 (.iconst 0) 1 (om_i (0)) 0, om_e 53 (.istore 5) 2]
def om_E102_55 : List om_E := [om_e 55 (.iload 5) 2, om_e 57 (.iload_n 1) 1, om_et 58 (.if_icmp .gt 57) 3 115]
def om_E102_61 : List om_E := [om_e 61 (.aload_n 0) 1, om_ef 62 (.getfield 12) 3 6 0 4 44, om_e 65 (.iload 5) 2, om_ef 67 (.invokevirtual 92) 3 0 5 2 10004]
def om_E102_70 : List om_E := [om_e 70 (.iload_n 2) 1, om_et 71 (.if_icmp .ne 16) 3 87]
def om_E102_74 : List om_E := [om_e 74 (.iload_n 3) 1, om_e 75 (.iload 5) 2, om_e 77 .ishr 1, om_ew 78 (.iconst 1) 1 (om_i (1)) 0, om_e 79 .iand 1, om_et 80 (.ifCond .eq 7) 3 87]
def om_E102_83 : List om_E := [om_ew 83 (.iconst 1) 1 (om_i (1)) 0, om_et 84 (.goto 4) 3 88]
def om_E102_87 : List om_E := [om_ew 87 (.iconst 0) 1 (om_i (0)) 0]
def om_E102_88 : List om_E := [om_e 88 (.istore 6) 2, om_e 90 (.iload 6) 2, om_et 92 (.ifCond .eq 14) 3 106]
def om_E102_95 : List om_E := [om_e 95 (.aload_n 0) 1, om_e 96 (.iload 5) 2, om_e 98 (.iload_n 2) 1, om_e 99 (.iload_n 3) 1, om_ef 100 (.invokevirtual 138) 3 6 101 4 31]
def om_E102_103 : List om_E := [om_et 103 (.goto 4) 3 107]
def om_E102_106 : List om_E := [om_ew 106 (.iconst (-1)) 1 (om_i (-1)) 0]
def om_E102_107 : List om_E := [om_e 107 (.istore 4) 2, om_ec 109 (.iinc 5 1) 3 (om_i (1)), om_et 112 (.goto (-57)) 3 55]
def om_E102_115 : List om_E := [om_e 115 (.iload 4) 2, om_e 117 .ireturn 1]
def om_B102 : List om_Bk := [(0, [true, true, false, false, false, false, false], om_E102_0, 5), (5, [true, true, false, false, false, false, false], om_E102_5, 8), (8, [false, false, false, false, false, false, false], om_E102_8, 11), (11, [true, true, false, false, false, false, false], om_E102_11, 24), (24, [true, true, false, false, false, false, false], om_E102_24, 32), (32, [true, true, false, false, false, false, false], om_E102_32, 48), (48, [true, true, true, false, false, false, false], om_E102_48, 55), (55, [true, true, true, true, true, true, false], om_E102_55, 61), (61, [true, true, true, true, false, true, false], om_E102_61, 70), (70, [true, true, true, true, false, true, false], om_E102_70, 74), (74, [true, true, true, true, false, true, false], om_E102_74, 83), (83, [true, true, true, true, false, true, false], om_E102_83, 87), (87, [true, true, true, true, false, true, false], om_E102_87, 88), (88, [true, true, true, true, false, true, false], om_E102_88, 95), (95, [true, true, true, true, false, true, false], om_E102_95, 103), (103, [true, true, true, true, false, true, false], om_E102_103, 106), (106, [true, true, true, true, false, true, false], om_E102_106, 107), (107, [true, true, true, true, false, true, false], om_E102_107, 115), (115, [false, false, false, false, true, false, false], om_E102_115, 118)]
def om_E103_0 : List om_E := [om_e 0 (.aload_n 0) 1, om_e 1 (.iload_n 2) 1, om_ef 2 (.invokevirtual 69) 3 6 86 2 5]
def om_E103_5 : List om_E := [om_et 5 (.ifCond .eq 14) 3 19]
def om_E103_8 : List om_E := [om_e 8 (.iload_n 1) 1, om_et 9 (.ifCond .lt 10) 3 19]
def om_E103_12 : List om_E := [om_e 12 (.iload_n 1) 1, om_ew 13 (.sipush 500) 3 (om_i (500)) 0, om_et 16 (.if_icmp .le 6) 3 22]
def om_E103_19 : List om_E := [om_ew 19 (.ldc 107) 2 (om_i (-2147483648)) 0, om_e 21 .ireturn 1]
def om_E103_22 : List om_E := [om_e 22 (.aload_n 0) 1, om_ef 23 (.getfield 19) 3 6 1 10 45, om_e 26 (.aload_n 0) 1, om_ef 27 (.getfield 12) 3 6 0 4 44, om_ew 30 (.iconst (-1)) 1 (om_i (-1)) 0, om_ew 31 (.iconst 0) 1 (om_i (0)) 0, om_ef 32 (.invokevirtual 111) 3 3 31 4 10006]
def om_E103_35 : List om_E := [om_e 35 (.aload_n 0) 1, om_ef 36 (.getfield 33) 3 6 3 17 47, om_e 39 (.aload_n 0) 1, om_ef 40 (.getfield 19) 3 6 1 10 45, om_e 43 (.iload_n 1) 1, om_e 44 (.iload_n 2) 1, om_ef 45 (.invokevirtual 150) 3 2 15 4 10013]
def om_E103_48 : List om_E := [om_e 48 .ireturn 1]
def om_B103 : List om_Bk := [(0, [true, true, true], om_E103_0, 5), (5, [true, true, true], om_E103_5, 8), (8, [true, true, true], om_E103_8, 12), (12, [true, true, true], om_E103_12, 19), (19, [false, false, false], om_E103_19, 22), (22, [true, true, true], om_E103_22, 35), (35, [true, true, true], om_E103_35, 48), (48, [false, false, false], om_E103_48, 49)]
def om_E104_0 : List om_E := [om_e 0 (.iload_n 0) 1, om_et 1 (.ifCond .eq 8) 3 9]
def om_E104_4 : List om_E := [om_e 4 (.iload_n 0) 1, om_ew 5 (.iconst 1) 1 (om_i (1)) 0, om_et 6 (.if_icmp .ne 7) 3 13]
def om_E104_9 : List om_E := [om_ew 9 (.iconst 1) 1 (om_i (1)) 0, om_et 10 (.goto 4) 3 14]
def om_E104_13 : List om_E := [om_ew 13 (.iconst 0) 1 (om_i (0)) 0]
def om_E104_14 : List om_E := [om_e 14 .ireturn 1]
def om_B104 : List om_Bk := [(0, [true], om_E104_0, 4), (4, [true], om_E104_4, 9), (9, [false], om_E104_9, 13), (13, [false], om_E104_13, 14), (14, [false], om_E104_14, 15)]
def om_E105_0 : List om_E := [om_e 0 (.aload_n 0) 1, om_e 1 (.iload_n 1) 1, om_ef 2 (.invokevirtual 69) 3 6 86 2 5]
def om_E105_5 : List om_E := [om_et 5 (.ifCond .eq 10) 3 15]
def om_E105_8 : List om_E := [om_e 8 (.iload_n 2) 1, om_ef 9 (.invokestatic 154) 3 0 104 1 35]
def om_E105_12 : List om_E := [om_et 12 (.ifCond .ne 6) 3 18]
def om_E105_15 : List om_E := [om_ew 15 (.ldc 107) 2 (om_i (-2147483648)) 0, om_e 17 .ireturn 1]
def om_E105_18 : List om_E := [om_e 18 (.aload_n 0) 1, om_ef 19 (.getfield 19) 3 6 1 10 45, om_e 22 (.aload_n 0) 1, om_ef 23 (.getfield 12) 3 6 0 4 44, om_ew 26 (.iconst (-1)) 1 (om_i (-1)) 0, om_ew 27 (.iconst 0) 1 (om_i (0)) 0, om_ef 28 (.invokevirtual 111) 3 3 31 4 10006]
def om_E105_31 : List om_E := [om_e 31 (.aload_n 0) 1, om_ef 32 (.getfield 33) 3 6 3 17 47, om_e 35 (.aload_n 0) 1, om_ef 36 (.getfield 19) 3 6 1 10 45, om_ew 39 (.iconst 0) 1 (om_i (0)) 0, om_e 40 (.iload_n 1) 1, om_ef 41 (.invokevirtual 157) 3 2 24 4 10014]
def om_E105_44 : List om_E := [om_e 44 (.iload_n 2) 1, om_et 45 (.ifCond .ne 13) 3 58]
def om_E105_48 : List om_E := [om_e 48 (.aload_n 0) 1, om_ef 49 (.getfield 33) 3 6 3 17 47, om_ef 52 (.getfield 161) 3 2 0 0 10027, om_et 55 (.goto 10) 3 65]
def om_E105_58 : List om_E := [om_e 58 (.aload_n 0) 1, om_ef 59 (.getfield 33) 3 6 3 17 47, om_ef 62 (.getfield 164) 3 2 1 0 10028]
def om_E105_65 : List om_E := [om_e 65 .ireturn 1]
def om_B105 : List om_Bk := [(0, [true, true, true], om_E105_0, 5), (5, [true, true, true], om_E105_5, 8), (8, [true, true, true], om_E105_8, 12), (12, [true, true, true], om_E105_12, 15), (15, [false, false, false], om_E105_15, 18), (18, [true, true, true], om_E105_18, 31), (31, [true, true, true], om_E105_31, 44), (44, [true, false, true], om_E105_44, 48), (48, [true, false, false], om_E105_48, 58), (58, [true, false, false], om_E105_58, 65), (65, [false, false, false], om_E105_65, 66)]
def om_E106_0 : List om_E := [om_e 0 (.iload_n 1) 1, om_ef 1 (.invokestatic 54) 3 0 83 1 1]
def om_E106_4 : List om_E := [om_et 4 (.ifCond .eq 27) 3 31]
def om_E106_7 : List om_E := [om_e 7 (.aload_n 0) 1, om_e 8 (.iload_n 2) 1, om_ef 9 (.invokevirtual 108) 3 6 94 2 13]
def om_E106_12 : List om_E := [om_et 12 (.ifCond .eq 19) 3 31]
def om_E106_15 : List om_E := [om_e 15 (.aload_n 0) 1, om_e 16 (.iload_n 3) 1, om_ef 17 (.invokevirtual 69) 3 6 86 2 5]
def om_E106_20 : List om_E := [om_et 20 (.ifCond .eq 11) 3 31]
def om_E106_23 : List om_E := [om_e 23 (.iload 4) 2, om_ef 25 (.invokestatic 154) 3 0 104 1 35]
def om_E106_28 : List om_E := [om_et 28 (.ifCond .ne 6) 3 34]
def om_E106_31 : List om_E := [om_ew 31 (.ldc 107) 2 (om_i (-2147483648)) 0, om_e 33 .ireturn 1]
def om_E106_34 : List om_E := [om_e 34 (.aload_n 0) 1, om_ef 35 (.getfield 19) 3 6 1 10 45, om_e 38 (.aload_n 0) 1, om_ef 39 (.getfield 12) 3 6 0 4 44, om_ew 42 (.iconst (-1)) 1 (om_i (-1)) 0, om_ew 43 (.iconst 0) 1 (om_i (0)) 0, om_ef 44 (.invokevirtual 111) 3 3 31 4 10006]
def om_E106_47 : List om_E := [om_e 47 (.aload_n 0) 1, om_ef 48 (.getfield 19) 3 6 1 10 45, om_e 51 (.iload_n 2) 1, om_ef 52 (.invokevirtual 167) 3 3 33 2 10016]
def om_E106_55 : List om_E := [om_e 55 (.aload_n 0) 1, om_ef 56 (.getfield 33) 3 6 3 17 47, om_e 59 (.aload_n 0) 1, om_ef 60 (.getfield 19) 3 6 1 10 45, om_e 63 (.iload_n 1) 1, om_e 64 (.iload_n 3) 1, om_ef 65 (.invokevirtual 157) 3 2 24 4 10014]
def om_E106_68 : List om_E := [om_e 68 (.iload 4) 2, om_et 70 (.ifCond .ne 13) 3 83]
def om_E106_73 : List om_E := [om_e 73 (.aload_n 0) 1, om_ef 74 (.getfield 33) 3 6 3 17 47, om_ef 77 (.getfield 161) 3 2 0 0 10027, om_et 80 (.goto 10) 3 90]
def om_E106_83 : List om_E := [om_e 83 (.aload_n 0) 1, om_ef 84 (.getfield 33) 3 6 3 17 47, om_ef 87 (.getfield 164) 3 2 1 0 10028]
def om_E106_90 : List om_E := [om_e 90 .ireturn 1]
def om_B106 : List om_Bk := [(0, [true, true, true, true, true], om_E106_0, 4), (4, [true, true, true, true, true], om_E106_4, 7), (7, [true, true, true, true, true], om_E106_7, 12), (12, [true, true, true, true, true], om_E106_12, 15), (15, [true, true, true, true, true], om_E106_15, 20), (20, [true, true, true, true, true], om_E106_20, 23), (23, [true, true, true, true, true], om_E106_23, 28), (28, [true, true, true, true, true], om_E106_28, 31), (31, [false, false, false, false, false], om_E106_31, 34), (34, [true, true, true, true, true], om_E106_34, 47), (47, [true, true, true, true, true], om_E106_47, 55), (55, [true, true, false, true, true], om_E106_55, 68), (68, [true, false, false, false, true], om_E106_68, 73), (73, [true, false, false, false, false], om_E106_73, 83), (83, [true, false, false, false, false], om_E106_83, 90), (90, [false, false, false, false, false], om_E106_90, 91)]
def om_E107_0 : List om_E := [om_e 0 (.aload_n 0) 1, om_e 1 (.iload_n 1) 1, om_ef 2 (.invokevirtual 85) 3 6 89 2 8]
def om_E107_5 : List om_E := [om_et 5 (.ifCond .ne 6) 3 11]
def om_E107_8 : List om_E := [om_ew 8 (.bipush (-2)) 2 (om_i (-2)) 0, om_e 10 .ireturn 1]
def om_E107_11 : List om_E := [om_e 11 (.aload_n 0) 1, om_ef 12 (.getfield 12) 3 6 0 4 44, om_ef 15 (.getfield 141) 3 0 5 6 10010, om_e 18 (.iload_n 1) 1, om_e 19 .iaload 1, om_e 20 (.istore_n 2) 1, om_e 21 (.aload_n 0) 1, om_ef 22 (.getfield 12) 3 6 0 4 44, om_ef 25 (.getfield 170) 3 0 4 5 10008, om_e 28 (.iload_n 2) 1, om_e 29 .iaload 1, om_e 30 (.istore_n 3) 1, om_e 31 (.aload_n 0) 1, om_ef 32 (.getfield 12) 3 6 0 4 44, om_ef 35 (.getfield 170) 3 0 4 5 10008, om_e 38 (.iload_n 2) 1, om_e 39 (.iload_n 1) 1, om_e 40 .iastore 1, om_e 41 (.iload_n 3) 1, om_e 42 .ireturn 1]
def om_B107 : List om_Bk := [(0, [true, true, false, false], om_E107_0, 5), (5, [true, true, false, false], om_E107_5, 8), (8, [false, false, false, false], om_E107_8, 11), (11, [true, true, false, false], om_E107_11, 43)]
def om_E108_0 : List om_E := [om_e 0 (.aload_n 0) 1, om_e 1 (.iload_n 1) 1, om_ef 2 (.invokevirtual 69) 3 6 86 2 5]
def om_E108_5 : List om_E := [om_et 5 (.ifCond .ne 6) 3 11]
def om_E108_8 : List om_E := [om_ew 8 (.bipush (-2)) 2 (om_i (-2)) 0, om_e 10 .ireturn 1]
def om_E108_11 : List om_E := [om_e 11 (.aload_n 0) 1, om_ef 12 (.getfield 12) 3 6 0 4 44, om_ef 15 (.getfield 170) 3 0 4 5 10008, om_e 18 (.iload_n 1) 1, om_e 19 .iaload 1, om_e 20 (.istore_n 2) 1, om_e 21 (.iload_n 2) 1, om_ew 22 (.iconst (-1)) 1 (om_i (-1)) 0, om_et 23 (.if_icmp .ne 6) 3 29]
def om_E108_26 : List om_E := [om_ew 26 (.bipush (-4)) 2 (om_i (-4)) 0, om_e 28 .ireturn 1]
def om_E108_29 : List om_E := [om_e 29 (.aload_n 0) 1, om_ef 30 (.getfield 12) 3 6 0 4 44, om_ef 33 (.getfield 170) 3 0 4 5 10008, om_e 36 (.iload_n 1) 1, om_ew 37 (.iconst (-1)) 1 (om_i (-1)) 0, om_e 38 .iastore 1, om_e 39 (.iload_n 2) 1, om_e 40 .ireturn 1]
def om_B108 : List om_Bk := [(0, [true, true, false], om_E108_0, 5), (5, [true, true, false], om_E108_5, 8), (8, [false, false, false], om_E108_8, 11), (11, [true, true, false], om_E108_11, 26), (26, [false, false, false], om_E108_26, 29), (29, [true, true, true], om_E108_29, 41)]
def om_E109_0 : List om_E := [om_e 0 (.iload_n 0) 1, om_et 1 (.ifCond .ne 7) 3 8]
def om_E109_4 : List om_E := [om_ew 4 (.iconst 1) 1 (om_i (1)) 0, om_et 5 (.goto 4) 3 9]
def om_E109_8 : List om_E := [om_ew 8 (.iconst 0) 1 (om_i (0)) 0]
def om_E109_9 : List om_E := [om_e 9 .ireturn 1]
def om_B109 : List om_Bk := [(0, [true], om_E109_0, 4), (4, [false], om_E109_4, 8), (8, [false], om_E109_8, 9), (9, [false], om_E109_9, 10)]
def om_E110_0 : List om_E := [om_e 0 (.iload_n 1) 1, om_ef 1 (.invokestatic 54) 3 0 83 1 1]
def om_E110_4 : List om_E := [om_et 4 (.ifCond .ne 6) 3 10]
def om_E110_7 : List om_E := [om_ew 7 (.bipush (-2)) 2 (om_i (-2)) 0, om_e 9 .ireturn 1]
def om_E110_10 : List om_E := [om_e 10 (.aload_n 0) 1, om_ef 11 (.getfield 19) 3 6 1 10 45, om_e 14 (.aload_n 0) 1, om_ef 15 (.getfield 12) 3 6 0 4 44, om_e 18 (.iload_n 1) 1, om_ef 19 (.invokevirtual 173) 3 3 32 3 10017]
def om_E110_22 : List om_E := [om_e 22 (.aload_n 0) 1, om_ef 23 (.getfield 19) 3 6 1 10 45, om_ef 26 (.invokevirtual 115) 3 3 34 1 10007]
def om_E110_29 : List om_E := [om_e 29 (.aload_n 0) 1, om_ef 30 (.getfield 26) 3 6 2 15 46, om_e 33 (.aload_n 0) 1, om_ef 34 (.getfield 19) 3 6 1 10 45, om_e 37 (.aload_n 0) 1, om_ef 38 (.getfield 12) 3 6 0 4 44, om_ef 41 (.getfield 100) 3 0 3 4 10006, om_e 44 (.iload_n 1) 1, om_ef 45 (.invokestatic 177) 3 0 109 1 48]
def om_E110_48 : List om_E := [om_ef 48 (.invokevirtual 180) 3 1 9 4 10019]
def om_E110_51 : List om_E := [om_ew 51 (.iconst (-1)) 1 (om_i (-1)) 0, om_e 52 .ixor 1, om_e 53 .iand 1, om_e 54 .ireturn 1]
def om_B110 : List om_Bk := [(0, [true, true], om_E110_0, 4), (4, [true, true], om_E110_4, 7), (7, [false, false], om_E110_7, 10), (10, [true, true], om_E110_10, 22), (22, [true, true], om_E110_22, 29), (29, [true, true], om_E110_29, 48), (48, [false, false], om_E110_48, 51), (51, [false, false], om_E110_51, 55)]
def om_E111_0 : List om_E := [om_e 0 (.iload_n 1) 1, om_ef 1 (.invokestatic 54) 3 0 83 1 1]
def om_E111_4 : List om_E := [om_et 4 (.ifCond .eq 11) 3 15]
def om_E111_7 : List om_E := [om_e 7 (.aload_n 0) 1, om_e 8 (.iload_n 2) 1, om_ef 9 (.invokevirtual 69) 3 6 86 2 5]
def om_E111_12 : List om_E := [om_et 12 (.ifCond .ne 6) 3 18]
def om_E111_15 : List om_E := [om_ew 15 (.bipush (-2)) 2 (om_i (-2)) 0, om_e 17 .ireturn 1]
def om_E111_18 : List om_E := [om_e 18 (.iload_n 3) 1, om_et 19 (.ifCond .ge 6) 3 25]
def om_E111_22 : List om_E := [om_ew 22 (.bipush (-3)) 2 (om_i (-3)) 0, om_e 24 .ireturn 1]
def om_E111_25 : List om_E := [om_e 25 (.aload_n 0) 1, om_ef 26 (.getfield 19) 3 6 1 10 45, om_e 29 (.aload_n 0) 1, om_ef 30 (.getfield 12) 3 6 0 4 44, om_e 33 (.iload_n 1) 1, om_ef 34 (.invokevirtual 173) 3 3 32 3 10017]
def om_E111_37 : List om_E := [om_e 37 (.iload_n 1) 1, om_ef 38 (.invokestatic 177) 3 0 109 1 48]
def om_E111_41 : List om_E := [om_e 41 (.istore 4) 2, om_e 43 (.aload_n 0) 1, om_ef 44 (.getfield 26) 3 6 2 15 46, om_e 47 (.aload_n 0) 1, om_ef 48 (.getfield 19) 3 6 1 10 45, om_e 51 (.aload_n 0) 1, om_ef 52 (.getfield 12) 3 6 0 4 44, om_ef 55 (.getfield 100) 3 0 3 4 10006, om_e 58 (.iload 4) 2, om_ef 60 (.invokevirtual 180) 3 1 9 4 10019]
def om_E111_63 : List om_E := [om_e 63 (.iload_n 2) 1, om_e 64 .ishr 1, om_ew 65 (.iconst 1) 1 (om_i (1)) 0, om_e 66 .iand 1, om_et 67 (.ifCond .ne 5) 3 72]
def om_E111_70 : List om_E := [om_ew 70 (.iconst (-1)) 1 (om_i (-1)) 0, om_e 71 .ireturn 1]
def om_E111_72 : List om_E := [om_e 72 (.aload_n 0) 1, om_ef 73 (.getfield 26) 3 6 2 15 46, om_e 76 (.aload_n 0) 1, om_ef 77 (.getfield 19) 3 6 1 10 45, om_e 80 (.aload_n 0) 1, om_ef 81 (.getfield 12) 3 6 0 4 44, om_ef 84 (.getfield 100) 3 0 3 4 10006, om_e 87 (.iload 4) 2, om_e 89 (.iload_n 2) 1, om_ef 90 (.invokevirtual 184) 3 1 13 5 10020]
def om_E111_93 : List om_E := [om_e 93 (.iload_n 3) 1, om_e 94 (.aload_n 0) 1, om_ef 95 (.getfield 26) 3 6 2 15 46, om_ef 98 (.getfield 188) 3 1 1 0 10026, om_et 101 (.if_icmp .gt 21) 3 122]
def om_E111_104 : List om_E := [om_e 104 (.iload_n 3) 1, om_ew 105 (.bipush 8) 2 (om_i (8)) 0, om_et 107 (.if_icmp .gt 15) 3 122]
def om_E111_110 : List om_E := [om_e 110 (.aload_n 0) 1, om_ef 111 (.getfield 26) 3 6 2 15 46, om_ef 114 (.getfield 191) 3 1 0 4 10025, om_e 117 (.iload_n 3) 1, om_e 118 .iaload 1, om_et 119 (.goto 4) 3 123]
def om_E111_122 : List om_E := [om_ew 122 (.iconst (-1)) 1 (om_i (-1)) 0]
def om_E111_123 : List om_E := [om_e 123 .ireturn 1]
def om_B111 : List om_Bk := [(0, [true, true, true, true, false], om_E111_0, 4), (4, [true, true, true, true, false], om_E111_4, 7), (7, [true, true, true, true, false], om_E111_7, 12), (12, [true, true, true, true, false], om_E111_12, 15), (15, [false, false, false, false, false], om_E111_15, 18), (18, [true, true, true, true, false], om_E111_18, 22), (22, [false, false, false, false, false], om_E111_22, 25), (25, [true, true, true, true, false], om_E111_25, 37), (37, [true, true, true, true, false], om_E111_37, 41), (41, [true, false, true, true, false], om_E111_41, 63), (63, [true, false, true, true, true], om_E111_63, 70), (70, [false, false, false, false, false], om_E111_70, 72), (72, [true, false, true, true, true], om_E111_72, 93), (93, [true, false, false, true, false], om_E111_93, 104), (104, [true, false, false, true, false], om_E111_104, 110), (110, [true, false, false, true, false], om_E111_110, 122), (122, [false, false, false, false, false], om_E111_122, 123), (123, [false, false, false, false, false], om_E111_123, 124)]
def om_E112_0 : List om_E := [om_e 0 (.iload_n 1) 1, om_ef 1 (.invokestatic 54) 3 0 83 1 1]
def om_E112_4 : List om_E := [om_et 4 (.ifCond .eq 18) 3 22]
def om_E112_7 : List om_E := [om_e 7 (.aload_n 0) 1, om_e 8 (.iload_n 2) 1, om_ef 9 (.invokevirtual 69) 3 6 86 2 5]
def om_E112_12 : List om_E := [om_et 12 (.ifCond .eq 10) 3 22]
def om_E112_15 : List om_E := [om_e 15 (.iload_n 3) 1, om_ef 16 (.invokestatic 154) 3 0 104 1 35]
def om_E112_19 : List om_E := [om_et 19 (.ifCond .ne 6) 3 25]
def om_E112_22 : List om_E := [om_ew 22 (.ldc 107) 2 (om_i (-2147483648)) 0, om_e 24 .ireturn 1]
def om_E112_25 : List om_E := [om_e 25 (.aload_n 0) 1, om_ef 26 (.getfield 19) 3 6 1 10 45, om_e 29 (.aload_n 0) 1, om_ef 30 (.getfield 12) 3 6 0 4 44, om_e 33 (.iload_n 1) 1, om_ef 34 (.invokevirtual 173) 3 3 32 3 10017]
def om_E112_37 : List om_E := [om_e 37 (.aload_n 0) 1, om_ef 38 (.getfield 33) 3 6 3 17 47, om_e 41 (.aload_n 0) 1, om_ef 42 (.getfield 19) 3 6 1 10 45, om_e 45 (.iload_n 1) 1, om_e 46 (.iload_n 2) 1, om_ef 47 (.invokevirtual 194) 3 2 27 4 10021]
def om_E112_50 : List om_E := [om_e 50 (.iload_n 3) 1, om_et 51 (.ifCond .ne 13) 3 64]
def om_E112_54 : List om_E := [om_e 54 (.aload_n 0) 1, om_ef 55 (.getfield 33) 3 6 3 17 47, om_ef 58 (.getfield 161) 3 2 0 0 10027, om_et 61 (.goto 10) 3 71]
def om_E112_64 : List om_E := [om_e 64 (.aload_n 0) 1, om_ef 65 (.getfield 33) 3 6 3 17 47, om_ef 68 (.getfield 164) 3 2 1 0 10028]
def om_E112_71 : List om_E := [om_e 71 .ireturn 1]
def om_B112 : List om_Bk := [(0, [true, true, true, true], om_E112_0, 4), (4, [true, true, true, true], om_E112_4, 7), (7, [true, true, true, true], om_E112_7, 12), (12, [true, true, true, true], om_E112_12, 15), (15, [true, true, true, true], om_E112_15, 19), (19, [true, true, true, true], om_E112_19, 22), (22, [false, false, false, false], om_E112_22, 25), (25, [true, true, true, true], om_E112_25, 37), (37, [true, true, true, true], om_E112_37, 50), (50, [true, false, false, true], om_E112_50, 54), (54, [true, false, false, false], om_E112_54, 64), (64, [true, false, false, false], om_E112_64, 71), (71, [false, false, false, false], om_E112_71, 72)]
def om_E113_0 : List om_E := [om_e 0 (.iload_n 3) 1, om_ew 1 (.iconst 1) 1 (om_i (1)) 0, om_et 2 (.if_icmp .lt 9) 3 11]
def om_E113_5 : List om_E := [om_e 5 (.iload_n 3) 1, om_ew 6 (.bipush 8) 2 (om_i (8)) 0, om_et 8 (.if_icmp .le 6) 3 14]
def om_E113_11 : List om_E := [om_ew 11 (.bipush (-3)) 2 (om_i (-3)) 0, om_e 13 .ireturn 1]
def om_E113_14 : List om_E := [om_e 14 (.aload_n 0) 1, om_ef 15 (.getfield 40) 3 6 4 31 48, om_ef 18 (.getfield 197) 3 5 0 0 10029, om_e 21 (.iload_n 3) 1, om_e 22 .iadd 1, om_ew 23 (.bipush 120) 2 (om_i (120)) 0, om_et 25 (.if_icmp .le 6) 3 31]
def om_E113_28 : List om_E := [om_ew 28 (.bipush (-5)) 2 (om_i (-5)) 0, om_e 30 .ireturn 1]
def om_E113_31 : List om_E := [om_ew 31 (.iconst 0) 1 (om_i (0)) 0, om_e 32 (.istore 4) 2]
def om_E113_34 : List om_E := [om_e 34 (.iload 4) 2, om_e 36 (.iload_n 3) 1, om_et 37 (.if_icmp .ge 28) 3 65]
def om_E113_40 : List om_E := [om_e 40 (.aload_n 0) 1, om_ef 41 (.getfield 40) 3 6 4 31 48, om_e 44 (.lload_n 1) 1, om_ew 45 (.bipush 8) 2 (om_i (8)) 0, om_e 47 (.iload 4) 2, om_e 49 .imul 1, om_e 50 .lshr 1, om_ew 51 (.ldc2_w 200) 3 (om_l (255)) 0, om_e 54 .land 1, om_e 55 .l2i 1, om_ef 56 (.invokevirtual 202) 3 5 58 2 10022]
def om_E113_59 : List om_E := [om_ec 59 (.iinc 4 1) 3 (om_i (1)), om_et 62 (.goto (-28)) 3 34]
def om_E113_65 : List om_E := [om_e 65 (.aload_n 0) 1, om_ef 66 (.getfield 40) 3 6 4 31 48, om_ef 69 (.getfield 197) 3 5 0 0 10029, om_e 72 .ireturn 1]
def om_B113 : List om_Bk := [(0, [true, true, false, true, false], om_E113_0, 5), (5, [true, true, false, true, false], om_E113_5, 11), (11, [false, false, false, false, false], om_E113_11, 14), (14, [true, true, false, true, false], om_E113_14, 28), (28, [false, false, false, false, false], om_E113_28, 31), (31, [true, true, false, true, false], om_E113_31, 34), (34, [true, true, false, true, true], om_E113_34, 40), (40, [true, true, false, true, true], om_E113_40, 59), (59, [true, true, false, true, true], om_E113_59, 65), (65, [true, false, false, false, false], om_E113_65, 73)]
def om_E114_0 : List om_E := [om_e 0 (.aload_n 0) 1, om_ef 1 (.getfield 40) 3 6 4 31 48, om_ef 4 (.getfield 197) 3 5 0 0 10029, om_e 7 (.istore_n 1) 1, om_e 8 (.aload_n 0) 1, om_ef 9 (.getfield 40) 3 6 4 31 48, om_ew 12 (.iconst 0) 1 (om_i (0)) 0, om_ef 13 (.putfield 197) 3 5 0 0 10029, om_e 16 (.iload_n 1) 1, om_e 17 .ireturn 1]
def om_B114 : List om_Bk := [(0, [true, false], om_E114_0, 18)]
def om_E115_0 : List om_E := [om_e 0 (.aload_n 0) 1, om_ef 1 (.getfield 40) 3 6 4 31 48, om_e 4 (.aload_n 0) 1, om_ef 5 (.getfield 51) 3 6 6 1 50, om_e 8 (.aload_n 0) 1, om_ef 9 (.getfield 12) 3 6 0 4 44, om_ef 12 (.getfield 61) 3 0 0 0 10000, om_ef 15 (.invokevirtual 205) 3 5 82 3 10023]
def om_E115_18 : List om_E := [om_e 18 .ireturn 1]
def om_B115 : List om_Bk := [(0, [true], om_E115_0, 18), (18, [false], om_E115_18, 19)]
def om_E116_0 : List om_E := [om_e 0 (.aload_n 0) 1, om_ef 1 (.getfield 40) 3 6 4 31 48, om_e 4 (.aload_n 0) 1, om_ef 5 (.getfield 51) 3 6 6 1 50, om_e 8 (.aload_n 0) 1, om_ef 9 (.getfield 12) 3 6 0 4 44, om_ef 12 (.getfield 61) 3 0 0 0 10000, om_ef 15 (.invokevirtual 205) 3 5 82 3 10023]
def om_E116_18 : List om_E := [om_ew 18 (.iconst (-1)) 1 (om_i (-1)) 0, om_et 19 (.if_icmp .eq 6) 3 25]
def om_E116_22 : List om_E := [om_ew 22 (.bipush (-4)) 2 (om_i (-4)) 0, om_e 24 .ireturn 1]
def om_E116_25 : List om_E := [om_e 25 (.aload_n 0) 1, om_ef 26 (.getfield 47) 3 6 5 1 49, om_e 29 (.astore_n 1) 1, om_e 30 (.aload_n 0) 1, om_e 31 (.aload_n 0) 1, om_ef 32 (.getfield 51) 3 6 6 1 50, om_ef 35 (.putfield 47) 3 6 5 1 49, om_e 38 (.aload_n 0) 1, om_e 39 (.aload_n 1) 1, om_ef 40 (.putfield 51) 3 6 6 1 50, om_e 43 (.aload_n 0) 1, om_ef 44 (.getfield 51) 3 6 6 1 50, om_ef 47 (.invokevirtual 209) 3 4 46 1 10031]
def om_E116_50 : List om_E := [om_e 50 (.aload_n 0) 1, om_ef 51 (.getfield 40) 3 6 4 31 48, om_ew 54 (.iconst 0) 1 (om_i (0)) 0, om_ef 55 (.putfield 197) 3 5 0 0 10029, om_e 58 (.aload_n 0) 1, om_ef 59 (.getfield 47) 3 6 5 1 49, om_e 62 (.aload_n 0) 1, om_ef 63 (.getfield 12) 3 6 0 4 44, om_e 66 (.aload_n 0) 1, om_ef 67 (.getfield 19) 3 6 1 10 45, om_e 70 (.aload_n 0) 1, om_ef 71 (.getfield 33) 3 6 3 17 47, om_ew 74 (.iconst (-1)) 1 (om_i (-1)) 0, om_ew 75 (.iconst 0) 1 (om_i (0)) 0, om_ef 76 (.invokevirtual 212) 3 4 57 6 10032]
def om_E116_79 : List om_E := [om_et 79 (.ifCond .eq 7) 3 86]
def om_E116_82 : List om_E := [om_ew 82 (.iconst 1) 1 (om_i (1)) 0, om_et 83 (.goto 4) 3 87]
def om_E116_86 : List om_E := [om_ew 86 (.iconst 0) 1 (om_i (0)) 0]
def om_E116_87 : List om_E := [om_e 87 .ireturn 1]
def om_B116 : List om_Bk := [(0, [true, false], om_E116_0, 18), (18, [true, false], om_E116_18, 22), (22, [false, false], om_E116_22, 25), (25, [true, false], om_E116_25, 50), (50, [true, false], om_E116_50, 79), (79, [false, false], om_E116_79, 82), (82, [false, false], om_E116_82, 86), (86, [false, false], om_E116_86, 87), (87, [false, false], om_E116_87, 88)]
def om_E117_0 : List om_E := [om_e 0 (.aload_n 0) 1, om_ef 1 (.getfield 47) 3 6 5 1 49, om_ef 4 (.getfield 216) 3 4 0 0 10030, om_et 7 (.ifCond .ne 6) 3 13]
def om_E117_10 : List om_E := [om_ew 10 (.bipush (-4)) 2 (om_i (-4)) 0, om_e 12 .ireturn 1]
def om_E117_13 : List om_E := [om_e 13 (.aload_n 0) 1, om_ef 14 (.getfield 47) 3 6 5 1 49, om_e 17 (.aload_n 0) 1, om_ef 18 (.getfield 12) 3 6 0 4 44, om_e 21 (.aload_n 0) 1, om_ef 22 (.getfield 19) 3 6 1 10 45, om_e 25 (.aload_n 0) 1, om_ef 26 (.getfield 33) 3 6 3 17 47, om_ew 29 (.iconst (-1)) 1 (om_i (-1)) 0, om_ew 30 (.iconst 0) 1 (om_i (0)) 0, om_ef 31 (.invokevirtual 212) 3 4 57 6 10032]
def om_E117_34 : List om_E := [om_et 34 (.ifCond .eq 7) 3 41]
def om_E117_37 : List om_E := [om_ew 37 (.iconst 1) 1 (om_i (1)) 0, om_et 38 (.goto 4) 3 42]
def om_E117_41 : List om_E := [om_ew 41 (.iconst 0) 1 (om_i (0)) 0]
def om_E117_42 : List om_E := [om_e 42 .ireturn 1]
def om_B117 : List om_Bk := [(0, [true], om_E117_0, 10), (10, [false], om_E117_10, 13), (13, [true], om_E117_13, 34), (34, [false], om_E117_34, 37), (37, [false], om_E117_37, 41), (41, [false], om_E117_41, 42), (42, [false], om_E117_42, 43)]
def om_E118_0 : List om_E := [om_e 0 (.aload_n 0) 1, om_ef 1 (.getfield 47) 3 6 5 1 49, om_ef 4 (.getfield 216) 3 4 0 0 10030, om_et 7 (.ifCond .ne 6) 3 13]
def om_E118_10 : List om_E := [om_ew 10 (.bipush (-4)) 2 (om_i (-4)) 0, om_e 12 .ireturn 1]
def om_E118_13 : List om_E := [om_e 13 (.aload_n 0) 1, om_ef 14 (.getfield 47) 3 6 5 1 49, om_e 17 (.aload_n 0) 1, om_ef 18 (.getfield 12) 3 6 0 4 44, om_e 21 (.aload_n 0) 1, om_ef 22 (.getfield 19) 3 6 1 10 45, om_e 25 (.aload_n 0) 1, om_ef 26 (.getfield 33) 3 6 3 17 47, om_ew 29 (.iconst (-1)) 1 (om_i (-1)) 0, om_ew 30 (.iconst 0) 1 (om_i (0)) 0, om_ef 31 (.invokevirtual 212) 3 4 57 6 10032]
def om_E118_34 : List om_E := [om_e 34 (.istore_n 1) 1, om_ew 35 (.iconst 0) 1 (om_i (0)) 0, om_e 36 (.istore_n 2) 1, om_ew 37 (.iconst 0) 1 (om_i (0)) 0, om_e 38 (.istore_n 3) 1]
def om_E118_39 : List om_E := [om_e 39 (.iload_n 3) 1, om_e 40 (.aload_n 0) 1, om_ef 41 (.getfield 12) 3 6 0 4 44, om_ef 44 (.getfield 78) 3 0 1 0 10003, om_et 47 (.if_icmp .ge 40) 3 87]
def om_E118_50 : List om_E := [om_e 50 (.aload_n 0) 1, om_ef 51 (.getfield 47) 3 6 5 1 49, om_e 54 (.aload_n 0) 1, om_ef 55 (.getfield 12) 3 6 0 4 44, om_e 58 (.aload_n 0) 1, om_ef 59 (.getfield 19) 3 6 1 10 45, om_e 62 (.aload_n 0) 1, om_ef 63 (.getfield 33) 3 6 3 17 47, om_e 66 (.iload_n 3) 1, om_ew 67 (.iconst 0) 1 (om_i (0)) 0, om_ef 68 (.invokevirtual 212) 3 4 57 6 10032]
def om_E118_71 : List om_E := [om_e 71 (.iload_n 1) 1, om_et 72 (.if_icmp .eq 9) 3 81]
def om_E118_75 : List om_E := [om_e 75 (.iload_n 2) 1, om_ew 76 (.iconst 1) 1 (om_i (1)) 0, om_e 77 (.iload_n 3) 1, om_e 78 .ishl 1, om_e 79 .ior 1, om_e 80 (.istore_n 2) 1]
def om_E118_81 : List om_E := [om_ec 81 (.iinc 3 1) 3 (om_i (1)), om_et 84 (.goto (-45)) 3 39]
def om_E118_87 : List om_E := [om_e 87 (.iload_n 2) 1, om_e 88 .ireturn 1]
def om_B118 : List om_Bk := [(0, [true, false, false, false], om_E118_0, 10), (10, [false, false, false, false], om_E118_10, 13), (13, [true, false, false, false], om_E118_13, 34), (34, [true, false, false, false], om_E118_34, 39), (39, [true, true, true, true], om_E118_39, 50), (50, [true, true, true, true], om_E118_50, 71), (71, [true, true, true, true], om_E118_71, 75), (75, [true, true, true, true], om_E118_75, 81), (81, [true, true, true, true], om_E118_81, 87), (87, [false, false, true, false], om_E118_87, 89)]
def om_E119_0 : List om_E := [om_e 0 (.aload_n 0) 1, om_ef 1 (.getfield 47) 3 6 5 1 49, om_ef 4 (.getfield 216) 3 4 0 0 10030, om_et 7 (.ifCond .ne 6) 3 13]
def om_E119_10 : List om_E := [om_ew 10 (.bipush (-4)) 2 (om_i (-4)) 0, om_e 12 .ireturn 1]
def om_E119_13 : List om_E := [om_e 13 (.aload_n 0) 1, om_ef 14 (.getfield 19) 3 6 1 10 45, om_e 17 (.aload_n 0) 1, om_ef 18 (.getfield 12) 3 6 0 4 44, om_ew 21 (.iconst (-1)) 1 (om_i (-1)) 0, om_ew 22 (.iconst 0) 1 (om_i (0)) 0, om_ef 23 (.invokevirtual 111) 3 3 31 4 10006]
def om_E119_26 : List om_E := [om_e 26 (.aload_n 0) 1, om_ef 27 (.getfield 19) 3 6 1 10 45, om_ef 30 (.invokevirtual 219) 3 3 35 1 10040]
def om_E119_33 : List om_E := [om_ew 33 (.iconst (-1)) 1 (om_i (-1)) 0, om_e 34 .ixor 1, om_e 35 (.istore_n 1) 1, om_ew 36 (.iconst 0) 1 (om_i (0)) 0, om_e 37 (.istore_n 2) 1]
def om_E119_38 : List om_E := [om_e 38 (.iload_n 2) 1, om_e 39 (.aload_n 0) 1, om_ef 40 (.getfield 12) 3 6 0 4 44, om_ef 43 (.getfield 61) 3 0 0 0 10000, om_et 46 (.if_icmp .gt 73) 3 119]
def om_E119_49 : List om_E := [om_ew 49 (.iconst 0) 1 (om_i (0)) 0, om_e 50 (.istore_n 3) 1]
def om_E119_51 : List om_E := [om_e 51 (.iload_n 3) 1, om_ew 52 (.iconst 1) 1 (om_i (1)) 0, om_e 53 (.aload_n 0) 1, om_ef 54 (.getfield 12) 3 6 0 4 44, om_ef 57 (.getfield 61) 3 0 0 0 10000, om_e 60 .ishl 1, om_et 61 (.if_icmp .ge 52) 3 113]
def om_E119_64 : List om_E := [om_e 64 (.iload_n 3) 1, om_ef 65 (.invokestatic 222) 3 0 17 1 93]
def om_E119_68 : List om_E := [om_e 68 (.iload_n 2) 1, om_et 69 (.if_icmp .ne 38) 3 107]
def om_E119_72 : List om_E := [om_e 72 (.iload_n 3) 1, om_e 73 (.iload_n 1) 1, om_e 74 .iand 1, om_et 75 (.ifCond .eq 6) 3 81]
def om_E119_78 : List om_E := [om_et 78 (.goto 29) 3 107]
def om_E119_81 : List om_E := [om_e 81 (.aload_n 0) 1, om_ef 82 (.getfield 47) 3 6 5 1 49, om_e 85 (.aload_n 0) 1, om_ef 86 (.getfield 12) 3 6 0 4 44, om_e 89 (.aload_n 0) 1, om_ef 90 (.getfield 19) 3 6 1 10 45, om_e 93 (.aload_n 0) 1, om_ef 94 (.getfield 33) 3 6 3 17 47, om_ew 97 (.iconst (-1)) 1 (om_i (-1)) 0, om_e 98 (.iload_n 3) 1, om_ef 99 (.invokevirtual 212) 3 4 57 6 10032]
def om_E119_102 : List om_E := [om_et 102 (.ifCond .eq 5) 3 107]
def om_E119_105 : List om_E := [om_e 105 (.iload_n 3) 1, om_e 106 .ireturn 1]
def om_E119_107 : List om_E := [om_ec 107 (.iinc 3 1) 3 (om_i (1)), om_et 110 (.goto (-59)) 3 51]
def om_E119_113 : List om_E := [om_ec 113 (.iinc 2 1) 3 (om_i (1)), om_et 116 (.goto (-78)) 3 38]
def om_E119_119 : List om_E := [om_ew 119 (.iconst (-1)) 1 (om_i (-1)) 0, om_e 120 .ireturn 1]
def om_B119 : List om_Bk := [(0, [true, false, false, false], om_E119_0, 10), (10, [false, false, false, false], om_E119_10, 13), (13, [true, false, false, false], om_E119_13, 26), (26, [true, false, false, false], om_E119_26, 33), (33, [true, false, false, false], om_E119_33, 38), (38, [true, true, true, false], om_E119_38, 49), (49, [true, true, true, false], om_E119_49, 51), (51, [true, true, true, true], om_E119_51, 64), (64, [true, true, true, true], om_E119_64, 68), (68, [true, true, true, true], om_E119_68, 72), (72, [true, true, true, true], om_E119_72, 78), (78, [true, true, true, true], om_E119_78, 81), (81, [true, true, true, true], om_E119_81, 102), (102, [true, true, true, true], om_E119_102, 105), (105, [false, false, false, true], om_E119_105, 107), (107, [true, true, true, true], om_E119_107, 113), (113, [true, true, true, false], om_E119_113, 119), (119, [false, false, false, false], om_E119_119, 121)]
def om_E120_0 : List om_E := [om_e 0 (.iload_n 1) 1, om_es 1 (.tableswitch 90 0 5 #[39, 47, 55, 66, 74, 82]) 39 91 [((0), 40), ((1), 48), ((2), 56), ((3), 67), ((4), 75), ((5), 83)]]
def om_E120_40 : List om_E := [om_e 40 (.aload_n 0) 1, om_ef 41 (.getfield 12) 3 6 0 4 44, om_ef 44 (.getfield 61) 3 0 0 0 10000, om_e 47 .ireturn 1]
def om_E120_48 : List om_E := [om_e 48 (.aload_n 0) 1, om_ef 49 (.getfield 12) 3 6 0 4 44, om_ef 52 (.getfield 78) 3 0 1 0 10003, om_e 55 .ireturn 1]
def om_E120_56 : List om_E := [om_e 56 (.aload_n 0) 1, om_ef 57 (.getfield 12) 3 6 0 4 44, om_ef 60 (.getfield 227) 3 0 2 0 10005, om_ef 63 (.invokestatic 222) 3 0 17 1 93]
def om_E120_66 : List om_E := [om_e 66 .ireturn 1]
def om_E120_67 : List om_E := [om_e 67 (.aload_n 0) 1, om_ef 68 (.getfield 12) 3 6 0 4 44, om_ef 71 (.invokevirtual 230) 3 0 7 1 10041]
def om_E120_74 : List om_E := [om_e 74 .ireturn 1]
def om_E120_75 : List om_E := [om_e 75 (.aload_n 0) 1, om_ef 76 (.getfield 40) 3 6 4 31 48, om_ef 79 (.getfield 197) 3 5 0 0 10029, om_e 82 .ireturn 1]
def om_E120_83 : List om_E := [om_e 83 (.aload_n 0) 1, om_ef 84 (.getfield 47) 3 6 5 1 49, om_ef 87 (.getfield 216) 3 4 0 0 10030, om_e 90 .ireturn 1]
def om_E120_91 : List om_E := [om_ew 91 (.bipush (-3)) 2 (om_i (-3)) 0, om_e 93 .ireturn 1]
def om_B120 : List om_Bk := [(0, [true, true], om_E120_0, 40), (40, [true, false], om_E120_40, 48), (48, [true, false], om_E120_48, 56), (56, [true, false], om_E120_56, 66), (66, [false, false], om_E120_66, 67), (67, [true, false], om_E120_67, 74), (74, [false, false], om_E120_74, 75), (75, [true, false], om_E120_75, 83), (83, [true, false], om_E120_83, 91), (91, [false, false], om_E120_91, 94)]
def om_E121_0 : List om_E := [om_e 0 (.lload_n 0) 1, om_e 1 (.lload_n 2) 1, om_e 2 .lcmp 1, om_et 3 (.ifCond .lt 14) 3 17]
def om_E121_6 : List om_E := [om_e 6 (.lload_n 0) 1, om_e 7 (.lload 4) 2, om_e 9 .lcmp 1, om_et 10 (.ifCond .gt 7) 3 17]
def om_E121_13 : List om_E := [om_ew 13 (.iconst 1) 1 (om_i (1)) 0, om_et 14 (.goto 4) 3 18]
def om_E121_17 : List om_E := [om_ew 17 (.iconst 0) 1 (om_i (0)) 0]
def om_E121_18 : List om_E := [om_e 18 .ireturn 1]
def om_B121 : List om_Bk := [(0, [true, false, true, false, true, false], om_E121_0, 6), (6, [true, false, false, false, true, false], om_E121_6, 13), (13, [false, false, false, false, false, false], om_E121_13, 17), (17, [false, false, false, false, false, false], om_E121_17, 18), (18, [false, false, false, false, false, false], om_E121_18, 19)]
def om_E122_0 : List om_E := [om_e 0 (.iload_n 1) 1, om_e 1 .i2l 1, om_ew 2 (.lconst 0) 1 (om_l (0)) 0, om_e 3 (.aload_n 0) 1, om_ef 4 (.getfield 81) 3 7 2 0 53, om_ew 7 (.iconst 1) 1 (om_i (1)) 0, om_e 8 .isub 1, om_e 9 .i2l 1, om_ef 10 (.invokestatic 84) 3 0 121 3 97]
def om_E122_13 : List om_E := [om_e 13 .ireturn 1]
def om_B122 : List om_Bk := [(0, [true, true], om_E122_0, 13), (13, [false, false], om_E122_13, 14)]
def om_E123_0 : List om_E := [om_e 0 (.iload_n 1) 1, om_e 1 .i2l 1, om_ew 2 (.lconst 0) 1 (om_l (0)) 0, om_e 3 (.aload_n 0) 1, om_ef 4 (.getfield 88) 3 7 6 0 57, om_ew 7 (.iconst 1) 1 (om_i (1)) 0, om_e 8 .isub 1, om_e 9 .i2l 1, om_ef 10 (.invokestatic 84) 3 0 121 3 97]
def om_E123_13 : List om_E := [om_e 13 .ireturn 1]
def om_B123 : List om_Bk := [(0, [true, true], om_E123_0, 13), (13, [false, false], om_E123_13, 14)]
def om_E124_0 : List om_E := [om_e 0 (.iload_n 1) 1, om_e 1 .i2l 1, om_ew 2 (.lconst 0) 1 (om_l (0)) 0, om_ew 3 (.iconst 1) 1 (om_i (1)) 0, om_e 4 (.aload_n 0) 1, om_ef 5 (.getfield 81) 3 7 2 0 53, om_e 8 .ishl 1, om_ew 9 (.iconst 1) 1 (om_i (1)) 0, om_e 10 .isub 1, om_e 11 .i2l 1, om_ef 12 (.invokestatic 84) 3 0 121 3 97]
def om_E124_15 : List om_E := [om_e 15 .ireturn 1]
def om_B124 : List om_Bk := [(0, [true, true], om_E124_0, 15), (15, [false, false], om_E124_15, 16)]
def om_E125_0 : List om_E := [om_e 0 (.iload_n 0) 1, om_e 1 .i2l 1, om_ew 2 (.lconst 0) 1 (om_l (0)) 0, om_ew 3 (.lconst 1) 1 (om_l (1)) 0, om_ef 4 (.invokestatic 84) 3 0 121 3 97]
def om_E125_7 : List om_E := [om_e 7 .ireturn 1]
def om_B125 : List om_Bk := [(0, [true], om_E125_0, 7), (7, [false], om_E125_7, 8)]
def om_E126_0 : List om_E := [om_e 0 (.iload_n 1) 1, om_ef 1 (.invokestatic 91) 3 0 125 1 96]
def om_E126_4 : List om_E := [om_et 4 (.ifCond .ne 6) 3 10]
def om_E126_7 : List om_E := [om_ew 7 (.bipush (-2)) 2 (om_i (-2)) 0, om_e 9 .ireturn 1]
def om_E126_10 : List om_E := [om_e 10 (.iload_n 2) 1, om_e 11 .i2l 1, om_ew 12 (.lconst 0) 1 (om_l (0)) 0, om_ew 13 (.ldc2_w 95) 3 (om_l (7)) 2, om_ef 16 (.invokestatic 84) 3 0 121 3 97]
def om_E126_19 : List om_E := [om_et 19 (.ifCond .ne 6) 3 25]
def om_E126_22 : List om_E := [om_ew 22 (.bipush (-3)) 2 (om_i (-3)) 0, om_e 24 .ireturn 1]
def om_E126_25 : List om_E := [om_e 25 (.aload_n 0) 1, om_ef 26 (.getfield 81) 3 7 2 0 53, om_ew 29 (.bipush 8) 2 (om_i (8)) 0, om_et 31 (.if_icmp .ne 6) 3 37]
def om_E126_34 : List om_E := [om_ew 34 (.bipush (-5)) 2 (om_i (-5)) 0, om_e 36 .ireturn 1]
def om_E126_37 : List om_E := [om_e 37 (.aload_n 0) 1, om_ef 38 (.getfield 7) 3 7 0 4 51, om_e 41 (.aload_n 0) 1, om_ef 42 (.getfield 81) 3 7 2 0 53, om_e 45 (.iload_n 1) 1, om_e 46 .iastore 1, om_e 47 (.aload_n 0) 1, om_ef 48 (.getfield 13) 3 7 1 5 52, om_e 51 (.aload_n 0) 1, om_ef 52 (.getfield 81) 3 7 2 0 53, om_e 55 (.iload_n 2) 1, om_e 56 .iastore 1, om_e 57 (.aload_n 0) 1, om_ef 58 (.getfield 25) 3 7 7 9 58, om_e 61 (.aload_n 0) 1, om_ef 62 (.getfield 81) 3 7 2 0 53, om_ew 65 (.iconst (-1)) 1 (om_i (-1)) 0, om_e 66 .iastore 1, om_e 67 (.aload_n 0) 1, om_e 68 .dup 1, om_ef 69 (.getfield 81) 3 7 2 0 53, om_ew 72 (.iconst 1) 1 (om_i (1)) 0, om_e 73 .iadd 1, om_ef 74 (.putfield 81) 3 7 2 0 53, om_e 77 (.aload_n 0) 1, om_ef 78 (.getfield 81) 3 7 2 0 53, om_ew 81 (.iconst 1) 1 (om_i (1)) 0, om_e 82 .isub 1, om_e 83 .ireturn 1]
def om_B126 : List om_Bk := [(0, [true, true, true], om_E126_0, 4), (4, [true, true, true], om_E126_4, 7), (7, [false, false, false], om_E126_7, 10), (10, [true, true, true], om_E126_10, 19), (19, [true, true, true], om_E126_19, 22), (22, [false, false, false], om_E126_22, 25), (25, [true, true, true], om_E126_25, 34), (34, [false, false, false], om_E126_34, 37), (37, [true, true, true], om_E126_37, 84)]
def om_E127_0 : List om_E := [om_ew 0 (.iconst (-1)) 1 (om_i (-1)) 0, om_e 1 (.istore_n 3) 1, om_ew 2 (.iconst 0) 1 (om_i (0)) 0, om_e 3 (.istore 4) 2]
def om_E127_5 : List om_E := [om_e 5 (.iload 4) 2, om_e 7 (.aload_n 0) 1, om_ef 8 (.getfield 88) 3 7 6 0 57, om_et 11 (.if_icmp .ge 38) 3 49]
def om_E127_14 : List om_E := [om_e 14 (.aload_n 0) 1, om_ef 15 (.getfield 16) 3 7 3 6 54, om_e 18 (.iload 4) 2, om_e 20 .iaload 1, om_e 21 (.iload_n 1) 1, om_et 22 (.if_icmp .ne 19) 3 41]
def om_E127_25 : List om_E := [om_e 25 (.aload_n 0) 1, om_ef 26 (.getfield 19) 3 7 4 7 55, om_e 29 (.iload 4) 2, om_e 31 .iaload 1, om_e 32 (.iload_n 2) 1, om_et 33 (.if_icmp .ne 8) 3 41]
def om_E127_36 : List om_E := [om_e 36 (.iload 4) 2, om_et 38 (.goto 4) 3 42]
def om_E127_41 : List om_E := [om_e 41 (.iload_n 3) 1]
def om_E127_42 : List om_E := [om_e 42 (.istore_n 3) 1, om_ec 43 (.iinc 4 1) 3 (om_i (1)), om_et 46 (.goto (-41)) 3 5]
def om_E127_49 : List om_E := [om_e 49 (.iload_n 3) 1, om_e 50 .ireturn 1]
def om_B127 : List om_Bk := [(0, [true, true, true, false, false], om_E127_0, 5), (5, [true, true, true, true, true], om_E127_5, 14), (14, [true, true, true, true, true], om_E127_14, 25), (25, [true, true, true, true, true], om_E127_25, 36), (36, [true, true, true, false, true], om_E127_36, 41), (41, [true, true, true, true, true], om_E127_41, 42), (42, [true, true, true, false, true], om_E127_42, 49), (49, [false, false, false, true, false], om_E127_49, 51)]
def om_E128_0 : List om_E := [om_e 0 (.aload_n 0) 1, om_e 1 (.iload_n 1) 1, om_ef 2 (.invokevirtual 97) 3 7 122 2 99]
def om_E128_5 : List om_E := [om_et 5 (.ifCond .eq 11) 3 16]
def om_E128_8 : List om_E := [om_e 8 (.aload_n 0) 1, om_e 9 (.iload_n 2) 1, om_ef 10 (.invokevirtual 97) 3 7 122 2 99]
def om_E128_13 : List om_E := [om_et 13 (.ifCond .ne 6) 3 19]
def om_E128_16 : List om_E := [om_ew 16 (.bipush (-2)) 2 (om_i (-2)) 0, om_e 18 .ireturn 1]
def om_E128_19 : List om_E := [om_e 19 (.iload_n 3) 1, om_e 20 .i2l 1, om_ew 21 (.ldc2_w 100) 3 (om_l (-5)) 3, om_ew 24 (.ldc2_w 102) 3 (om_l (5)) 4, om_ef 27 (.invokestatic 84) 3 0 121 3 97]
def om_E128_30 : List om_E := [om_et 30 (.ifCond .ne 6) 3 36]
def om_E128_33 : List om_E := [om_ew 33 (.bipush (-3)) 2 (om_i (-3)) 0, om_e 35 .ireturn 1]
def om_E128_36 : List om_E := [om_e 36 (.aload_n 0) 1, om_e 37 (.iload_n 1) 1, om_e 38 (.iload_n 2) 1, om_ef 39 (.invokevirtual 104) 3 7 127 3 100]
def om_E128_42 : List om_E := [om_ew 42 (.iconst (-1)) 1 (om_i (-1)) 0, om_et 43 (.if_icmp .eq 6) 3 49]
def om_E128_46 : List om_E := [om_ew 46 (.bipush (-4)) 2 (om_i (-4)) 0, om_e 48 .ireturn 1]
def om_E128_49 : List om_E := [om_e 49 (.aload_n 0) 1, om_ef 50 (.getfield 88) 3 7 6 0 57, om_ew 53 (.bipush 20) 2 (om_i (20)) 0, om_et 55 (.if_icmp .ne 6) 3 61]
def om_E128_58 : List om_E := [om_ew 58 (.bipush (-5)) 2 (om_i (-5)) 0, om_e 60 .ireturn 1]
def om_E128_61 : List om_E := [om_e 61 (.aload_n 0) 1, om_ef 62 (.getfield 16) 3 7 3 6 54, om_e 65 (.aload_n 0) 1, om_ef 66 (.getfield 88) 3 7 6 0 57, om_e 69 (.iload_n 1) 1, om_e 70 .iastore 1, om_e 71 (.aload_n 0) 1, om_ef 72 (.getfield 19) 3 7 4 7 55, om_e 75 (.aload_n 0) 1, om_ef 76 (.getfield 88) 3 7 6 0 57, om_e 79 (.iload_n 2) 1, om_e 80 .iastore 1, om_e 81 (.aload_n 0) 1, om_ef 82 (.getfield 22) 3 7 5 8 56, om_e 85 (.aload_n 0) 1, om_ef 86 (.getfield 88) 3 7 6 0 57, om_e 89 (.iload_n 3) 1, om_e 90 .iastore 1, om_e 91 (.aload_n 0) 1, om_e 92 .dup 1, om_ef 93 (.getfield 88) 3 7 6 0 57, om_ew 96 (.iconst 1) 1 (om_i (1)) 0, om_e 97 .iadd 1, om_ef 98 (.putfield 88) 3 7 6 0 57, om_e 101 (.aload_n 0) 1, om_ef 102 (.getfield 88) 3 7 6 0 57, om_ew 105 (.iconst 1) 1 (om_i (1)) 0, om_e 106 .isub 1, om_e 107 .ireturn 1]
def om_B128 : List om_Bk := [(0, [true, true, true, true], om_E128_0, 5), (5, [true, true, true, true], om_E128_5, 8), (8, [true, true, true, true], om_E128_8, 13), (13, [true, true, true, true], om_E128_13, 16), (16, [false, false, false, false], om_E128_16, 19), (19, [true, true, true, true], om_E128_19, 30), (30, [true, true, true, true], om_E128_30, 33), (33, [false, false, false, false], om_E128_33, 36), (36, [true, true, true, true], om_E128_36, 42), (42, [true, true, true, true], om_E128_42, 46), (46, [false, false, false, false], om_E128_46, 49), (49, [true, true, true, true], om_E128_49, 58), (58, [false, false, false, false], om_E128_58, 61), (61, [true, true, true, true], om_E128_61, 108)]
def om_E129_0 : List om_E := [om_e 0 (.aload_n 0) 1, om_e 1 (.iload_n 1) 1, om_ef 2 (.invokevirtual 108) 3 7 123 2 102]
def om_E129_5 : List om_E := [om_et 5 (.ifCond .ne 6) 3 11]
def om_E129_8 : List om_E := [om_ew 8 (.bipush (-2)) 2 (om_i (-2)) 0, om_e 10 .ireturn 1]
def om_E129_11 : List om_E := [om_e 11 (.aload_n 0) 1, om_e 12 .dup 1, om_ef 13 (.getfield 88) 3 7 6 0 57, om_ew 16 (.iconst 1) 1 (om_i (1)) 0, om_e 17 .isub 1, om_ef 18 (.putfield 88) 3 7 6 0 57, om_e 21 (.iload_n 1) 1, om_e 22 (.istore_n 2) 1]
def om_E129_23 : List om_E := [om_e 23 (.iload_n 2) 1, om_e 24 (.aload_n 0) 1, om_ef 25 (.getfield 88) 3 7 6 0 57, om_et 28 (.if_icmp .ge 51) 3 79]
def om_E129_31 : List om_E := [om_e 31 (.aload_n 0) 1, om_ef 32 (.getfield 16) 3 7 3 6 54, om_e 35 (.iload_n 2) 1, om_e 36 (.aload_n 0) 1, om_ef 37 (.getfield 16) 3 7 3 6 54, om_e 40 (.iload_n 2) 1, om_ew 41 (.iconst 1) 1 (om_i (1)) 0, om_e 42 .iadd 1, om_e 43 .iaload 1, om_e 44 .iastore 1, om_e 45 (.aload_n 0) 1, om_ef 46 (.getfield 19) 3 7 4 7 55, om_e 49 (.iload_n 2) 1, om_e 50 (.aload_n 0) 1, om_ef 51 (.getfield 19) 3 7 4 7 55, om_e 54 (.iload_n 2) 1, om_ew 55 (.iconst 1) 1 (om_i (1)) 0, om_e 56 .iadd 1, om_e 57 .iaload 1, om_e 58 .iastore 1, om_e 59 (.aload_n 0) 1, om_ef 60 (.getfield 22) 3 7 5 8 56, om_e 63 (.iload_n 2) 1, om_e 64 (.aload_n 0) 1, om_ef 65 (.getfield 22) 3 7 5 8 56, om_e 68 (.iload_n 2) 1, om_ew 69 (.iconst 1) 1 (om_i (1)) 0, om_e 70 .iadd 1, om_e 71 .iaload 1, om_e 72 .iastore 1, om_ec 73 (.iinc 2 1) 3 (om_i (1)), om_et 76 (.goto (-53)) 3 23]
def om_E129_79 : List om_E := [om_ew 79 (.iconst 0) 1 (om_i (0)) 0, om_e 80 (.istore_n 2) 1]
def om_E129_81 : List om_E := [om_e 81 (.iload_n 2) 1, om_e 82 (.aload_n 0) 1, om_ef 83 (.getfield 81) 3 7 2 0 53, om_et 86 (.if_icmp .ge 56) 3 142]
def om_E129_89 : List om_E := [om_e 89 (.aload_n 0) 1, om_ef 90 (.getfield 25) 3 7 7 9 58, om_e 93 (.iload_n 2) 1, om_e 94 (.aload_n 0) 1, om_ef 95 (.getfield 25) 3 7 7 9 58, om_e 98 (.iload_n 2) 1, om_e 99 .iaload 1, om_e 100 (.iload_n 1) 1, om_et 101 (.if_icmp .ne 7) 3 108]
def om_E129_104 : List om_E := [om_ew 104 (.iconst (-1)) 1 (om_i (-1)) 0, om_et 105 (.goto 30) 3 135]
def om_E129_108 : List om_E := [om_e 108 (.aload_n 0) 1, om_ef 109 (.getfield 25) 3 7 7 9 58, om_e 112 (.iload_n 2) 1, om_e 113 .iaload 1, om_e 114 (.iload_n 1) 1, om_et 115 (.if_icmp .le 14) 3 129]
def om_E129_118 : List om_E := [om_e 118 (.aload_n 0) 1, om_ef 119 (.getfield 25) 3 7 7 9 58, om_e 122 (.iload_n 2) 1, om_e 123 .iaload 1, om_ew 124 (.iconst 1) 1 (om_i (1)) 0, om_e 125 .isub 1, om_et 126 (.goto 9) 3 135]
def om_E129_129 : List om_E := [om_e 129 (.aload_n 0) 1, om_ef 130 (.getfield 25) 3 7 7 9 58, om_e 133 (.iload_n 2) 1, om_e 134 .iaload 1]
def om_E129_135 : List om_E := [om_e 135 .iastore 1, om_ec 136 (.iinc 2 1) 3 (om_i (1)), om_et 139 (.goto (-58)) 3 81]
def om_E129_142 : List om_E := [om_e 142 (.aload_n 0) 1, om_ef 143 (.getfield 88) 3 7 6 0 57, om_e 146 .ireturn 1]
def om_B129 : List om_Bk := [(0, [true, true, false], om_E129_0, 5), (5, [true, true, false], om_E129_5, 8), (8, [false, false, false], om_E129_8, 11), (11, [true, true, false], om_E129_11, 23), (23, [true, true, true], om_E129_23, 31), (31, [true, true, true], om_E129_31, 79), (79, [true, true, false], om_E129_79, 81), (81, [true, true, true], om_E129_81, 89), (89, [true, true, true], om_E129_89, 104), (104, [true, true, true], om_E129_104, 108), (108, [true, true, true], om_E129_108, 118), (118, [true, true, true], om_E129_118, 129), (129, [true, true, true], om_E129_129, 135), (135, [true, true, true], om_E129_135, 142), (142, [true, false, false], om_E129_142, 147)]
def om_E130_0 : List om_E := [om_e 0 (.aload_n 0) 1, om_e 1 (.iload_n 1) 1, om_ef 2 (.invokevirtual 97) 3 7 122 2 99]
def om_E130_5 : List om_E := [om_et 5 (.ifCond .eq 10) 3 15]
def om_E130_8 : List om_E := [om_e 8 (.iload_n 2) 1, om_ef 9 (.invokestatic 91) 3 0 125 1 96]
def om_E130_12 : List om_E := [om_et 12 (.ifCond .ne 6) 3 18]
def om_E130_15 : List om_E := [om_ew 15 (.bipush (-2)) 2 (om_i (-2)) 0, om_e 17 .ireturn 1]
def om_E130_18 : List om_E := [om_e 18 (.aload_n 0) 1, om_ef 19 (.getfield 7) 3 7 0 4 51, om_e 22 (.iload_n 1) 1, om_e 23 .iaload 1, om_e 24 (.istore_n 3) 1, om_e 25 (.aload_n 0) 1, om_ef 26 (.getfield 7) 3 7 0 4 51, om_e 29 (.iload_n 1) 1, om_e 30 (.iload_n 2) 1, om_e 31 .iastore 1, om_e 32 (.iload_n 3) 1, om_e 33 .ireturn 1]
def om_B130 : List om_Bk := [(0, [true, true, true, false], om_E130_0, 5), (5, [true, true, true, false], om_E130_5, 8), (8, [true, true, true, false], om_E130_8, 12), (12, [true, true, true, false], om_E130_12, 15), (15, [false, false, false, false], om_E130_15, 18), (18, [true, true, true, false], om_E130_18, 34)]
def om_E131_0 : List om_E := [om_e 0 (.iload_n 1) 1, om_et 1 (.ifCond .ne 23) 3 24]
def om_E131_4 : List om_E := [om_e 4 (.aload_n 0) 1, om_e 5 (.iload_n 2) 1, om_ef 6 (.invokevirtual 97) 3 7 122 2 99]
def om_E131_9 : List om_E := [om_et 9 (.ifCond .eq 15) 3 24]
def om_E131_12 : List om_E := [om_e 12 (.iload_n 3) 1, om_e 13 .i2l 1, om_ew 14 (.lconst 0) 1 (om_l (0)) 0, om_ew 15 (.ldc2_w 95) 3 (om_l (7)) 2, om_ef 18 (.invokestatic 84) 3 0 121 3 97]
def om_E131_21 : List om_E := [om_et 21 (.ifCond .ne 30) 3 51]
def om_E131_24 : List om_E := [om_e 24 (.iload_n 1) 1, om_ew 25 (.iconst 1) 1 (om_i (1)) 0, om_et 26 (.if_icmp .ne 29) 3 55]
def om_E131_29 : List om_E := [om_e 29 (.aload_n 0) 1, om_e 30 (.iload_n 2) 1, om_ef 31 (.invokevirtual 108) 3 7 123 2 102]
def om_E131_34 : List om_E := [om_et 34 (.ifCond .eq 21) 3 55]
def om_E131_37 : List om_E := [om_e 37 (.iload_n 3) 1, om_e 38 .i2l 1, om_ew 39 (.ldc2_w 100) 3 (om_l (-5)) 3, om_ew 42 (.ldc2_w 102) 3 (om_l (5)) 4, om_ef 45 (.invokestatic 84) 3 0 121 3 97]
def om_E131_48 : List om_E := [om_et 48 (.ifCond .eq 7) 3 55]
def om_E131_51 : List om_E := [om_ew 51 (.iconst 1) 1 (om_i (1)) 0, om_et 52 (.goto 4) 3 56]
def om_E131_55 : List om_E := [om_ew 55 (.iconst 0) 1 (om_i (0)) 0]
def om_E131_56 : List om_E := [om_e 56 (.istore 4) 2, om_e 58 (.iload 4) 2, om_et 60 (.ifCond .ne 6) 3 66]
def om_E131_63 : List om_E := [om_ew 63 (.ldc 111) 2 (om_i (-2147483648)) 5, om_e 65 .ireturn 1]
def om_E131_66 : List om_E := [om_e 66 (.iload_n 1) 1, om_et 67 (.ifCond .ne 12) 3 79]
def om_E131_70 : List om_E := [om_e 70 (.aload_n 0) 1, om_ef 71 (.getfield 13) 3 7 1 5 52, om_e 74 (.iload_n 2) 1, om_e 75 .iaload 1, om_et 76 (.goto 9) 3 85]
def om_E131_79 : List om_E := [om_e 79 (.aload_n 0) 1, om_ef 80 (.getfield 22) 3 7 5 8 56, om_e 83 (.iload_n 2) 1, om_e 84 .iaload 1]
def om_E131_85 : List om_E := [om_e 85 (.istore 5) 2, om_e 87 (.aload_n 0) 1, om_ef 88 (.getfield 13) 3 7 1 5 52, om_e 91 (.iload_n 1) 1, om_et 92 (.ifCond .ne 7) 3 99]
def om_E131_95 : List om_E := [om_e 95 (.iload_n 2) 1, om_et 96 (.goto 4) 3 100]
def om_E131_99 : List om_E := [om_ew 99 (.iconst 0) 1 (om_i (0)) 0]
def om_E131_100 : List om_E := [om_e 100 (.iload_n 1) 1, om_et 101 (.ifCond .ne 7) 3 108]
def om_E131_104 : List om_E := [om_e 104 (.iload_n 3) 1, om_et 105 (.goto 9) 3 114]
def om_E131_108 : List om_E := [om_e 108 (.aload_n 0) 1, om_ef 109 (.getfield 13) 3 7 1 5 52, om_ew 112 (.iconst 0) 1 (om_i (0)) 0, om_e 113 .iaload 1]
def om_E131_114 : List om_E := [om_e 114 .iastore 1, om_e 115 (.aload_n 0) 1, om_ef 116 (.getfield 22) 3 7 5 8 56, om_e 119 (.iload_n 1) 1, om_ew 120 (.iconst 1) 1 (om_i (1)) 0, om_et 121 (.if_icmp .ne 7) 3 128]
def om_E131_124 : List om_E := [om_e 124 (.iload_n 2) 1, om_et 125 (.goto 4) 3 129]
def om_E131_128 : List om_E := [om_ew 128 (.iconst 0) 1 (om_i (0)) 0]
def om_E131_129 : List om_E := [om_e 129 (.iload_n 1) 1, om_ew 130 (.iconst 1) 1 (om_i (1)) 0, om_et 131 (.if_icmp .ne 7) 3 138]
def om_E131_134 : List om_E := [om_e 134 (.iload_n 3) 1, om_et 135 (.goto 9) 3 144]
def om_E131_138 : List om_E := [om_e 138 (.aload_n 0) 1, om_ef 139 (.getfield 22) 3 7 5 8 56, om_ew 142 (.iconst 0) 1 (om_i (0)) 0, om_e 143 .iaload 1]
def om_E131_144 : List om_E := [om_e 144 .iastore 1, om_e 145 (.iload 5) 2, om_e 147 .ireturn 1]
def om_B131 : List om_Bk := [(0, [true, true, true, true, false, false], om_E131_0, 4), (4, [true, true, true, true, false, false], om_E131_4, 9), (9, [true, true, true, true, false, false], om_E131_9, 12), (12, [true, true, true, true, false, false], om_E131_12, 21), (21, [true, true, true, true, false, false], om_E131_21, 24), (24, [true, true, true, true, false, false], om_E131_24, 29), (29, [true, true, true, true, false, false], om_E131_29, 34), (34, [true, true, true, true, false, false], om_E131_34, 37), (37, [true, true, true, true, false, false], om_E131_37, 48), (48, [true, true, true, true, false, false], om_E131_48, 51), (51, [true, true, true, true, false, false], om_E131_51, 55), (55, [true, true, true, true, false, false], om_E131_55, 56), (56, [true, true, true, true, false, false], om_E131_56, 63), (63, [false, false, false, false, false, false], om_E131_63, 66), (66, [true, true, true, true, false, false], om_E131_66, 70), (70, [true, true, true, true, false, false], om_E131_70, 79), (79, [true, true, true, true, false, false], om_E131_79, 85), (85, [true, true, true, true, false, false], om_E131_85, 95), (95, [true, true, true, true, false, true], om_E131_95, 99), (99, [true, true, true, true, false, true], om_E131_99, 100), (100, [true, true, true, true, false, true], om_E131_100, 104), (104, [true, true, true, true, false, true], om_E131_104, 108), (108, [true, true, true, true, false, true], om_E131_108, 114), (114, [true, true, true, true, false, true], om_E131_114, 124), (124, [true, true, true, true, false, true], om_E131_124, 128), (128, [true, true, false, true, false, true], om_E131_128, 129), (129, [true, true, false, true, false, true], om_E131_129, 134), (134, [false, false, false, true, false, true], om_E131_134, 138), (138, [true, false, false, false, false, true], om_E131_138, 144), (144, [false, false, false, false, false, true], om_E131_144, 148)]
def om_E132_0 : List om_E := [om_e 0 (.aload_n 0) 1, om_e 1 (.iload_n 1) 1, om_ef 2 (.invokevirtual 97) 3 7 122 2 99]
def om_E132_5 : List om_E := [om_et 5 (.ifCond .eq 20) 3 25]
def om_E132_8 : List om_E := [om_e 8 (.aload_n 0) 1, om_e 9 (.iload_n 2) 1, om_ef 10 (.invokevirtual 97) 3 7 122 2 99]
def om_E132_13 : List om_E := [om_et 13 (.ifCond .eq 12) 3 25]
def om_E132_16 : List om_E := [om_e 16 (.aload_n 0) 1, om_e 17 (.iload_n 1) 1, om_e 18 (.iload_n 2) 1, om_ef 19 (.invokevirtual 104) 3 7 127 3 100]
def om_E132_22 : List om_E := [om_et 22 (.goto 5) 3 27]
def om_E132_25 : List om_E := [om_ew 25 (.bipush (-2)) 2 (om_i (-2)) 0]
def om_E132_27 : List om_E := [om_e 27 .ireturn 1]
def om_B132 : List om_Bk := [(0, [true, true, true], om_E132_0, 5), (5, [true, true, true], om_E132_5, 8), (8, [true, true, true], om_E132_8, 13), (13, [true, true, true], om_E132_13, 16), (16, [true, true, true], om_E132_16, 22), (22, [false, false, false], om_E132_22, 25), (25, [false, false, false], om_E132_25, 27), (27, [false, false, false], om_E132_27, 28)]
def om_E133_0 : List om_E := [om_e 0 (.iload_n 1) 1, om_e 1 (.aload_n 0) 1, om_ef 2 (.getfield 49) 3 7 18 0 69, om_et 5 (.if_icmp .eq 37) 3 42]
def om_E133_8 : List om_E := [om_e 8 (.aload_n 0) 1, om_ef 9 (.getfield 46) 3 7 17 16 68, om_e 12 (.aload_n 0) 1, om_ef 13 (.getfield 16) 3 7 3 6 54, om_e 16 (.iload_n 1) 1, om_e 17 .iaload 1, om_e 18 .iaload 1, om_ew 19 (.iconst (-1)) 1 (om_i (-1)) 0, om_et 20 (.if_icmp .eq 18) 3 38]
def om_E133_23 : List om_E := [om_e 23 (.aload_n 0) 1, om_ef 24 (.getfield 46) 3 7 17 16 68, om_e 27 (.aload_n 0) 1, om_ef 28 (.getfield 16) 3 7 3 6 54, om_e 31 (.iload_n 1) 1, om_e 32 .iaload 1, om_e 33 .iaload 1, om_e 34 (.iload_n 1) 1, om_et 35 (.if_icmp .ne 7) 3 42]
def om_E133_38 : List om_E := [om_ew 38 (.iconst 1) 1 (om_i (1)) 0, om_et 39 (.goto 4) 3 43]
def om_E133_42 : List om_E := [om_ew 42 (.iconst 0) 1 (om_i (0)) 0]
def om_E133_43 : List om_E := [om_e 43 .ireturn 1]
def om_B133 : List om_Bk := [(0, [true, true], om_E133_0, 8), (8, [true, true], om_E133_8, 23), (23, [true, true], om_E133_23, 38), (38, [false, false], om_E133_38, 42), (42, [false, false], om_E133_42, 43), (43, [false, false], om_E133_43, 44)]
def om_E134_0 : List om_E := [om_ew 0 (.iconst 0) 1 (om_i (0)) 0, om_e 1 (.istore_n 1) 1]
def om_E134_2 : List om_E := [om_e 2 (.iload_n 1) 1, om_e 3 (.aload_n 0) 1, om_ef 4 (.getfield 81) 3 7 2 0 53, om_et 7 (.if_icmp .ge 16) 3 23]
def om_E134_10 : List om_E := [om_e 10 (.aload_n 0) 1, om_ef 11 (.getfield 43) 3 7 16 15 67, om_e 14 (.iload_n 1) 1, om_ew 15 (.iconst 0) 1 (om_i (0)) 0, om_e 16 .iastore 1, om_ec 17 (.iinc 1 1) 3 (om_i (1)), om_et 20 (.goto (-18)) 3 2]
def om_E134_23 : List om_E := [om_ew 23 (.iconst 0) 1 (om_i (0)) 0, om_e 24 (.istore_n 1) 1]
def om_E134_25 : List om_E := [om_e 25 (.iload_n 1) 1, om_e 26 (.aload_n 0) 1, om_ef 27 (.getfield 88) 3 7 6 0 57, om_et 30 (.if_icmp .ge 43) 3 73]
def om_E134_33 : List om_E := [om_e 33 (.aload_n 0) 1, om_ef 34 (.getfield 43) 3 7 16 15 67, om_e 37 (.aload_n 0) 1, om_ef 38 (.getfield 16) 3 7 3 6 54, om_e 41 (.iload_n 1) 1, om_e 42 .iaload 1, om_e 43 .dup2 1, om_e 44 .iaload 1, om_e 45 (.aload_n 0) 1, om_e 46 (.iload_n 1) 1, om_ef 47 (.invokevirtual 112) 3 7 133 2 109]
def om_E134_50 : List om_E := [om_et 50 (.ifCond .eq 14) 3 64]
def om_E134_53 : List om_E := [om_ew 53 (.iconst 1) 1 (om_i (1)) 0, om_e 54 (.aload_n 0) 1, om_ef 55 (.getfield 19) 3 7 4 7 55, om_e 58 (.iload_n 1) 1, om_e 59 .iaload 1, om_e 60 .ishl 1, om_et 61 (.goto 4) 3 65]
def om_E134_64 : List om_E := [om_ew 64 (.iconst 0) 1 (om_i (0)) 0]
def om_E134_65 : List om_E := [om_e 65 .ior 1, om_e 66 .iastore 1, om_ec 67 (.iinc 1 1) 3 (om_i (1)), om_et 70 (.goto (-45)) 3 25]
def om_E134_73 : List om_E := [om_ew 73 (.iconst 0) 1 (om_i (0)) 0, om_e 74 (.istore_n 1) 1]
def om_E134_75 : List om_E := [om_e 75 (.iload_n 1) 1, om_e 76 (.aload_n 0) 1, om_ef 77 (.getfield 81) 3 7 2 0 53, om_et 80 (.if_icmp .ge 36) 3 116]
def om_E134_83 : List om_E := [om_e 83 (.aload_n 0) 1, om_ef 84 (.getfield 43) 3 7 16 15 67, om_e 87 (.iload_n 1) 1, om_e 88 (.aload_n 0) 1, om_ef 89 (.getfield 43) 3 7 16 15 67, om_e 92 (.iload_n 1) 1, om_e 93 .iaload 1, om_et 94 (.ifCond .ne 9) 3 103]
def om_E134_97 : List om_E := [om_ew 97 (.iconst 1) 1 (om_i (1)) 0, om_e 98 (.iload_n 1) 1, om_e 99 .ishl 1, om_et 100 (.goto 9) 3 109]
def om_E134_103 : List om_E := [om_e 103 (.aload_n 0) 1, om_ef 104 (.getfield 43) 3 7 16 15 67, om_e 107 (.iload_n 1) 1, om_e 108 .iaload 1]
def om_E134_109 : List om_E := [om_e 109 .iastore 1, om_ec 110 (.iinc 1 1) 3 (om_i (1)), om_et 113 (.goto (-38)) 3 75]
def om_E134_116 : List om_E := [om_e 116 .return_ 1]
def om_B134 : List om_Bk := [(0, [true, false], om_E134_0, 2), (2, [true, true], om_E134_2, 10), (10, [true, true], om_E134_10, 23), (23, [true, false], om_E134_23, 25), (25, [true, true], om_E134_25, 33), (33, [true, true], om_E134_33, 50), (50, [true, true], om_E134_50, 53), (53, [true, true], om_E134_53, 64), (64, [true, true], om_E134_64, 65), (65, [true, true], om_E134_65, 73), (73, [true, false], om_E134_73, 75), (75, [true, true], om_E134_75, 83), (83, [true, true], om_E134_83, 97), (97, [true, true], om_E134_97, 103), (103, [true, true], om_E134_103, 109), (109, [true, true], om_E134_109, 116), (116, [false, false], om_E134_116, 117)]
def om_E135_0 : List om_E := [om_ew 0 (.iconst 0) 1 (om_i (0)) 0, om_e 1 (.istore_n 1) 1]
def om_E135_2 : List om_E := [om_e 2 (.iload_n 1) 1, om_ew 3 (.bipush 8) 2 (om_i (8)) 0, om_et 5 (.if_icmp .ge 16) 3 21]
def om_E135_8 : List om_E := [om_e 8 (.aload_n 0) 1, om_ef 9 (.getfield 46) 3 7 17 16 68, om_e 12 (.iload_n 1) 1, om_ew 13 (.iconst (-1)) 1 (om_i (-1)) 0, om_e 14 .iastore 1, om_ec 15 (.iinc 1 1) 3 (om_i (1)), om_et 18 (.goto (-16)) 3 2]
def om_E135_21 : List om_E := [om_e 21 .return_ 1]
def om_B135 : List om_Bk := [(0, [true, false], om_E135_0, 2), (2, [true, true], om_E135_2, 8), (8, [true, true], om_E135_8, 21), (21, [false, false], om_E135_21, 22)]
def om_E136_0 : List om_E := [om_ew 0 (.iconst 0) 1 (om_i (0)) 0, om_e 1 (.istore_n 3) 1, om_ew 2 (.iconst 0) 1 (om_i (0)) 0, om_e 3 (.istore 4) 2]
def om_E136_5 : List om_E := [om_e 5 (.iload 4) 2, om_e 7 (.aload_n 0) 1, om_ef 8 (.getfield 81) 3 7 2 0 53, om_et 11 (.if_icmp .ge 77) 3 88]
def om_E136_14 : List om_E := [om_e 14 (.aload_n 0) 1, om_ef 15 (.getfield 7) 3 7 0 4 51, om_e 18 (.iload 4) 2, om_e 20 .iaload 1, om_e 21 (.iload_n 1) 1, om_et 22 (.if_icmp .ne 23) 3 45]
def om_E136_25 : List om_E := [om_e 25 (.aload_n 0) 1, om_ef 26 (.getfield 43) 3 7 16 15 67, om_e 29 (.iload 4) 2, om_e 31 .iaload 1, om_e 32 (.iload_n 2) 1, om_e 33 .iand 1, om_et 34 (.ifCond .eq 7) 3 41]
def om_E136_37 : List om_E := [om_ew 37 (.iconst 1) 1 (om_i (1)) 0, om_et 38 (.goto 26) 3 64]
def om_E136_41 : List om_E := [om_ew 41 (.iconst 0) 1 (om_i (0)) 0, om_et 42 (.goto 22) 3 64]
def om_E136_45 : List om_E := [om_e 45 (.aload_n 0) 1, om_ef 46 (.getfield 43) 3 7 16 15 67, om_e 49 (.iload 4) 2, om_e 51 .iaload 1, om_e 52 (.iload_n 2) 1, om_ew 53 (.iconst (-1)) 1 (om_i (-1)) 0, om_e 54 .ixor 1, om_e 55 .iand 1, om_et 56 (.ifCond .ne 7) 3 63]
def om_E136_59 : List om_E := [om_ew 59 (.iconst 1) 1 (om_i (1)) 0, om_et 60 (.goto 4) 3 64]
def om_E136_63 : List om_E := [om_ew 63 (.iconst 0) 1 (om_i (0)) 0]
def om_E136_64 : List om_E := [om_e 64 (.istore 5) 2, om_e 66 (.iload_n 3) 1, om_e 67 (.iload 5) 2, om_et 69 (.ifCond .eq 10) 3 79]
def om_E136_72 : List om_E := [om_ew 72 (.iconst 1) 1 (om_i (1)) 0, om_e 73 (.iload 4) 2, om_e 75 .ishl 1, om_et 76 (.goto 4) 3 80]
def om_E136_79 : List om_E := [om_ew 79 (.iconst 0) 1 (om_i (0)) 0]
def om_E136_80 : List om_E := [om_e 80 .ior 1, om_e 81 (.istore_n 3) 1, om_ec 82 (.iinc 4 1) 3 (om_i (1)), om_et 85 (.goto (-80)) 3 5]
def om_E136_88 : List om_E := [om_e 88 (.iload_n 3) 1, om_e 89 .ireturn 1]
def om_B136 : List om_Bk := [(0, [true, true, true, false, false, false], om_E136_0, 5), (5, [true, true, true, true, true, false], om_E136_5, 14), (14, [true, true, true, true, true, false], om_E136_14, 25), (25, [true, true, true, true, true, false], om_E136_25, 37), (37, [true, true, true, true, true, false], om_E136_37, 41), (41, [true, true, true, true, true, false], om_E136_41, 45), (45, [true, true, true, true, true, false], om_E136_45, 59), (59, [true, true, true, true, true, false], om_E136_59, 63), (63, [true, true, true, true, true, false], om_E136_63, 64), (64, [true, true, true, true, true, false], om_E136_64, 72), (72, [true, true, true, false, true, false], om_E136_72, 79), (79, [true, true, true, false, true, false], om_E136_79, 80), (80, [true, true, true, false, true, false], om_E136_80, 88), (88, [false, false, false, true, false, false], om_E136_88, 90)]
def om_E137_0 : List om_E := [om_e 0 (.iload_n 2) 1, om_e 1 (.istore_n 3) 1, om_ew 2 (.iconst (-1)) 1 (om_i (-1)) 0, om_e 3 (.istore 4) 2]
def om_E137_5 : List om_E := [om_e 5 (.iload_n 3) 1, om_e 6 (.iload 4) 2, om_et 8 (.if_icmp .eq 18) 3 26]
def om_E137_11 : List om_E := [om_e 11 (.iload_n 3) 1, om_e 12 (.istore 4) 2, om_e 14 (.iload_n 3) 1, om_e 15 (.aload_n 0) 1, om_e 16 (.iload_n 1) 1, om_e 17 (.iload_n 3) 1, om_ef 18 (.invokevirtual 115) 3 7 136 3 111]
def om_E137_21 : List om_E := [om_e 21 .ior 1, om_e 22 (.istore_n 3) 1, om_et 23 (.goto (-18)) 3 5]
def om_E137_26 : List om_E := [om_e 26 (.iload_n 3) 1, om_e 27 .ireturn 1]
def om_B137 : List om_Bk := [(0, [true, true, true, false, false], om_E137_0, 5), (5, [true, true, false, true, true], om_E137_5, 11), (11, [true, true, false, true, false], om_E137_11, 21), (21, [true, true, false, false, true], om_E137_21, 26), (26, [false, false, false, true, false], om_E137_26, 28)]
def om_E138_0 : List om_E := [om_e 0 (.iload_n 1) 1, om_ef 1 (.invokestatic 91) 3 0 125 1 96]
def om_E138_4 : List om_E := [om_et 4 (.ifCond .ne 6) 3 10]
def om_E138_7 : List om_E := [om_ew 7 (.bipush (-2)) 2 (om_i (-2)) 0, om_e 9 .ireturn 1]
def om_E138_10 : List om_E := [om_e 10 (.aload_n 0) 1, om_e 11 (.iload_n 2) 1, om_ef 12 (.invokevirtual 118) 3 7 124 2 107]
def om_E138_15 : List om_E := [om_et 15 (.ifCond .ne 6) 3 21]
def om_E138_18 : List om_E := [om_ew 18 (.bipush (-3)) 2 (om_i (-3)) 0, om_e 20 .ireturn 1]
def om_E138_21 : List om_E := [om_e 21 (.aload_n 0) 1, om_ef 22 (.invokevirtual 121) 3 7 134 1 108]
def om_E138_25 : List om_E := [om_e 25 (.aload_n 0) 1, om_e 26 (.iload_n 1) 1, om_e 27 (.iload_n 2) 1, om_ef 28 (.invokevirtual 124) 3 7 137 3 110]
def om_E138_31 : List om_E := [om_e 31 .ireturn 1]
def om_B138 : List om_Bk := [(0, [true, true, true], om_E138_0, 4), (4, [true, true, true], om_E138_4, 7), (7, [false, false, false], om_E138_7, 10), (10, [true, true, true], om_E138_10, 15), (15, [true, true, true], om_E138_15, 18), (18, [false, false, false], om_E138_18, 21), (21, [true, true, true], om_E138_21, 25), (25, [true, true, true], om_E138_25, 31), (31, [false, false, false], om_E138_31, 32)]
def om_E139_0 : List om_E := [om_e 0 (.iload_n 1) 1, om_ef 1 (.invokestatic 91) 3 0 125 1 96]
def om_E139_4 : List om_E := [om_et 4 (.ifCond .eq 11) 3 15]
def om_E139_7 : List om_E := [om_e 7 (.aload_n 0) 1, om_e 8 (.iload_n 3) 1, om_ef 9 (.invokevirtual 97) 3 7 122 2 99]
def om_E139_12 : List om_E := [om_et 12 (.ifCond .ne 6) 3 18]
def om_E139_15 : List om_E := [om_ew 15 (.bipush (-2)) 2 (om_i (-2)) 0, om_e 17 .ireturn 1]
def om_E139_18 : List om_E := [om_e 18 (.aload_n 0) 1, om_e 19 (.iload_n 2) 1, om_ef 20 (.invokevirtual 118) 3 7 124 2 107]
def om_E139_23 : List om_E := [om_et 23 (.ifCond .ne 6) 3 29]
def om_E139_26 : List om_E := [om_ew 26 (.bipush (-3)) 2 (om_i (-3)) 0, om_e 28 .ireturn 1]
def om_E139_29 : List om_E := [om_e 29 (.aload_n 0) 1, om_ef 30 (.invokevirtual 121) 3 7 134 1 108]
def om_E139_33 : List om_E := [om_e 33 (.iload_n 2) 1, om_e 34 (.istore 4) 2, om_ew 36 (.iconst 0) 1 (om_i (0)) 0, om_e 37 (.istore 5) 2]
def om_E139_39 : List om_E := [om_e 39 (.iload 5) 2, om_e 41 (.aload_n 0) 1, om_ef 42 (.getfield 81) 3 7 2 0 53, om_et 45 (.if_icmp .gt 34) 3 79]
def om_E139_48 : List om_E := [om_e 48 (.iload 4) 2, om_e 50 (.iload_n 3) 1, om_e 51 .ishr 1, om_ew 52 (.iconst 1) 1 (om_i (1)) 0, om_e 53 .iand 1, om_ew 54 (.iconst 1) 1 (om_i (1)) 0, om_et 55 (.if_icmp .ne 6) 3 61]
def om_E139_58 : List om_E := [om_e 58 (.iload 5) 2, om_e 60 .ireturn 1]
def om_E139_61 : List om_E := [om_e 61 (.iload 4) 2, om_e 63 (.aload_n 0) 1, om_e 64 (.iload_n 1) 1, om_e 65 (.iload 4) 2, om_ef 67 (.invokevirtual 115) 3 7 136 3 111]
def om_E139_70 : List om_E := [om_e 70 .ior 1, om_e 71 (.istore 4) 2, om_ec 73 (.iinc 5 1) 3 (om_i (1)), om_et 76 (.goto (-37)) 3 39]
def om_E139_79 : List om_E := [om_ew 79 (.iconst (-1)) 1 (om_i (-1)) 0, om_e 80 .ireturn 1]
def om_B139 : List om_Bk := [(0, [true, true, true, true, false, false], om_E139_0, 4), (4, [true, true, true, true, false, false], om_E139_4, 7), (7, [true, true, true, true, false, false], om_E139_7, 12), (12, [true, true, true, true, false, false], om_E139_12, 15), (15, [false, false, false, false, false, false], om_E139_15, 18), (18, [true, true, true, true, false, false], om_E139_18, 23), (23, [true, true, true, true, false, false], om_E139_23, 26), (26, [false, false, false, false, false, false], om_E139_26, 29), (29, [true, true, true, true, false, false], om_E139_29, 33), (33, [true, true, true, true, false, false], om_E139_33, 39), (39, [true, true, false, true, true, true], om_E139_39, 48), (48, [true, true, false, true, true, true], om_E139_48, 58), (58, [false, false, false, false, false, true], om_E139_58, 61), (61, [true, true, false, true, true, true], om_E139_61, 70), (70, [true, true, false, true, false, true], om_E139_70, 79), (79, [false, false, false, false, false, false], om_E139_79, 81)]
def om_E140_0 : List om_E := [om_e 0 (.iload_n 2) 1, om_e 1 (.istore_n 3) 1, om_ew 2 (.iconst (-1)) 1 (om_i (-1)) 0, om_e 3 (.istore 4) 2]
def om_E140_5 : List om_E := [om_e 5 (.iload_n 3) 1, om_e 6 (.iload 4) 2, om_et 8 (.if_icmp .eq 18) 3 26]
def om_E140_11 : List om_E := [om_e 11 (.iload_n 3) 1, om_e 12 (.istore 4) 2, om_e 14 (.iload_n 3) 1, om_e 15 (.aload_n 0) 1, om_e 16 (.iload_n 1) 1, om_e 17 (.iload_n 3) 1, om_ef 18 (.invokevirtual 115) 3 7 136 3 111]
def om_E140_21 : List om_E := [om_e 21 .iand 1, om_e 22 (.istore_n 3) 1, om_et 23 (.goto (-18)) 3 5]
def om_E140_26 : List om_E := [om_e 26 (.iload_n 3) 1, om_e 27 .ireturn 1]
def om_B140 : List om_Bk := [(0, [true, true, true, false, false], om_E140_0, 5), (5, [true, true, false, true, true], om_E140_5, 11), (11, [true, true, false, true, false], om_E140_11, 21), (21, [true, true, false, false, true], om_E140_21, 26), (26, [false, false, false, true, false], om_E140_26, 28)]
def om_E141_0 : List om_E := [om_e 0 (.iload_n 1) 1, om_ef 1 (.invokestatic 91) 3 0 125 1 96]
def om_E141_4 : List om_E := [om_et 4 (.ifCond .ne 6) 3 10]
def om_E141_7 : List om_E := [om_ew 7 (.bipush (-2)) 2 (om_i (-2)) 0, om_e 9 .ireturn 1]
def om_E141_10 : List om_E := [om_e 10 (.aload_n 0) 1, om_e 11 (.iload_n 2) 1, om_ef 12 (.invokevirtual 118) 3 7 124 2 107]
def om_E141_15 : List om_E := [om_et 15 (.ifCond .ne 6) 3 21]
def om_E141_18 : List om_E := [om_ew 18 (.bipush (-3)) 2 (om_i (-3)) 0, om_e 20 .ireturn 1]
def om_E141_21 : List om_E := [om_e 21 (.aload_n 0) 1, om_ef 22 (.invokevirtual 121) 3 7 134 1 108]
def om_E141_25 : List om_E := [om_e 25 (.aload_n 0) 1, om_e 26 (.iload_n 1) 1, om_e 27 (.iload_n 2) 1, om_ef 28 (.invokevirtual 127) 3 7 140 3 114]
def om_E141_31 : List om_E := [om_e 31 .ireturn 1]
def om_B141 : List om_Bk := [(0, [true, true, true], om_E141_0, 4), (4, [true, true, true], om_E141_4, 7), (7, [false, false, false], om_E141_7, 10), (10, [true, true, true], om_E141_10, 15), (15, [true, true, true], om_E141_15, 18), (18, [false, false, false], om_E141_18, 21), (21, [true, true, true], om_E141_21, 25), (25, [true, true, true], om_E141_25, 31), (31, [false, false, false], om_E141_31, 32)]
def om_E142_0 : List om_E := [om_ew 0 (.iconst 1) 1 (om_i (1)) 0, om_e 1 (.aload_n 0) 1, om_ef 2 (.getfield 81) 3 7 2 0 53, om_e 5 .ishl 1, om_ew 6 (.iconst 1) 1 (om_i (1)) 0, om_e 7 .isub 1, om_e 8 (.istore 4) 2, om_ew 10 (.iconst (-1)) 1 (om_i (-1)) 0, om_e 11 (.istore 5) 2]
def om_E142_13 : List om_E := [om_e 13 (.iload 4) 2, om_e 15 (.iload 5) 2, om_et 17 (.if_icmp .eq 43) 3 60]
def om_E142_20 : List om_E := [om_e 20 (.iload 4) 2, om_e 22 (.istore 5) 2, om_e 24 (.aload_n 0) 1, om_e 25 (.iload_n 1) 1, om_e 26 (.iload 4) 2, om_ef 28 (.invokevirtual 115) 3 7 136 3 111]
def om_E142_31 : List om_E := [om_e 31 (.istore 6) 2, om_e 33 (.iload 4) 2, om_e 35 (.aload_n 0) 1, om_e 36 (.iload_n 1) 1, om_e 37 (.iload_n 2) 1, om_e 38 (.iload 6) 2, om_e 40 .iand 1, om_ef 41 (.invokevirtual 124) 3 7 137 3 110]
def om_E142_44 : List om_E := [om_e 44 (.aload_n 0) 1, om_e 45 (.iload_n 1) 1, om_e 46 (.iload_n 3) 1, om_e 47 (.iload 6) 2, om_e 49 .iand 1, om_ef 50 (.invokevirtual 124) 3 7 137 3 110]
def om_E142_53 : List om_E := [om_e 53 .iand 1, om_e 54 .iand 1, om_e 55 (.istore 4) 2, om_et 57 (.goto (-44)) 3 13]
def om_E142_60 : List om_E := [om_e 60 (.iload 4) 2, om_e 62 .ireturn 1]
def om_B142 : List om_Bk := [(0, [true, true, true, true, false, false, false], om_E142_0, 13), (13, [true, true, true, true, true, true, false], om_E142_13, 20), (20, [true, true, true, true, true, false, false], om_E142_20, 31), (31, [true, true, true, true, true, true, false], om_E142_31, 44), (44, [true, true, true, true, false, true, true], om_E142_44, 53), (53, [true, true, true, true, false, true, false], om_E142_53, 60), (60, [false, false, false, false, true, false, false], om_E142_60, 63)]
def om_E143_0 : List om_E := [om_e 0 (.iload_n 1) 1, om_ef 1 (.invokestatic 91) 3 0 125 1 96]
def om_E143_4 : List om_E := [om_et 4 (.ifCond .ne 6) 3 10]
def om_E143_7 : List om_E := [om_ew 7 (.bipush (-2)) 2 (om_i (-2)) 0, om_e 9 .ireturn 1]
def om_E143_10 : List om_E := [om_e 10 (.aload_n 0) 1, om_e 11 (.iload_n 2) 1, om_ef 12 (.invokevirtual 118) 3 7 124 2 107]
def om_E143_15 : List om_E := [om_et 15 (.ifCond .ne 6) 3 21]
def om_E143_18 : List om_E := [om_ew 18 (.bipush (-3)) 2 (om_i (-3)) 0, om_e 20 .ireturn 1]
def om_E143_21 : List om_E := [om_e 21 (.aload_n 0) 1, om_ef 22 (.invokevirtual 121) 3 7 134 1 108]
def om_E143_25 : List om_E := [om_e 25 (.aload_n 0) 1, om_e 26 (.iload_n 1) 1, om_e 27 (.iload_n 2) 1, om_e 28 (.iload_n 2) 1, om_ef 29 (.invokevirtual 130) 3 7 142 4 116]
def om_E143_32 : List om_E := [om_e 32 .ireturn 1]
def om_B143 : List om_Bk := [(0, [true, true, true], om_E143_0, 4), (4, [true, true, true], om_E143_4, 7), (7, [false, false, false], om_E143_7, 10), (10, [true, true, true], om_E143_10, 15), (15, [true, true, true], om_E143_15, 18), (18, [false, false, false], om_E143_18, 21), (21, [true, true, true], om_E143_21, 25), (25, [true, true, true], om_E143_25, 32), (32, [false, false, false], om_E143_32, 33)]
def om_E144_0 : List om_E := [om_e 0 (.iload_n 1) 1, om_ef 1 (.invokestatic 91) 3 0 125 1 96]
def om_E144_4 : List om_E := [om_et 4 (.ifCond .ne 6) 3 10]
def om_E144_7 : List om_E := [om_ew 7 (.bipush (-2)) 2 (om_i (-2)) 0, om_e 9 .ireturn 1]
def om_E144_10 : List om_E := [om_e 10 (.aload_n 0) 1, om_e 11 (.iload_n 2) 1, om_ef 12 (.invokevirtual 118) 3 7 124 2 107]
def om_E144_15 : List om_E := [om_et 15 (.ifCond .eq 11) 3 26]
def om_E144_18 : List om_E := [om_e 18 (.aload_n 0) 1, om_e 19 (.iload_n 3) 1, om_ef 20 (.invokevirtual 118) 3 7 124 2 107]
def om_E144_23 : List om_E := [om_et 23 (.ifCond .ne 6) 3 29]
def om_E144_26 : List om_E := [om_ew 26 (.bipush (-3)) 2 (om_i (-3)) 0, om_e 28 .ireturn 1]
def om_E144_29 : List om_E := [om_e 29 (.aload_n 0) 1, om_ef 30 (.invokevirtual 121) 3 7 134 1 108]
def om_E144_33 : List om_E := [om_e 33 (.aload_n 0) 1, om_e 34 (.iload_n 1) 1, om_e 35 (.iload_n 2) 1, om_e 36 (.iload_n 3) 1, om_ef 37 (.invokevirtual 130) 3 7 142 4 116]
def om_E144_40 : List om_E := [om_e 40 .ireturn 1]
def om_B144 : List om_Bk := [(0, [true, true, true, true], om_E144_0, 4), (4, [true, true, true, true], om_E144_4, 7), (7, [false, false, false, false], om_E144_7, 10), (10, [true, true, true, true], om_E144_10, 15), (15, [true, true, true, true], om_E144_15, 18), (18, [true, true, true, true], om_E144_18, 23), (23, [true, true, true, true], om_E144_23, 26), (26, [false, false, false, false], om_E144_26, 29), (29, [true, true, true, true], om_E144_29, 33), (33, [true, true, true, true], om_E144_33, 40), (40, [false, false, false, false], om_E144_40, 41)]
def om_E145_0 : List om_E := [om_e 0 (.iload_n 0) 1, om_et 1 (.ifCond .ne 9) 3 10]
def om_E145_4 : List om_E := [om_ew 4 (.sipush 729) 3 (om_i (729)) 0, om_et 7 (.goto 24) 3 31]
def om_E145_10 : List om_E := [om_e 10 (.iload_n 0) 1, om_ew 11 (.iconst 1) 1 (om_i (1)) 0, om_et 12 (.if_icmp .ne 8) 3 20]
def om_E145_15 : List om_E := [om_ew 15 (.bipush 81) 2 (om_i (81)) 0, om_et 17 (.goto 14) 3 31]
def om_E145_20 : List om_E := [om_e 20 (.iload_n 0) 1, om_ew 21 (.iconst 2) 1 (om_i (2)) 0, om_et 22 (.if_icmp .ne 8) 3 30]
def om_E145_25 : List om_E := [om_ew 25 (.bipush 9) 2 (om_i (9)) 0, om_et 27 (.goto 4) 3 31]
def om_E145_30 : List om_E := [om_ew 30 (.iconst 1) 1 (om_i (1)) 0]
def om_E145_31 : List om_E := [om_e 31 .ireturn 1]
def om_B145 : List om_Bk := [(0, [true], om_E145_0, 4), (4, [false], om_E145_4, 10), (10, [true], om_E145_10, 15), (15, [false], om_E145_15, 20), (20, [true], om_E145_20, 25), (25, [false], om_E145_25, 30), (30, [false], om_E145_30, 31), (31, [false], om_E145_31, 32)]
def om_E146_0 : List om_E := [om_e 0 (.iload_n 1) 1, om_ew 1 (.iconst 1) 1 (om_i (1)) 0, om_e 2 .iadd 1, om_ew 3 (.iconst 2) 1 (om_i (2)) 0, om_e 4 .idiv 1, om_e 5 (.istore_n 3) 1, om_e 6 (.iload_n 2) 1, om_ew 7 (.ldc 134) 2 (om_i (100000)) 6, om_et 9 (.if_icmp .eq 7) 3 16]
def om_E146_12 : List om_E := [om_e 12 (.iload_n 3) 1, om_et 13 (.ifCond .ne 16) 3 29]
def om_E146_16 : List om_E := [om_e 16 (.iload_n 2) 1, om_ew 17 (.ldc 134) 2 (om_i (100000)) 6, om_et 19 (.if_icmp .ne 8) 3 27]
def om_E146_22 : List om_E := [om_ew 22 (.ldc 134) 2 (om_i (100000)) 6, om_et 24 (.goto 4) 3 28]
def om_E146_27 : List om_E := [om_ew 27 (.iconst 0) 1 (om_i (0)) 0]
def om_E146_28 : List om_E := [om_e 28 .ireturn 1]
def om_E146_29 : List om_E := [om_e 29 (.iload_n 2) 1, om_e 30 (.iload_n 3) 1, om_ew 31 (.iconst 1) 1 (om_i (1)) 0, om_e 32 .isub 1, om_ef 33 (.invokestatic 135) 3 0 145 1 122]
def om_E146_36 : List om_E := [om_e 36 .idiv 1, om_e 37 (.iload_n 3) 1, om_ew 38 (.iconst 1) 1 (om_i (1)) 0, om_e 39 .isub 1, om_ef 40 (.invokestatic 135) 3 0 145 1 122]
def om_E146_43 : List om_E := [om_e 43 .imul 1, om_e 44 (.istore 4) 2, om_e 46 (.iload_n 1) 1, om_ew 47 (.iconst 2) 1 (om_i (2)) 0, om_e 48 .irem 1, om_et 49 (.ifCond .ne 6) 3 55]
def om_E146_52 : List om_E := [om_e 52 (.iload 4) 2, om_e 54 .ireturn 1]
def om_E146_55 : List om_E := [om_e 55 (.iload_n 3) 1, om_ew 56 (.iconst 1) 1 (om_i (1)) 0, om_e 57 .isub 1, om_e 58 (.istore 5) 2]
def om_E146_60 : List om_E := [om_e 60 (.iload 5) 2, om_et 62 (.ifCond .lt 48) 3 110]
def om_E146_65 : List om_E := [om_e 65 (.iload 4) 2, om_e 67 (.iload 5) 2, om_ef 69 (.invokestatic 135) 3 0 145 1 122]
def om_E146_72 : List om_E := [om_e 72 .idiv 1, om_ew 73 (.bipush 9) 2 (om_i (9)) 0, om_e 75 .irem 1, om_e 76 (.aload_n 0) 1, om_ef 77 (.getfield 56) 3 7 20 18 71, om_e 80 (.iload 5) 2, om_e 82 .iaload 1, om_et 83 (.if_icmp .ne 27) 3 110]
def om_E146_86 : List om_E := [om_e 86 (.iload 4) 2, om_e 88 (.aload_n 0) 1, om_ef 89 (.getfield 56) 3 7 20 18 71, om_e 92 (.iload 5) 2, om_e 94 .iaload 1, om_e 95 (.iload 5) 2, om_ef 97 (.invokestatic 135) 3 0 145 1 122]
def om_E146_100 : List om_E := [om_e 100 .imul 1, om_e 101 .isub 1, om_e 102 (.istore 4) 2, om_ec 104 (.iinc 5 (-1)) 3 (om_i (-1)), om_et 107 (.goto (-47)) 3 60]
def om_E146_110 : List om_E := [om_e 110 (.iload 5) 2, om_et 112 (.ifCond .ge 8) 3 120]
def om_E146_115 : List om_E := [om_ew 115 (.ldc 134) 2 (om_i (100000)) 6, om_et 117 (.goto 11) 3 128]
def om_E146_120 : List om_E := [om_e 120 (.iload 4) 2, om_e 122 (.iload 5) 2, om_ef 124 (.invokestatic 135) 3 0 145 1 122]
def om_E146_127 : List om_E := [om_e 127 .iadd 1]
def om_E146_128 : List om_E := [om_e 128 .ireturn 1]
def om_B146 : List om_Bk := [(0, [true, true, true, false, false, false], om_E146_0, 12), (12, [true, true, true, true, false, false], om_E146_12, 16), (16, [false, false, true, false, false, false], om_E146_16, 22), (22, [false, false, false, false, false, false], om_E146_22, 27), (27, [false, false, false, false, false, false], om_E146_27, 28), (28, [false, false, false, false, false, false], om_E146_28, 29), (29, [true, true, true, true, false, false], om_E146_29, 36), (36, [true, true, false, true, false, false], om_E146_36, 43), (43, [true, true, false, true, false, false], om_E146_43, 52), (52, [false, false, false, false, true, false], om_E146_52, 55), (55, [true, false, false, true, true, false], om_E146_55, 60), (60, [true, false, false, false, true, true], om_E146_60, 65), (65, [true, false, false, false, true, true], om_E146_65, 72), (72, [true, false, false, false, true, true], om_E146_72, 86), (86, [true, false, false, false, true, true], om_E146_86, 100), (100, [true, false, false, false, false, true], om_E146_100, 110), (110, [false, false, false, false, true, true], om_E146_110, 115), (115, [false, false, false, false, false, false], om_E146_115, 120), (120, [false, false, false, false, true, true], om_E146_120, 127), (127, [false, false, false, false, false, false], om_E146_127, 128), (128, [false, false, false, false, false, false], om_E146_128, 129)]
def om_E147_0 : List om_E := [om_e 0 (.aload_n 0) 1, om_ef 1 (.getfield 7) 3 7 0 4 51, om_e 4 (.iload_n 1) 1, om_e 5 .iaload 1, om_et 6 (.ifCond .ne 8) 3 14]
def om_E147_9 : List om_E := [om_ew 9 (.ldc 134) 2 (om_i (100000)) 6, om_et 11 (.goto 4) 3 15]
def om_E147_14 : List om_E := [om_ew 14 (.iconst 0) 1 (om_i (0)) 0]
def om_E147_15 : List om_E := [om_e 15 (.istore_n 2) 1, om_ew 16 (.iconst 0) 1 (om_i (0)) 0, om_e 17 (.istore_n 3) 1]
def om_E147_18 : List om_E := [om_e 18 (.iload_n 3) 1, om_e 19 (.aload_n 0) 1, om_ef 20 (.getfield 81) 3 7 2 0 53, om_et 23 (.if_icmp .ge 78) 3 101]
def om_E147_26 : List om_E := [om_e 26 (.aload_n 0) 1, om_ef 27 (.getfield 43) 3 7 16 15 67, om_e 30 (.iload_n 1) 1, om_e 31 .iaload 1, om_e 32 (.iload_n 3) 1, om_e 33 .ishr 1, om_ew 34 (.iconst 1) 1 (om_i (1)) 0, om_e 35 .iand 1, om_ew 36 (.iconst 1) 1 (om_i (1)) 0, om_et 37 (.if_icmp .ne 58) 3 95]
def om_E147_40 : List om_E := [om_e 40 (.aload_n 0) 1, om_e 41 (.aload_n 0) 1, om_ef 42 (.getfield 13) 3 7 1 5 52, om_e 45 (.iload_n 1) 1, om_e 46 .iaload 1, om_e 47 (.aload_n 0) 1, om_ef 48 (.getfield 53) 3 7 19 17 70, om_e 51 (.iload_n 3) 1, om_e 52 .iaload 1, om_ef 53 (.invokevirtual 139) 3 7 146 3 121]
def om_E147_56 : List om_E := [om_e 56 (.istore 4) 2, om_e 58 (.aload_n 0) 1, om_ef 59 (.getfield 7) 3 7 0 4 51, om_e 62 (.iload_n 1) 1, om_e 63 .iaload 1, om_et 64 (.ifCond .ne 18) 3 82]
def om_E147_67 : List om_E := [om_e 67 (.iload 4) 2, om_e 69 (.iload_n 2) 1, om_et 70 (.if_icmp .ge 8) 3 78]
def om_E147_73 : List om_E := [om_e 73 (.iload 4) 2, om_et 75 (.goto 19) 3 94]
def om_E147_78 : List om_E := [om_e 78 (.iload_n 2) 1, om_et 79 (.goto 15) 3 94]
def om_E147_82 : List om_E := [om_e 82 (.iload 4) 2, om_e 84 (.iload_n 2) 1, om_et 85 (.if_icmp .le 8) 3 93]
def om_E147_88 : List om_E := [om_e 88 (.iload 4) 2, om_et 90 (.goto 4) 3 94]
def om_E147_93 : List om_E := [om_e 93 (.iload_n 2) 1]
def om_E147_94 : List om_E := [om_e 94 (.istore_n 2) 1]
def om_E147_95 : List om_E := [om_ec 95 (.iinc 3 1) 3 (om_i (1)), om_et 98 (.goto (-80)) 3 18]
def om_E147_101 : List om_E := [om_e 101 (.iload_n 2) 1, om_e 102 .ireturn 1]
def om_B147 : List om_Bk := [(0, [true, true, false, false, false], om_E147_0, 9), (9, [true, true, false, false, false], om_E147_9, 14), (14, [true, true, false, false, false], om_E147_14, 15), (15, [true, true, false, false, false], om_E147_15, 18), (18, [true, true, true, true, false], om_E147_18, 26), (26, [true, true, true, true, false], om_E147_26, 40), (40, [true, true, true, true, false], om_E147_40, 56), (56, [true, true, true, true, false], om_E147_56, 67), (67, [true, true, true, true, true], om_E147_67, 73), (73, [true, true, false, true, true], om_E147_73, 78), (78, [true, true, true, true, false], om_E147_78, 82), (82, [true, true, true, true, true], om_E147_82, 88), (88, [true, true, false, true, true], om_E147_88, 93), (93, [true, true, true, true, false], om_E147_93, 94), (94, [true, true, false, true, false], om_E147_94, 95), (95, [true, true, true, true, false], om_E147_95, 101), (101, [false, false, true, false, false], om_E147_101, 103)]
def om_E148_0 : List om_E := [om_ew 0 (.iconst 0) 1 (om_i (0)) 0, om_e 1 (.istore_n 1) 1]
def om_E148_2 : List om_E := [om_e 2 (.iload_n 1) 1, om_ew 3 (.iconst 4) 1 (om_i (4)) 0, om_et 4 (.if_icmp .ge 16) 3 20]
def om_E148_7 : List om_E := [om_e 7 (.aload_n 0) 1, om_ef 8 (.getfield 56) 3 7 20 18 71, om_e 11 (.iload_n 1) 1, om_ew 12 (.iconst 0) 1 (om_i (0)) 0, om_e 13 .iastore 1, om_ec 14 (.iinc 1 1) 3 (om_i (1)), om_et 17 (.goto (-15)) 3 2]
def om_E148_20 : List om_E := [om_ew 20 (.iconst 0) 1 (om_i (0)) 0, om_e 21 (.istore_n 1) 1]
def om_E148_22 : List om_E := [om_e 22 (.iload_n 1) 1, om_e 23 (.aload_n 0) 1, om_ef 24 (.getfield 81) 3 7 2 0 53, om_et 27 (.if_icmp .ge 40) 3 67]
def om_E148_30 : List om_E := [om_e 30 (.aload_n 0) 1, om_ef 31 (.getfield 53) 3 7 19 17 70, om_e 34 (.iload_n 1) 1, om_ew 35 (.iconst 0) 1 (om_i (0)) 0, om_e 36 .iastore 1, om_e 37 (.aload_n 0) 1, om_ef 38 (.getfield 56) 3 7 20 18 71, om_e 41 (.aload_n 0) 1, om_ef 42 (.getfield 13) 3 7 1 5 52, om_e 45 (.iload_n 1) 1, om_e 46 .iaload 1, om_ew 47 (.iconst 2) 1 (om_i (2)) 0, om_e 48 .idiv 1, om_e 49 .dup2 1, om_e 50 .iaload 1, om_e 51 (.aload_n 0) 1, om_ef 52 (.getfield 13) 3 7 1 5 52, om_e 55 (.iload_n 1) 1, om_e 56 .iaload 1, om_ew 57 (.iconst 2) 1 (om_i (2)) 0, om_e 58 .irem 1, om_e 59 .iadd 1, om_e 60 .iastore 1, om_ec 61 (.iinc 1 1) 3 (om_i (1)), om_et 64 (.goto (-42)) 3 22]
def om_E148_67 : List om_E := [om_ew 67 (.iconst 1) 1 (om_i (1)) 0, om_e 68 (.istore_n 1) 1]
def om_E148_69 : List om_E := [om_e 69 (.iload_n 1) 1, om_et 70 (.ifCond .eq 49) 3 119]
def om_E148_73 : List om_E := [om_ew 73 (.iconst 0) 1 (om_i (0)) 0, om_e 74 (.istore_n 1) 1, om_ew 75 (.iconst 0) 1 (om_i (0)) 0, om_e 76 (.istore_n 2) 1]
def om_E148_77 : List om_E := [om_e 77 (.iload_n 2) 1, om_e 78 (.aload_n 0) 1, om_ef 79 (.getfield 81) 3 7 2 0 53, om_et 82 (.if_icmp .ge 34) 3 116]
def om_E148_85 : List om_E := [om_e 85 (.aload_n 0) 1, om_e 86 (.iload_n 2) 1, om_ef 87 (.invokevirtual 142) 3 7 147 2 120]
def om_E148_90 : List om_E := [om_e 90 (.istore_n 3) 1, om_e 91 (.iload_n 3) 1, om_e 92 (.aload_n 0) 1, om_ef 93 (.getfield 53) 3 7 19 17 70, om_e 96 (.iload_n 2) 1, om_e 97 .iaload 1, om_et 98 (.if_icmp .le 12) 3 110]
def om_E148_101 : List om_E := [om_e 101 (.aload_n 0) 1, om_ef 102 (.getfield 53) 3 7 19 17 70, om_e 105 (.iload_n 2) 1, om_e 106 (.iload_n 3) 1, om_e 107 .iastore 1, om_ew 108 (.iconst 1) 1 (om_i (1)) 0, om_e 109 (.istore_n 1) 1]
def om_E148_110 : List om_E := [om_ec 110 (.iinc 2 1) 3 (om_i (1)), om_et 113 (.goto (-36)) 3 77]
def om_E148_116 : List om_E := [om_et 116 (.goto (-47)) 3 69]
def om_E148_119 : List om_E := [om_ew 119 (.iconst 0) 1 (om_i (0)) 0, om_e 120 (.istore_n 2) 1, om_ew 121 (.iconst 0) 1 (om_i (0)) 0, om_e 122 (.istore_n 3) 1]
def om_E148_123 : List om_E := [om_e 123 (.iload_n 3) 1, om_e 124 (.aload_n 0) 1, om_ef 125 (.getfield 81) 3 7 2 0 53, om_et 128 (.if_icmp .ge 30) 3 158]
def om_E148_131 : List om_E := [om_e 131 (.iload_n 2) 1, om_e 132 (.aload_n 0) 1, om_ef 133 (.getfield 53) 3 7 19 17 70, om_e 136 (.iload_n 3) 1, om_e 137 .iaload 1, om_ew 138 (.ldc 134) 2 (om_i (100000)) 6, om_et 140 (.if_icmp .ne 7) 3 147]
def om_E148_143 : List om_E := [om_ew 143 (.iconst 0) 1 (om_i (0)) 0, om_et 144 (.goto 6) 3 150]
def om_E148_147 : List om_E := [om_ew 147 (.iconst 1) 1 (om_i (1)) 0, om_e 148 (.iload_n 3) 1, om_e 149 .ishl 1]
def om_E148_150 : List om_E := [om_e 150 .ior 1, om_e 151 (.istore_n 2) 1, om_ec 152 (.iinc 3 1) 3 (om_i (1)), om_et 155 (.goto (-32)) 3 123]
def om_E148_158 : List om_E := [om_e 158 (.iload_n 2) 1, om_e 159 .ireturn 1]
def om_B148 : List om_Bk := [(0, [true, false, false, false], om_E148_0, 2), (2, [true, true, false, false], om_E148_2, 7), (7, [true, true, false, false], om_E148_7, 20), (20, [true, false, false, false], om_E148_20, 22), (22, [true, true, false, false], om_E148_22, 30), (30, [true, true, false, false], om_E148_30, 67), (67, [true, false, false, false], om_E148_67, 69), (69, [true, true, false, false], om_E148_69, 73), (73, [true, false, false, false], om_E148_73, 77), (77, [true, true, true, false], om_E148_77, 85), (85, [true, true, true, false], om_E148_85, 90), (90, [true, true, true, false], om_E148_90, 101), (101, [true, false, true, true], om_E148_101, 110), (110, [true, true, true, false], om_E148_110, 116), (116, [true, true, false, false], om_E148_116, 119), (119, [true, false, false, false], om_E148_119, 123), (123, [true, false, true, true], om_E148_123, 131), (131, [true, false, true, true], om_E148_131, 143), (143, [true, false, false, true], om_E148_143, 147), (147, [true, false, false, true], om_E148_147, 150), (150, [true, false, false, true], om_E148_150, 158), (158, [false, false, true, false], om_E148_158, 160)]
def om_E149_0 : List om_E := [om_e 0 (.aload_n 0) 1, om_ef 1 (.invokevirtual 121) 3 7 134 1 108]
def om_E149_4 : List om_E := [om_e 4 (.aload_n 0) 1, om_ef 5 (.invokevirtual 145) 3 7 148 1 119]
def om_E149_8 : List om_E := [om_e 8 .ireturn 1]
def om_B149 : List om_Bk := [(0, [true], om_E149_0, 4), (4, [true], om_E149_4, 8), (8, [false], om_E149_8, 9)]
def om_E150_0 : List om_E := [om_e 0 (.aload_n 0) 1, om_ef 1 (.invokevirtual 121) 3 7 134 1 108]
def om_E150_4 : List om_E := [om_e 4 (.aload_n 0) 1, om_ef 5 (.invokevirtual 145) 3 7 148 1 119]
def om_E150_8 : List om_E := [om_e 8 (.istore_n 2) 1, om_e 9 (.iload_n 1) 1, om_et 10 (.ifCond .ne 7) 3 17]
def om_E150_13 : List om_E := [om_e 13 (.iload_n 2) 1, om_et 14 (.goto 15) 3 29]
def om_E150_17 : List om_E := [om_ew 17 (.iconst 1) 1 (om_i (1)) 0, om_e 18 (.aload_n 0) 1, om_ef 19 (.getfield 81) 3 7 2 0 53, om_e 22 .ishl 1, om_ew 23 (.iconst 1) 1 (om_i (1)) 0, om_e 24 .isub 1, om_e 25 (.iload_n 2) 1, om_ew 26 (.iconst (-1)) 1 (om_i (-1)) 0, om_e 27 .ixor 1, om_e 28 .iand 1]
def om_E150_29 : List om_E := [om_e 29 .ireturn 1]
def om_B150 : List om_Bk := [(0, [true, true, false], om_E150_0, 4), (4, [true, true, false], om_E150_4, 8), (8, [true, true, false], om_E150_8, 13), (13, [false, false, true], om_E150_13, 17), (17, [true, false, true], om_E150_17, 29), (29, [false, false, false], om_E150_29, 30)]
def om_E151_0 : List om_E := [om_ew 0 (.iconst 0) 1 (om_i (0)) 0, om_e 1 (.istore_n 2) 1, om_ew 2 (.iconst 0) 1 (om_i (0)) 0, om_e 3 (.istore_n 3) 1]
def om_E151_4 : List om_E := [om_e 4 (.iload_n 3) 1, om_e 5 (.aload_n 0) 1, om_ef 6 (.getfield 88) 3 7 6 0 57, om_et 9 (.if_icmp .ge 29) 3 38]
def om_E151_12 : List om_E := [om_e 12 (.iload_n 2) 1, om_et 13 (.ifCond .ne 13) 3 26]
def om_E151_16 : List om_E := [om_e 16 (.aload_n 0) 1, om_ef 17 (.getfield 16) 3 7 3 6 54, om_e 20 (.iload_n 3) 1, om_e 21 .iaload 1, om_e 22 (.iload_n 1) 1, om_et 23 (.if_icmp .ne 7) 3 30]
def om_E151_26 : List om_E := [om_ew 26 (.iconst 1) 1 (om_i (1)) 0, om_et 27 (.goto 4) 3 31]
def om_E151_30 : List om_E := [om_ew 30 (.iconst 0) 1 (om_i (0)) 0]
def om_E151_31 : List om_E := [om_e 31 (.istore_n 2) 1, om_ec 32 (.iinc 3 1) 3 (om_i (1)), om_et 35 (.goto (-31)) 3 4]
def om_E151_38 : List om_E := [om_e 38 (.iload_n 2) 1, om_e 39 .ireturn 1]
def om_B151 : List om_Bk := [(0, [true, true, false, false], om_E151_0, 4), (4, [true, true, true, true], om_E151_4, 12), (12, [true, true, true, true], om_E151_12, 16), (16, [true, true, false, true], om_E151_16, 26), (26, [true, true, false, true], om_E151_26, 30), (30, [true, true, false, true], om_E151_30, 31), (31, [true, true, false, true], om_E151_31, 38), (38, [false, false, true, false], om_E151_38, 40)]
def om_E152_0 : List om_E := [om_e 0 (.aload_n 0) 1, om_e 1 (.iload_n 1) 1, om_ef 2 (.invokevirtual 97) 3 7 122 2 99]
def om_E152_5 : List om_E := [om_et 5 (.ifCond .ne 6) 3 11]
def om_E152_8 : List om_E := [om_ew 8 (.bipush (-2)) 2 (om_i (-2)) 0, om_e 10 .ireturn 1]
def om_E152_11 : List om_E := [om_e 11 (.aload_n 0) 1, om_ef 12 (.getfield 7) 3 7 0 4 51, om_e 15 (.iload_n 1) 1, om_e 16 .iaload 1, om_e 17 (.istore_n 2) 1, om_e 18 (.aload_n 0) 1, om_e 19 (.iload_n 2) 1, om_ef 20 (.invokevirtual 149) 3 7 150 2 124]
def om_E152_23 : List om_E := [om_e 23 (.istore_n 3) 1, om_e 24 (.iload_n 3) 1, om_e 25 (.iload_n 1) 1, om_e 26 .ishr 1, om_ew 27 (.iconst 1) 1 (om_i (1)) 0, om_e 28 .iand 1, om_et 29 (.ifCond .eq 11) 3 40]
def om_E152_32 : List om_E := [om_e 32 (.aload_n 0) 1, om_e 33 (.iload_n 1) 1, om_ef 34 (.invokevirtual 152) 3 7 151 2 125]
def om_E152_37 : List om_E := [om_et 37 (.ifCond .ne 5) 3 42]
def om_E152_40 : List om_E := [om_ew 40 (.iconst (-1)) 1 (om_i (-1)) 0, om_e 41 .ireturn 1]
def om_E152_42 : List om_E := [om_ew 42 (.iconst 0) 1 (om_i (0)) 0, om_e 43 (.istore 4) 2]
def om_E152_45 : List om_E := [om_e 45 (.iload 4) 2, om_e 47 (.iload_n 1) 1, om_et 48 (.if_icmp .gt 100) 3 148]
def om_E152_51 : List om_E := [om_e 51 (.aload_n 0) 1, om_ef 52 (.getfield 7) 3 7 0 4 51, om_e 55 (.iload 4) 2, om_e 57 .iaload 1, om_e 58 (.iload_n 2) 1, om_et 59 (.if_icmp .ne 83) 3 142]
def om_E152_62 : List om_E := [om_e 62 (.iload_n 3) 1, om_e 63 (.iload 4) 2, om_e 65 .ishr 1, om_ew 66 (.iconst 1) 1 (om_i (1)) 0, om_e 67 .iand 1, om_ew 68 (.iconst 1) 1 (om_i (1)) 0, om_et 69 (.if_icmp .ne 73) 3 142]
def om_E152_72 : List om_E := [om_ew 72 (.iconst 0) 1 (om_i (0)) 0, om_e 73 (.istore 5) 2, om_e 75 (.aload_n 0) 1, om_e 76 (.iload 4) 2, om_ef 78 (.invokevirtual 152) 3 7 151 2 125]
def om_E152_81 : List om_E := [om_et 81 (.ifCond .ne 7) 3 88]
def om_E152_84 : List om_E := [om_ew 84 (.iconst 1) 1 (om_i (1)) 0, om_et 85 (.goto 4) 3 89]
def om_E152_88 : List om_E := [om_ew 88 (.iconst 0) 1 (om_i (0)) 0]
def om_E152_89 : List om_E := [om_e 89 (.istore 6) 2]
def om_E152_91 : List om_E := [om_e 91 (.iload 6) 2, om_et 93 (.ifCond .ne 49) 3 142]
def om_E152_96 : List om_E := [om_e 96 (.aload_n 0) 1, om_ef 97 (.getfield 16) 3 7 3 6 54, om_e 100 (.iload 5) 2, om_e 102 .iaload 1, om_e 103 (.iload 4) 2, om_et 105 (.if_icmp .ne 31) 3 136]
def om_E152_108 : List om_E := [om_e 108 (.aload_n 0) 1, om_ef 109 (.getfield 46) 3 7 17 16 68, om_e 112 (.iload 4) 2, om_e 114 (.iload 5) 2, om_e 116 .iastore 1, om_e 117 (.iload_n 3) 1, om_e 118 (.aload_n 0) 1, om_e 119 (.iload_n 2) 1, om_ef 120 (.invokevirtual 149) 3 7 150 2 124]
def om_E152_123 : List om_E := [om_ew 123 (.iconst (-1)) 1 (om_i (-1)) 0, om_e 124 .ixor 1, om_e 125 .iand 1, om_et 126 (.ifCond .ne 7) 3 133]
def om_E152_129 : List om_E := [om_ew 129 (.iconst 1) 1 (om_i (1)) 0, om_et 130 (.goto 4) 3 134]
def om_E152_133 : List om_E := [om_ew 133 (.iconst 0) 1 (om_i (0)) 0]
def om_E152_134 : List om_E := [om_e 134 (.istore 6) 2]
def om_E152_136 : List om_E := [om_ec 136 (.iinc 5 1) 3 (om_i (1)), om_et 139 (.goto (-48)) 3 91]
def om_E152_142 : List om_E := [om_ec 142 (.iinc 4 1) 3 (om_i (1)), om_et 145 (.goto (-100)) 3 45]
def om_E152_148 : List om_E := [om_e 148 (.aload_n 0) 1, om_ef 149 (.getfield 46) 3 7 17 16 68, om_e 152 (.iload_n 1) 1, om_e 153 .iaload 1, om_e 154 (.istore 4) 2, om_e 156 (.aload_n 0) 1, om_ef 157 (.invokevirtual 155) 3 7 135 1 126]
def om_E152_160 : List om_E := [om_e 160 (.iload 4) 2, om_e 162 .ireturn 1]
def om_B152 : List om_Bk := [(0, [true, true, false, false, false, false, false], om_E152_0, 5), (5, [true, true, false, false, false, false, false], om_E152_5, 8), (8, [false, false, false, false, false, false, false], om_E152_8, 11), (11, [true, true, false, false, false, false, false], om_E152_11, 23), (23, [true, true, true, false, false, false, false], om_E152_23, 32), (32, [true, true, true, true, false, false, false], om_E152_32, 37), (37, [true, true, true, true, false, false, false], om_E152_37, 40), (40, [false, false, false, false, false, false, false], om_E152_40, 42), (42, [true, true, true, true, false, false, false], om_E152_42, 45), (45, [true, true, true, true, true, false, false], om_E152_45, 51), (51, [true, true, true, true, true, false, false], om_E152_51, 62), (62, [true, true, true, true, true, false, false], om_E152_62, 72), (72, [true, true, true, true, true, false, false], om_E152_72, 81), (81, [true, true, true, true, true, true, false], om_E152_81, 84), (84, [true, true, true, true, true, true, false], om_E152_84, 88), (88, [true, true, true, true, true, true, false], om_E152_88, 89), (89, [true, true, true, true, true, true, false], om_E152_89, 91), (91, [true, true, true, true, true, true, true], om_E152_91, 96), (96, [true, true, true, true, true, true, true], om_E152_96, 108), (108, [true, true, true, true, true, true, false], om_E152_108, 123), (123, [true, true, true, true, true, true, false], om_E152_123, 129), (129, [true, true, true, true, true, true, false], om_E152_129, 133), (133, [true, true, true, true, true, true, false], om_E152_133, 134), (134, [true, true, true, true, true, true, false], om_E152_134, 136), (136, [true, true, true, true, true, true, true], om_E152_136, 142), (142, [true, true, true, true, true, false, false], om_E152_142, 148), (148, [true, true, false, false, false, false, false], om_E152_148, 160), (160, [false, false, false, false, true, false, false], om_E152_160, 163)]
def om_E153_0 : List om_E := [om_e 0 (.iload_n 2) 1, om_ew 1 (.iconst (-1)) 1 (om_i (-1)) 0, om_et 2 (.if_icmp .ne 12) 3 14]
def om_E153_5 : List om_E := [om_e 5 (.aload_n 0) 1, om_ef 6 (.getfield 22) 3 7 5 8 56, om_e 9 (.iload_n 1) 1, om_e 10 .iaload 1, om_et 11 (.goto 13) 3 24]
def om_E153_14 : List om_E := [om_e 14 (.iload_n 2) 1, om_e 15 (.aload_n 0) 1, om_ef 16 (.getfield 16) 3 7 3 6 54, om_e 19 (.iload_n 1) 1, om_e 20 .iaload 1, om_e 21 .ishr 1, om_ew 22 (.iconst 1) 1 (om_i (1)) 0, om_e 23 .iand 1]
def om_E153_24 : List om_E := [om_e 24 .ireturn 1]
def om_B153 : List om_Bk := [(0, [true, true, true], om_E153_0, 5), (5, [true, true, false], om_E153_5, 14), (14, [true, true, true], om_E153_14, 24), (24, [false, false, false], om_E153_24, 25)]
def om_E154_0 : List om_E := [om_ew 0 (.iconst 0) 1 (om_i (0)) 0, om_e 1 (.istore_n 3) 1]
def om_E154_2 : List om_E := [om_e 2 (.iload_n 3) 1, om_e 3 (.aload_n 0) 1, om_ef 4 (.getfield 81) 3 7 2 0 53, om_et 7 (.if_icmp .ge 168) 3 175]
def om_E154_10 : List om_E := [om_ew 10 (.iconst 0) 1 (om_i (0)) 0, om_e 11 (.istore 4) 2, om_ew 13 (.iconst 0) 1 (om_i (0)) 0, om_e 14 (.istore 5) 2, om_ew 16 (.iconst 0) 1 (om_i (0)) 0, om_e 17 (.istore 6) 2]
def om_E154_19 : List om_E := [om_e 19 (.iload 6) 2, om_e 21 (.aload_n 0) 1, om_ef 22 (.getfield 88) 3 7 6 0 57, om_et 25 (.if_icmp .ge 107) 3 132]
def om_E154_28 : List om_E := [om_e 28 (.aload_n 0) 1, om_ef 29 (.getfield 16) 3 7 3 6 54, om_e 32 (.iload 6) 2, om_e 34 .iaload 1, om_e 35 (.iload_n 3) 1, om_et 36 (.if_icmp .ne 90) 3 126]
def om_E154_39 : List om_E := [om_e 39 (.iload 6) 2, om_e 41 (.aload_n 0) 1, om_ef 42 (.getfield 49) 3 7 18 0 69, om_et 45 (.if_icmp .eq 81) 3 126]
def om_E154_48 : List om_E := [om_e 48 (.aload_n 0) 1, om_e 49 (.iload 6) 2, om_e 51 (.iload_n 2) 1, om_ef 52 (.invokevirtual 158) 3 7 153 3 130]
def om_E154_55 : List om_E := [om_e 55 (.aload_n 0) 1, om_ef 56 (.getfield 59) 3 7 21 19 72, om_e 59 (.aload_n 0) 1, om_ef 60 (.getfield 19) 3 7 4 7 55, om_e 63 (.iload 6) 2, om_e 65 .iaload 1, om_e 66 .iaload 1, om_e 67 .iadd 1, om_e 68 (.istore 7) 2, om_e 70 (.iload 4) 2, om_et 72 (.ifCond .eq 30) 3 102]
def om_E154_75 : List om_E := [om_e 75 (.aload_n 0) 1, om_ef 76 (.getfield 7) 3 7 0 4 51, om_e 79 (.iload_n 3) 1, om_e 80 .iaload 1, om_e 81 (.iload_n 1) 1, om_et 82 (.if_icmp .ne 13) 3 95]
def om_E154_85 : List om_E := [om_e 85 (.iload 7) 2, om_e 87 (.iload 5) 2, om_et 89 (.if_icmp .le 17) 3 106]
def om_E154_92 : List om_E := [om_et 92 (.goto 10) 3 102]
def om_E154_95 : List om_E := [om_e 95 (.iload 7) 2, om_e 97 (.iload 5) 2, om_et 99 (.if_icmp .ge 7) 3 106]
def om_E154_102 : List om_E := [om_ew 102 (.iconst 1) 1 (om_i (1)) 0, om_et 103 (.goto 4) 3 107]
def om_E154_106 : List om_E := [om_ew 106 (.iconst 0) 1 (om_i (0)) 0]
def om_E154_107 : List om_E := [om_e 107 (.istore 8) 2, om_e 109 (.iload 8) 2, om_et 111 (.ifCond .eq 8) 3 119]
def om_E154_114 : List om_E := [om_e 114 (.iload 7) 2, om_et 116 (.goto 5) 3 121]
def om_E154_119 : List om_E := [om_e 119 (.iload 5) 2]
def om_E154_121 : List om_E := [om_e 121 (.istore 5) 2, om_ew 123 (.iconst 1) 1 (om_i (1)) 0, om_e 124 (.istore 4) 2]
def om_E154_126 : List om_E := [om_ec 126 (.iinc 6 1) 3 (om_i (1)), om_et 129 (.goto (-110)) 3 19]
def om_E154_132 : List om_E := [om_e 132 (.aload_n 0) 1, om_ef 133 (.getfield 62) 3 7 22 20 73, om_e 136 (.iload_n 3) 1, om_e 137 (.iload 4) 2, om_et 139 (.ifCond .eq 8) 3 147]
def om_E154_142 : List om_E := [om_e 142 (.iload 5) 2, om_et 144 (.goto 24) 3 168]
def om_E154_147 : List om_E := [om_e 147 (.aload_n 0) 1, om_ef 148 (.getfield 59) 3 7 21 19 72, om_e 151 (.iload_n 3) 1, om_e 152 .iaload 1, om_e 153 (.iload_n 2) 1, om_ew 154 (.iconst (-1)) 1 (om_i (-1)) 0, om_et 155 (.if_icmp .ne 7) 3 162]
def om_E154_158 : List om_E := [om_ew 158 (.iconst 0) 1 (om_i (0)) 0, om_et 159 (.goto 8) 3 167]
def om_E154_162 : List om_E := [om_e 162 (.iload_n 2) 1, om_e 163 (.iload_n 3) 1, om_e 164 .ishr 1, om_ew 165 (.iconst 1) 1 (om_i (1)) 0, om_e 166 .iand 1]
def om_E154_167 : List om_E := [om_e 167 .iadd 1]
def om_E154_168 : List om_E := [om_e 168 .iastore 1, om_ec 169 (.iinc 3 1) 3 (om_i (1)), om_et 172 (.goto (-170)) 3 2]
def om_E154_175 : List om_E := [om_ew 175 (.iconst 0) 1 (om_i (0)) 0, om_e 176 (.istore_n 3) 1]
def om_E154_177 : List om_E := [om_e 177 (.iload_n 3) 1, om_e 178 (.aload_n 0) 1, om_ef 179 (.getfield 81) 3 7 2 0 53, om_et 182 (.if_icmp .ge 21) 3 203]
def om_E154_185 : List om_E := [om_e 185 (.aload_n 0) 1, om_ef 186 (.getfield 59) 3 7 21 19 72, om_e 189 (.iload_n 3) 1, om_e 190 (.aload_n 0) 1, om_ef 191 (.getfield 62) 3 7 22 20 73, om_e 194 (.iload_n 3) 1, om_e 195 .iaload 1, om_e 196 .iastore 1, om_ec 197 (.iinc 3 1) 3 (om_i (1)), om_et 200 (.goto (-23)) 3 177]
def om_E154_203 : List om_E := [om_e 203 .return_ 1]
def om_B154 : List om_Bk := [(0, [true, true, true, false, false, false, false, false, false], om_E154_0, 2), (2, [true, true, true, true, false, false, false, false, false], om_E154_2, 10), (10, [true, true, true, true, false, false, false, false, false], om_E154_10, 19), (19, [true, true, true, true, true, true, true, false, false], om_E154_19, 28), (28, [true, true, true, true, true, true, true, false, false], om_E154_28, 39), (39, [true, true, true, true, true, true, true, false, false], om_E154_39, 48), (48, [true, true, true, true, true, true, true, false, false], om_E154_48, 55), (55, [true, true, true, true, true, true, true, false, false], om_E154_55, 75), (75, [true, true, true, true, false, true, true, true, false], om_E154_75, 85), (85, [true, true, true, true, false, true, true, true, false], om_E154_85, 92), (92, [true, true, true, true, false, true, true, true, false], om_E154_92, 95), (95, [true, true, true, true, false, true, true, true, false], om_E154_95, 102), (102, [true, true, true, true, false, true, true, true, false], om_E154_102, 106), (106, [true, true, true, true, false, true, true, true, false], om_E154_106, 107), (107, [true, true, true, true, false, true, true, true, false], om_E154_107, 114), (114, [true, true, true, true, false, false, true, true, false], om_E154_114, 119), (119, [true, true, true, true, false, true, true, false, false], om_E154_119, 121), (121, [true, true, true, true, false, false, true, false, false], om_E154_121, 126), (126, [true, true, true, true, true, true, true, false, false], om_E154_126, 132), (132, [true, true, true, true, true, true, false, false, false], om_E154_132, 142), (142, [true, true, true, true, false, true, false, false, false], om_E154_142, 147), (147, [true, true, true, true, false, false, false, false, false], om_E154_147, 158), (158, [true, true, true, true, false, false, false, false, false], om_E154_158, 162), (162, [true, true, true, true, false, false, false, false, false], om_E154_162, 167), (167, [true, true, true, true, false, false, false, false, false], om_E154_167, 168), (168, [true, true, true, true, false, false, false, false, false], om_E154_168, 175), (175, [true, false, false, false, false, false, false, false, false], om_E154_175, 177), (177, [true, false, false, true, false, false, false, false, false], om_E154_177, 185), (185, [true, false, false, true, false, false, false, false, false], om_E154_185, 203), (203, [false, false, false, false, false, false, false, false, false], om_E154_203, 204)]
def om_E155_0 : List om_E := [om_ew 0 (.iconst 0) 1 (om_i (0)) 0, om_e 1 (.istore 4) 2]
def om_E155_3 : List om_E := [om_e 3 (.iload 4) 2, om_e 5 (.aload_n 0) 1, om_ef 6 (.getfield 81) 3 7 2 0 53, om_et 9 (.if_icmp .ge 17) 3 26]
def om_E155_12 : List om_E := [om_e 12 (.aload_n 0) 1, om_ef 13 (.getfield 59) 3 7 21 19 72, om_e 16 (.iload 4) 2, om_ew 18 (.iconst 0) 1 (om_i (0)) 0, om_e 19 .iastore 1, om_ec 20 (.iinc 4 1) 3 (om_i (1)), om_et 23 (.goto (-20)) 3 3]
def om_E155_26 : List om_E := [om_ew 26 (.iconst 0) 1 (om_i (0)) 0, om_e 27 (.istore 4) 2]
def om_E155_29 : List om_E := [om_e 29 (.iload 4) 2, om_e 31 (.iload_n 3) 1, om_et 32 (.if_icmp .ge 15) 3 47]
def om_E155_35 : List om_E := [om_e 35 (.aload_n 0) 1, om_e 36 (.iload_n 1) 1, om_e 37 (.iload_n 2) 1, om_ef 38 (.invokevirtual 161) 3 7 154 3 129]
def om_E155_41 : List om_E := [om_ec 41 (.iinc 4 1) 3 (om_i (1)), om_et 44 (.goto (-15)) 3 29]
def om_E155_47 : List om_E := [om_e 47 .return_ 1]
def om_B155 : List om_Bk := [(0, [true, true, true, true, false], om_E155_0, 3), (3, [true, true, true, true, true], om_E155_3, 12), (12, [true, true, true, true, true], om_E155_12, 26), (26, [true, true, true, true, false], om_E155_26, 29), (29, [true, true, true, true, true], om_E155_29, 35), (35, [true, true, true, true, true], om_E155_35, 41), (41, [true, true, true, true, true], om_E155_41, 47), (47, [false, false, false, false, false], om_E155_47, 48)]
def om_E156_0 : List om_E := [om_e 0 (.iload_n 1) 1, om_e 1 .i2l 1, om_ew 2 (.lconst 0) 1 (om_l (0)) 0, om_ew 3 (.ldc2_w 165) 3 (om_l (500)) 5, om_ef 6 (.invokestatic 84) 3 0 121 3 97]
def om_E156_9 : List om_E := [om_et 9 (.ifCond .eq 11) 3 20]
def om_E156_12 : List om_E := [om_e 12 (.aload_n 0) 1, om_e 13 (.iload_n 2) 1, om_ef 14 (.invokevirtual 97) 3 7 122 2 99]
def om_E156_17 : List om_E := [om_et 17 (.ifCond .ne 6) 3 23]
def om_E156_20 : List om_E := [om_ew 20 (.ldc 111) 2 (om_i (-2147483648)) 5, om_e 22 .ireturn 1]
def om_E156_23 : List om_E := [om_e 23 (.aload_n 0) 1, om_ew 24 (.iconst 0) 1 (om_i (0)) 0, om_ew 25 (.iconst (-1)) 1 (om_i (-1)) 0, om_e 26 (.iload_n 1) 1, om_ef 27 (.invokevirtual 167) 3 7 155 4 128]
def om_E156_30 : List om_E := [om_e 30 (.aload_n 0) 1, om_ef 31 (.getfield 59) 3 7 21 19 72, om_e 34 (.iload_n 2) 1, om_e 35 .iaload 1, om_e 36 .ireturn 1]
def om_B156 : List om_Bk := [(0, [true, true, true], om_E156_0, 9), (9, [true, true, true], om_E156_9, 12), (12, [true, true, true], om_E156_12, 17), (17, [true, true, true], om_E156_17, 20), (20, [false, false, false], om_E156_20, 23), (23, [true, true, true], om_E156_23, 30), (30, [true, false, true], om_E156_30, 37)]
def om_E157_0 : List om_E := [om_e 0 (.aload_n 0) 1, om_ew 1 (.iconst 0) 1 (om_i (0)) 0, om_ef 2 (.putfield 171) 3 7 24 0 75, om_ew 5 (.iconst 0) 1 (om_i (0)) 0, om_e 6 (.istore_n 2) 1]
def om_E157_7 : List om_E := [om_e 7 (.iload_n 2) 1, om_et 8 (.ifCond .ne 119) 3 127]
def om_E157_11 : List om_E := [om_e 11 (.aload_n 0) 1, om_e 12 .dup 1, om_ef 13 (.getfield 171) 3 7 24 0 75, om_ew 16 (.iconst 1) 1 (om_i (1)) 0, om_e 17 .iadd 1, om_ef 18 (.putfield 171) 3 7 24 0 75, om_ew 21 (.ldc2_w 174) 3 (om_l (2)) 6, om_e 24 (.iload_n 1) 1, om_e 25 .i2l 1, om_e 26 .lmul 1, om_e 27 (.aload_n 0) 1, om_ef 28 (.getfield 171) 3 7 24 0 75, om_e 31 .i2l 1, om_e 32 .lmul 1, om_ew 33 (.ldc2_w 176) 3 (om_l (9000)) 7, om_e 36 .ladd 1, om_e 37 (.lstore_n 3) 1, om_e 38 (.aload_n 0) 1, om_e 39 (.lload_n 3) 1, om_ew 40 (.lconst 0) 1 (om_l (0)) 0, om_e 41 .lcmp 1, om_et 42 (.ifCond .lt 11) 3 53]
def om_E157_45 : List om_E := [om_e 45 (.lload_n 3) 1, om_ew 46 (.ldc2_w 178) 3 (om_l (18000)) 8, om_e 49 .ldiv 1, om_et 50 (.goto 16) 3 66]
def om_E157_53 : List om_E := [om_e 53 (.lload_n 3) 1, om_e 54 .lneg 1, om_ew 55 (.ldc2_w 178) 3 (om_l (18000)) 8, om_e 58 .ladd 1, om_ew 59 (.lconst 1) 1 (om_l (1)) 0, om_e 60 .lsub 1, om_ew 61 (.ldc2_w 178) 3 (om_l (18000)) 8, om_e 64 .ldiv 1, om_e 65 .lneg 1]
def om_E157_66 : List om_E := [om_e 66 .l2i 1, om_ef 67 (.putfield 180) 3 7 23 0 74, om_e 70 (.iload_n 1) 1, om_e 71 .i2l 1, om_e 72 (.aload_n 0) 1, om_ef 73 (.getfield 171) 3 7 24 0 75, om_e 76 .i2l 1, om_e 77 .lmul 1, om_e 78 (.aload_n 0) 1, om_ef 79 (.getfield 180) 3 7 23 0 74, om_e 82 .i2l 1, om_ew 83 (.ldc2_w 176) 3 (om_l (9000)) 7, om_e 86 .lmul 1, om_e 87 .lsub 1, om_e 88 (.lstore 5) 2, om_e 90 (.lload 5) 2, om_ew 92 (.lconst 0) 1 (om_l (0)) 0, om_e 93 .lcmp 1, om_et 94 (.ifCond .ge 9) 3 103]
def om_E157_97 : List om_E := [om_e 97 (.lload 5) 2, om_e 99 .lneg 1, om_et 100 (.goto 5) 3 105]
def om_E157_103 : List om_E := [om_e 103 (.lload 5) 2]
def om_E157_105 : List om_E := [om_ew 105 (.ldc2_w 183) 3 (om_l (80)) 9, om_e 108 (.aload_n 0) 1, om_ef 109 (.getfield 171) 3 7 24 0 75, om_e 112 .i2l 1, om_e 113 .lmul 1, om_e 114 .lcmp 1, om_et 115 (.ifCond .gt 7) 3 122]
def om_E157_118 : List om_E := [om_ew 118 (.iconst 1) 1 (om_i (1)) 0, om_et 119 (.goto 4) 3 123]
def om_E157_122 : List om_E := [om_ew 122 (.iconst 0) 1 (om_i (0)) 0]
def om_E157_123 : List om_E := [om_e 123 (.istore_n 2) 1, om_et 124 (.goto (-117)) 3 7]
def om_E157_127 : List om_E := [om_e 127 .return_ 1]
def om_B157 : List om_Bk := [(0, [true, true, false, false, false, false, false], om_E157_0, 7), (7, [true, true, true, false, false, false, false], om_E157_7, 11), (11, [true, true, false, false, false, false, false], om_E157_11, 45), (45, [true, true, false, true, false, false, false], om_E157_45, 53), (53, [true, true, false, true, false, false, false], om_E157_53, 66), (66, [true, true, false, false, false, false, false], om_E157_66, 97), (97, [true, true, false, false, false, true, false], om_E157_97, 103), (103, [true, true, false, false, false, true, false], om_E157_103, 105), (105, [true, true, false, false, false, false, false], om_E157_105, 118), (118, [true, true, false, false, false, false, false], om_E157_118, 122), (122, [true, true, false, false, false, false, false], om_E157_122, 123), (123, [true, true, false, false, false, false, false], om_E157_123, 127), (127, [false, false, false, false, false, false, false], om_E157_127, 128)]
def om_E158_0 : List om_E := [om_e 0 (.aload_n 0) 1, om_e 1 (.iload_n 1) 1, om_ef 2 (.invokevirtual 97) 3 7 122 2 99]
def om_E158_5 : List om_E := [om_et 5 (.ifCond .eq 13) 3 18]
def om_E158_8 : List om_E := [om_e 8 (.iload_n 2) 1, om_e 9 .i2l 1, om_ew 10 (.lconst 0) 1 (om_l (0)) 0, om_ew 11 (.lconst 1) 1 (om_l (1)) 0, om_ef 12 (.invokestatic 84) 3 0 121 3 97]
def om_E158_15 : List om_E := [om_et 15 (.ifCond .ne 6) 3 21]
def om_E158_18 : List om_E := [om_ew 18 (.ldc 111) 2 (om_i (-2147483648)) 5, om_e 20 .ireturn 1]
def om_E158_21 : List om_E := [om_e 21 (.aload_n 0) 1, om_ew 22 (.iconst 0) 1 (om_i (0)) 0, om_ew 23 (.iconst (-1)) 1 (om_i (-1)) 0, om_ew 24 (.sipush 9000) 3 (om_i (9000)) 0, om_ef 27 (.invokevirtual 167) 3 7 155 4 128]
def om_E158_30 : List om_E := [om_e 30 (.aload_n 0) 1, om_e 31 (.aload_n 0) 1, om_ef 32 (.getfield 59) 3 7 21 19 72, om_e 35 (.iload_n 1) 1, om_e 36 .iaload 1, om_ef 37 (.invokevirtual 185) 3 7 157 2 132]
def om_E158_40 : List om_E := [om_e 40 (.iload_n 2) 1, om_et 41 (.ifCond .ne 10) 3 51]
def om_E158_44 : List om_E := [om_e 44 (.aload_n 0) 1, om_ef 45 (.getfield 180) 3 7 23 0 74, om_et 48 (.goto 7) 3 55]
def om_E158_51 : List om_E := [om_e 51 (.aload_n 0) 1, om_ef 52 (.getfield 171) 3 7 24 0 75]
def om_E158_55 : List om_E := [om_e 55 .ireturn 1]
def om_B158 : List om_Bk := [(0, [true, true, true], om_E158_0, 5), (5, [true, true, true], om_E158_5, 8), (8, [true, true, true], om_E158_8, 15), (15, [true, true, true], om_E158_15, 18), (18, [false, false, false], om_E158_18, 21), (21, [true, true, true], om_E158_21, 30), (30, [true, true, true], om_E158_30, 40), (40, [true, false, true], om_E158_40, 44), (44, [true, false, false], om_E158_44, 51), (51, [true, false, false], om_E158_51, 55), (55, [false, false, false], om_E158_55, 56)]
def om_E159_0 : List om_E := [om_e 0 (.iload_n 1) 1, om_ef 1 (.invokestatic 91) 3 0 125 1 96]
def om_E159_4 : List om_E := [om_et 4 (.ifCond .eq 30) 3 34]
def om_E159_7 : List om_E := [om_e 7 (.aload_n 0) 1, om_e 8 (.iload_n 2) 1, om_ef 9 (.invokevirtual 118) 3 7 124 2 107]
def om_E159_12 : List om_E := [om_et 12 (.ifCond .eq 22) 3 34]
def om_E159_15 : List om_E := [om_e 15 (.aload_n 0) 1, om_e 16 (.iload_n 3) 1, om_ef 17 (.invokevirtual 97) 3 7 122 2 99]
def om_E159_20 : List om_E := [om_et 20 (.ifCond .eq 14) 3 34]
def om_E159_23 : List om_E := [om_e 23 (.iload 4) 2, om_e 25 .i2l 1, om_ew 26 (.lconst 0) 1 (om_l (0)) 0, om_ew 27 (.lconst 1) 1 (om_l (1)) 0, om_ef 28 (.invokestatic 84) 3 0 121 3 97]
def om_E159_31 : List om_E := [om_et 31 (.ifCond .ne 6) 3 37]
def om_E159_34 : List om_E := [om_ew 34 (.ldc 111) 2 (om_i (-2147483648)) 5, om_e 36 .ireturn 1]
def om_E159_37 : List om_E := [om_e 37 (.aload_n 0) 1, om_e 38 (.iload_n 1) 1, om_e 39 (.iload_n 2) 1, om_ew 40 (.sipush 9000) 3 (om_i (9000)) 0, om_ef 43 (.invokevirtual 167) 3 7 155 4 128]
def om_E159_46 : List om_E := [om_e 46 (.aload_n 0) 1, om_e 47 (.aload_n 0) 1, om_ef 48 (.getfield 59) 3 7 21 19 72, om_e 51 (.iload_n 3) 1, om_e 52 .iaload 1, om_ef 53 (.invokevirtual 185) 3 7 157 2 132]
def om_E159_56 : List om_E := [om_e 56 (.iload 4) 2, om_et 58 (.ifCond .ne 10) 3 68]
def om_E159_61 : List om_E := [om_e 61 (.aload_n 0) 1, om_ef 62 (.getfield 180) 3 7 23 0 74, om_et 65 (.goto 7) 3 72]
def om_E159_68 : List om_E := [om_e 68 (.aload_n 0) 1, om_ef 69 (.getfield 171) 3 7 24 0 75]
def om_E159_72 : List om_E := [om_e 72 .ireturn 1]
def om_B159 : List om_Bk := [(0, [true, true, true, true, true], om_E159_0, 4), (4, [true, true, true, true, true], om_E159_4, 7), (7, [true, true, true, true, true], om_E159_7, 12), (12, [true, true, true, true, true], om_E159_12, 15), (15, [true, true, true, true, true], om_E159_15, 20), (20, [true, true, true, true, true], om_E159_20, 23), (23, [true, true, true, true, true], om_E159_23, 31), (31, [true, true, true, true, true], om_E159_31, 34), (34, [false, false, false, false, false], om_E159_34, 37), (37, [true, true, true, true, true], om_E159_37, 46), (46, [true, false, false, true, true], om_E159_46, 56), (56, [true, false, false, false, true], om_E159_56, 61), (61, [true, false, false, false, false], om_E159_61, 68), (68, [true, false, false, false, false], om_E159_68, 72), (72, [false, false, false, false, false], om_E159_72, 73)]
def om_E160_0 : List om_E := [om_e 0 (.aload_n 0) 1, om_e 1 (.iload_n 1) 1, om_ef 2 (.invokevirtual 108) 3 7 123 2 102]
def om_E160_5 : List om_E := [om_et 5 (.ifCond .ne 6) 3 11]
def om_E160_8 : List om_E := [om_ew 8 (.bipush (-2)) 2 (om_i (-2)) 0, om_e 10 .ireturn 1]
def om_E160_11 : List om_E := [om_e 11 (.aload_n 0) 1, om_ef 12 (.getfield 25) 3 7 7 9 58, om_e 15 (.aload_n 0) 1, om_ef 16 (.getfield 16) 3 7 3 6 54, om_e 19 (.iload_n 1) 1, om_e 20 .iaload 1, om_e 21 .iaload 1, om_e 22 (.istore_n 2) 1, om_e 23 (.aload_n 0) 1, om_ef 24 (.getfield 25) 3 7 7 9 58, om_e 27 (.aload_n 0) 1, om_ef 28 (.getfield 16) 3 7 3 6 54, om_e 31 (.iload_n 1) 1, om_e 32 .iaload 1, om_e 33 (.iload_n 1) 1, om_e 34 .iastore 1, om_e 35 (.iload_n 2) 1, om_e 36 .ireturn 1]
def om_B160 : List om_Bk := [(0, [true, true, false], om_E160_0, 5), (5, [true, true, false], om_E160_5, 8), (8, [false, false, false], om_E160_8, 11), (11, [true, true, false], om_E160_11, 37)]
def om_E161_0 : List om_E := [om_e 0 (.aload_n 0) 1, om_e 1 (.iload_n 1) 1, om_ef 2 (.invokevirtual 97) 3 7 122 2 99]
def om_E161_5 : List om_E := [om_et 5 (.ifCond .ne 6) 3 11]
def om_E161_8 : List om_E := [om_ew 8 (.bipush (-2)) 2 (om_i (-2)) 0, om_e 10 .ireturn 1]
def om_E161_11 : List om_E := [om_e 11 (.aload_n 0) 1, om_ef 12 (.getfield 25) 3 7 7 9 58, om_e 15 (.iload_n 1) 1, om_e 16 .iaload 1, om_ew 17 (.iconst (-1)) 1 (om_i (-1)) 0, om_et 18 (.if_icmp .ne 6) 3 24]
def om_E161_21 : List om_E := [om_ew 21 (.bipush (-4)) 2 (om_i (-4)) 0, om_e 23 .ireturn 1]
def om_E161_24 : List om_E := [om_e 24 (.aload_n 0) 1, om_ef 25 (.getfield 25) 3 7 7 9 58, om_e 28 (.iload_n 1) 1, om_e 29 .iaload 1, om_e 30 (.istore_n 2) 1, om_e 31 (.aload_n 0) 1, om_ef 32 (.getfield 25) 3 7 7 9 58, om_e 35 (.iload_n 1) 1, om_ew 36 (.iconst (-1)) 1 (om_i (-1)) 0, om_e 37 .iastore 1, om_e 38 (.iload_n 2) 1, om_e 39 .ireturn 1]
def om_B161 : List om_Bk := [(0, [true, true, false], om_E161_0, 5), (5, [true, true, false], om_E161_5, 8), (8, [false, false, false], om_E161_8, 11), (11, [true, true, false], om_E161_11, 21), (21, [false, false, false], om_E161_21, 24), (24, [true, true, false], om_E161_24, 40)]
def om_E162_0 : List om_E := [om_ew 0 (.iconst 0) 1 (om_i (0)) 0, om_e 1 (.istore_n 2) 1]
def om_E162_2 : List om_E := [om_e 2 (.iload_n 2) 1, om_e 3 (.aload_n 0) 1, om_ef 4 (.getfield 81) 3 7 2 0 53, om_et 7 (.if_icmp .ge 35) 3 42]
def om_E162_10 : List om_E := [om_e 10 (.aload_n 0) 1, om_ef 11 (.getfield 46) 3 7 17 16 68, om_e 14 (.iload_n 2) 1, om_e 15 (.aload_n 0) 1, om_ef 16 (.getfield 7) 3 7 0 4 51, om_e 19 (.iload_n 2) 1, om_e 20 .iaload 1, om_e 21 (.iload_n 1) 1, om_et 22 (.if_icmp .ne 12) 3 34]
def om_E162_25 : List om_E := [om_e 25 (.aload_n 0) 1, om_ef 26 (.getfield 25) 3 7 7 9 58, om_e 29 (.iload_n 2) 1, om_e 30 .iaload 1, om_et 31 (.goto 4) 3 35]
def om_E162_34 : List om_E := [om_ew 34 (.iconst (-1)) 1 (om_i (-1)) 0]
def om_E162_35 : List om_E := [om_e 35 .iastore 1, om_ec 36 (.iinc 2 1) 3 (om_i (1)), om_et 39 (.goto (-37)) 3 2]
def om_E162_42 : List om_E := [om_e 42 (.aload_n 0) 1, om_ef 43 (.invokevirtual 121) 3 7 134 1 108]
def om_E162_46 : List om_E := [om_e 46 .return_ 1]
def om_B162 : List om_Bk := [(0, [true, true, false], om_E162_0, 2), (2, [true, true, true], om_E162_2, 10), (10, [true, true, true], om_E162_10, 25), (25, [true, true, true], om_E162_25, 34), (34, [true, true, true], om_E162_34, 35), (35, [true, true, true], om_E162_35, 42), (42, [true, false, false], om_E162_42, 46), (46, [false, false, false], om_E162_46, 47)]
def om_E163_0 : List om_E := [om_e 0 (.iload_n 1) 1, om_e 1 (.istore_n 3) 1, om_ew 2 (.iconst (-1)) 1 (om_i (-1)) 0, om_e 3 (.istore 4) 2]
def om_E163_5 : List om_E := [om_e 5 (.iload_n 3) 1, om_e 6 (.iload 4) 2, om_et 8 (.if_icmp .eq 53) 3 61]
def om_E163_11 : List om_E := [om_e 11 (.iload_n 3) 1, om_e 12 (.istore 4) 2, om_ew 14 (.iconst 0) 1 (om_i (0)) 0, om_e 15 (.istore 5) 2]
def om_E163_17 : List om_E := [om_e 17 (.iload 5) 2, om_e 19 (.aload_n 0) 1, om_ef 20 (.getfield 81) 3 7 2 0 53, om_et 23 (.if_icmp .ge 35) 3 58]
def om_E163_26 : List om_E := [om_e 26 (.iload_n 3) 1, om_e 27 (.iload_n 3) 1, om_e 28 (.iload 5) 2, om_e 30 .ishr 1, om_ew 31 (.iconst 1) 1 (om_i (1)) 0, om_e 32 .iand 1, om_ew 33 (.iconst 1) 1 (om_i (1)) 0, om_et 34 (.if_icmp .ne 15) 3 49]
def om_E163_37 : List om_E := [om_e 37 (.aload_n 0) 1, om_ef 38 (.getfield 43) 3 7 16 15 67, om_e 41 (.iload 5) 2, om_e 43 .iaload 1, om_e 44 (.iload_n 2) 1, om_e 45 .iand 1, om_et 46 (.goto 4) 3 50]
def om_E163_49 : List om_E := [om_ew 49 (.iconst 0) 1 (om_i (0)) 0]
def om_E163_50 : List om_E := [om_e 50 .ior 1, om_e 51 (.istore_n 3) 1, om_ec 52 (.iinc 5 1) 3 (om_i (1)), om_et 55 (.goto (-38)) 3 17]
def om_E163_58 : List om_E := [om_et 58 (.goto (-53)) 3 5]
def om_E163_61 : List om_E := [om_e 61 (.iload_n 3) 1, om_e 62 .ireturn 1]
def om_B163 : List om_Bk := [(0, [true, true, true, false, false, false], om_E163_0, 5), (5, [true, false, true, true, true, false], om_E163_5, 11), (11, [true, false, true, true, false, false], om_E163_11, 17), (17, [true, false, true, true, true, true], om_E163_17, 26), (26, [true, false, true, true, true, true], om_E163_26, 37), (37, [true, false, true, false, true, true], om_E163_37, 49), (49, [true, false, true, false, true, true], om_E163_49, 50), (50, [true, false, true, false, true, true], om_E163_50, 58), (58, [true, false, true, true, true, false], om_E163_58, 61), (61, [false, false, false, true, false, false], om_E163_61, 63)]
def om_E164_0 : List om_E := [om_ew 0 (.iconst 0) 1 (om_i (0)) 0, om_e 1 (.istore_n 2) 1, om_ew 2 (.iconst 0) 1 (om_i (0)) 0, om_e 3 (.istore_n 3) 1]
def om_E164_4 : List om_E := [om_e 4 (.iload_n 3) 1, om_e 5 (.aload_n 0) 1, om_ef 6 (.getfield 81) 3 7 2 0 53, om_et 9 (.if_icmp .ge 116) 3 125]
def om_E164_12 : List om_E := [om_ew 12 (.iconst 0) 1 (om_i (0)) 0, om_e 13 (.istore 4) 2, om_ew 15 (.iconst 0) 1 (om_i (0)) 0, om_e 16 (.istore 5) 2]
def om_E164_18 : List om_E := [om_e 18 (.iload 5) 2, om_e 20 (.aload_n 0) 1, om_ef 21 (.getfield 81) 3 7 2 0 53, om_et 24 (.if_icmp .ge 38) 3 62]
def om_E164_27 : List om_E := [om_e 27 (.iload 4) 2, om_e 29 (.aload_n 0) 1, om_ef 30 (.getfield 13) 3 7 1 5 52, om_e 33 (.iload 5) 2, om_e 35 .iaload 1, om_e 36 (.aload_n 0) 1, om_ef 37 (.getfield 13) 3 7 1 5 52, om_e 40 (.iload_n 3) 1, om_e 41 .iaload 1, om_et 42 (.if_icmp .lt 10) 3 52]
def om_E164_45 : List om_E := [om_ew 45 (.iconst 1) 1 (om_i (1)) 0, om_e 46 (.iload 5) 2, om_e 48 .ishl 1, om_et 49 (.goto 4) 3 53]
def om_E164_52 : List om_E := [om_ew 52 (.iconst 0) 1 (om_i (0)) 0]
def om_E164_53 : List om_E := [om_e 53 .ior 1, om_e 54 (.istore 4) 2, om_ec 56 (.iinc 5 1) 3 (om_i (1)), om_et 59 (.goto (-41)) 3 18]
def om_E164_62 : List om_E := [om_e 62 (.aload_n 0) 1, om_ef 63 (.getfield 13) 3 7 1 5 52, om_e 66 (.iload_n 3) 1, om_e 67 .iaload 1, om_ew 68 (.iconst 2) 1 (om_i (2)) 0, om_e 69 .irem 1, om_e 70 (.iload_n 1) 1, om_et 71 (.if_icmp .eq 30) 3 101]
def om_E164_74 : List om_E := [om_e 74 (.aload_n 0) 1, om_e 75 (.aload_n 0) 1, om_ef 76 (.getfield 43) 3 7 16 15 67, om_e 79 (.iload_n 3) 1, om_e 80 .iaload 1, om_e 81 (.iload 4) 2, om_e 83 .iand 1, om_e 84 (.iload 4) 2, om_ef 86 (.invokevirtual 189) 3 7 163 3 140]
def om_E164_89 : List om_E := [om_e 89 (.iload_n 3) 1, om_e 90 .ishr 1, om_ew 91 (.iconst 1) 1 (om_i (1)) 0, om_e 92 .iand 1, om_ew 93 (.iconst 1) 1 (om_i (1)) 0, om_et 94 (.if_icmp .ne 7) 3 101]
def om_E164_97 : List om_E := [om_ew 97 (.iconst 1) 1 (om_i (1)) 0, om_et 98 (.goto 4) 3 102]
def om_E164_101 : List om_E := [om_ew 101 (.iconst 0) 1 (om_i (0)) 0]
def om_E164_102 : List om_E := [om_e 102 (.istore 5) 2, om_e 104 (.iload_n 2) 1, om_e 105 (.iload 5) 2, om_et 107 (.ifCond .eq 9) 3 116]
def om_E164_110 : List om_E := [om_ew 110 (.iconst 1) 1 (om_i (1)) 0, om_e 111 (.iload_n 3) 1, om_e 112 .ishl 1, om_et 113 (.goto 4) 3 117]
def om_E164_116 : List om_E := [om_ew 116 (.iconst 0) 1 (om_i (0)) 0]
def om_E164_117 : List om_E := [om_e 117 .ior 1, om_e 118 (.istore_n 2) 1, om_ec 119 (.iinc 3 1) 3 (om_i (1)), om_et 122 (.goto (-118)) 3 4]
def om_E164_125 : List om_E := [om_e 125 (.iload_n 2) 1, om_e 126 .ireturn 1]
def om_B164 : List om_Bk := [(0, [true, true, false, false, false, false], om_E164_0, 4), (4, [true, true, true, true, false, false], om_E164_4, 12), (12, [true, true, true, true, false, false], om_E164_12, 18), (18, [true, true, true, true, true, true], om_E164_18, 27), (27, [true, true, true, true, true, true], om_E164_27, 45), (45, [true, true, true, true, false, true], om_E164_45, 52), (52, [true, true, true, true, false, true], om_E164_52, 53), (53, [true, true, true, true, false, true], om_E164_53, 62), (62, [true, true, true, true, true, false], om_E164_62, 74), (74, [true, true, true, true, true, false], om_E164_74, 89), (89, [true, true, true, true, false, false], om_E164_89, 97), (97, [true, true, true, true, false, false], om_E164_97, 101), (101, [true, true, true, true, false, false], om_E164_101, 102), (102, [true, true, true, true, false, false], om_E164_102, 110), (110, [true, true, false, true, false, false], om_E164_110, 116), (116, [true, true, false, true, false, false], om_E164_116, 117), (117, [true, true, false, true, false, false], om_E164_117, 125), (125, [false, false, true, false, false, false], om_E164_125, 127)]
def om_E165_0 : List om_E := [om_e 0 (.aload_n 0) 1, om_e 1 (.iload_n 1) 1, om_ef 2 (.invokevirtual 192) 3 7 162 2 138]
def om_E165_5 : List om_E := [om_e 5 (.aload_n 0) 1, om_e 6 (.iload_n 1) 1, om_ef 7 (.invokevirtual 195) 3 7 164 2 139]
def om_E165_10 : List om_E := [om_e 10 (.istore_n 2) 1, om_ew 11 (.iconst 0) 1 (om_i (0)) 0, om_e 12 (.istore_n 3) 1, om_ew 13 (.iconst 0) 1 (om_i (0)) 0, om_e 14 (.istore 4) 2]
def om_E165_16 : List om_E := [om_e 16 (.iload 4) 2, om_e 18 (.aload_n 0) 1, om_ef 19 (.getfield 81) 3 7 2 0 53, om_et 22 (.if_icmp .ge 41) 3 63]
def om_E165_25 : List om_E := [om_e 25 (.iload_n 3) 1, om_e 26 (.aload_n 0) 1, om_ew 27 (.iconst 1) 1 (om_i (1)) 0, om_e 28 (.iload 4) 2, om_e 30 .ishl 1, om_ew 31 (.iconst 1) 1 (om_i (1)) 0, om_e 32 (.aload_n 0) 1, om_ef 33 (.getfield 81) 3 7 2 0 53, om_e 36 .ishl 1, om_ew 37 (.iconst 1) 1 (om_i (1)) 0, om_e 38 .isub 1, om_ef 39 (.invokevirtual 189) 3 7 163 3 140]
def om_E165_42 : List om_E := [om_e 42 (.iload_n 2) 1, om_e 43 .iand 1, om_et 44 (.ifCond .ne 10) 3 54]
def om_E165_47 : List om_E := [om_ew 47 (.iconst 1) 1 (om_i (1)) 0, om_e 48 (.iload 4) 2, om_e 50 .ishl 1, om_et 51 (.goto 4) 3 55]
def om_E165_54 : List om_E := [om_ew 54 (.iconst 0) 1 (om_i (0)) 0]
def om_E165_55 : List om_E := [om_e 55 .ior 1, om_e 56 (.istore_n 3) 1, om_ec 57 (.iinc 4 1) 3 (om_i (1)), om_et 60 (.goto (-44)) 3 16]
def om_E165_63 : List om_E := [om_e 63 (.aload_n 0) 1, om_ef 64 (.invokevirtual 155) 3 7 135 1 126]
def om_E165_67 : List om_E := [om_e 67 (.iload_n 3) 1, om_e 68 .ireturn 1]
def om_B165 : List om_Bk := [(0, [true, true, false, false, false], om_E165_0, 5), (5, [true, true, false, false, false], om_E165_5, 10), (10, [true, false, false, false, false], om_E165_10, 16), (16, [true, false, true, true, true], om_E165_16, 25), (25, [true, false, true, true, true], om_E165_25, 42), (42, [true, false, true, false, true], om_E165_42, 47), (47, [true, false, true, false, true], om_E165_47, 54), (54, [true, false, true, false, true], om_E165_54, 55), (55, [true, false, true, false, true], om_E165_55, 63), (63, [true, false, false, true, false], om_E165_63, 67), (67, [false, false, false, true, false], om_E165_67, 69)]
def om_E166_0 : List om_E := [om_e 0 (.iload_n 1) 1, om_ef 1 (.invokestatic 91) 3 0 125 1 96]
def om_E166_4 : List om_E := [om_et 4 (.ifCond .eq 11) 3 15]
def om_E166_7 : List om_E := [om_e 7 (.aload_n 0) 1, om_e 8 (.iload_n 1) 1, om_ef 9 (.invokevirtual 198) 3 7 165 2 137]
def om_E166_12 : List om_E := [om_et 12 (.goto 5) 3 17]
def om_E166_15 : List om_E := [om_ew 15 (.bipush (-2)) 2 (om_i (-2)) 0]
def om_E166_17 : List om_E := [om_e 17 .ireturn 1]
def om_B166 : List om_Bk := [(0, [true, true], om_E166_0, 4), (4, [true, true], om_E166_4, 7), (7, [true, true], om_E166_7, 12), (12, [false, false], om_E166_12, 15), (15, [false, false], om_E166_15, 17), (17, [false, false], om_E166_17, 18)]
def om_E167_0 : List om_E := [om_ew 0 (.iconst (-1)) 1 (om_i (-1)) 0, om_e 1 (.istore_n 2) 1, om_ew 2 (.iconst 0) 1 (om_i (0)) 0, om_e 3 (.istore_n 3) 1]
def om_E167_4 : List om_E := [om_e 4 (.iload_n 3) 1, om_e 5 (.aload_n 0) 1, om_ef 6 (.getfield 201) 3 7 26 0 77, om_et 9 (.if_icmp .ge 25) 3 34]
def om_E167_12 : List om_E := [om_e 12 (.aload_n 0) 1, om_ef 13 (.getfield 65) 3 7 25 21 76, om_e 16 (.iload_n 3) 1, om_e 17 .iaload 1, om_e 18 (.iload_n 1) 1, om_et 19 (.if_icmp .ne 7) 3 26]
def om_E167_22 : List om_E := [om_e 22 (.iload_n 3) 1, om_et 23 (.goto 4) 3 27]
def om_E167_26 : List om_E := [om_e 26 (.iload_n 2) 1]
def om_E167_27 : List om_E := [om_e 27 (.istore_n 2) 1, om_ec 28 (.iinc 3 1) 3 (om_i (1)), om_et 31 (.goto (-27)) 3 4]
def om_E167_34 : List om_E := [om_e 34 (.iload_n 2) 1, om_e 35 .ireturn 1]
def om_B167 : List om_Bk := [(0, [true, true, false, false], om_E167_0, 4), (4, [true, true, true, true], om_E167_4, 12), (12, [true, true, true, true], om_E167_12, 22), (22, [true, true, false, true], om_E167_22, 26), (26, [true, true, true, true], om_E167_26, 27), (27, [true, true, false, true], om_E167_27, 34), (34, [false, false, true, false], om_E167_34, 36)]
def om_E168_0 : List om_E := [om_ew 0 (.bipush 9) 2 (om_i (9)) 0, om_e 2 (.istore_n 3) 1, om_e 3 (.iload_n 1) 1, om_e 4 (.istore 4) 2]
def om_E168_6 : List om_E := [om_e 6 (.iload 4) 2, om_e 8 (.aload_n 0) 1, om_ef 9 (.getfield 201) 3 7 26 0 77, om_et 12 (.if_icmp .ge 42) 3 54]
def om_E168_15 : List om_E := [om_e 15 (.aload_n 0) 1, om_ef 16 (.getfield 13) 3 7 1 5 52, om_e 19 (.aload_n 0) 1, om_ef 20 (.getfield 65) 3 7 25 21 76, om_e 23 (.iload 4) 2, om_e 25 .iaload 1, om_e 26 .iaload 1, om_e 27 (.iload_n 3) 1, om_et 28 (.if_icmp .ge 18) 3 46]
def om_E168_31 : List om_E := [om_e 31 (.aload_n 0) 1, om_ef 32 (.getfield 13) 3 7 1 5 52, om_e 35 (.aload_n 0) 1, om_ef 36 (.getfield 65) 3 7 25 21 76, om_e 39 (.iload 4) 2, om_e 41 .iaload 1, om_e 42 .iaload 1, om_et 43 (.goto 4) 3 47]
def om_E168_46 : List om_E := [om_e 46 (.iload_n 3) 1]
def om_E168_47 : List om_E := [om_e 47 (.istore_n 3) 1, om_ec 48 (.iinc 4 1) 3 (om_i (1)), om_et 51 (.goto (-45)) 3 6]
def om_E168_54 : List om_E := [om_e 54 (.iload_n 3) 1, om_ew 55 (.iconst 2) 1 (om_i (2)) 0, om_e 56 .irem 1, om_e 57 (.iload_n 2) 1, om_et 58 (.if_icmp .eq 7) 3 65]
def om_E168_61 : List om_E := [om_ew 61 (.iconst 1) 1 (om_i (1)) 0, om_et 62 (.goto 4) 3 66]
def om_E168_65 : List om_E := [om_ew 65 (.iconst 0) 1 (om_i (0)) 0]
def om_E168_66 : List om_E := [om_e 66 .ireturn 1]
def om_B168 : List om_Bk := [(0, [true, true, true, false, false], om_E168_0, 6), (6, [true, false, true, true, true], om_E168_6, 15), (15, [true, false, true, true, true], om_E168_15, 31), (31, [true, false, true, false, true], om_E168_31, 46), (46, [true, false, true, true, true], om_E168_46, 47), (47, [true, false, true, false, true], om_E168_47, 54), (54, [false, false, true, true, false], om_E168_54, 61), (61, [false, false, false, false, false], om_E168_61, 65), (65, [false, false, false, false, false], om_E168_65, 66), (66, [false, false, false, false, false], om_E168_66, 67)]
def om_E169_0 : List om_E := [om_e 0 (.aload_n 0) 1, om_ef 1 (.getfield 65) 3 7 25 21 76, om_ew 4 (.iconst 0) 1 (om_i (0)) 0, om_e 5 (.iload_n 1) 1, om_e 6 .iastore 1, om_e 7 (.aload_n 0) 1, om_ew 8 (.iconst 1) 1 (om_i (1)) 0, om_ef 9 (.putfield 201) 3 7 26 0 77, om_ew 12 (.iconst 0) 1 (om_i (0)) 0, om_e 13 (.istore 4) 2]
def om_E169_15 : List om_E := [om_e 15 (.aload_n 0) 1, om_ef 16 (.getfield 201) 3 7 26 0 77, om_et 19 (.ifCond .le 179) 3 198]
def om_E169_22 : List om_E := [om_e 22 (.iload 4) 2, om_e 24 (.aload_n 0) 1, om_ef 25 (.getfield 81) 3 7 2 0 53, om_et 28 (.if_icmp .ge 33) 3 61]
def om_E169_31 : List om_E := [om_e 31 (.aload_n 0) 1, om_ef 32 (.getfield 43) 3 7 16 15 67, om_e 35 (.aload_n 0) 1, om_ef 36 (.getfield 65) 3 7 25 21 76, om_e 39 (.aload_n 0) 1, om_ef 40 (.getfield 201) 3 7 26 0 77, om_ew 43 (.iconst 1) 1 (om_i (1)) 0, om_e 44 .isub 1, om_e 45 .iaload 1, om_e 46 .iaload 1, om_e 47 (.iload 4) 2, om_e 49 .ishr 1, om_ew 50 (.iconst 1) 1 (om_i (1)) 0, om_e 51 .iand 1, om_et 52 (.ifCond .ne 9) 3 61]
def om_E169_55 : List om_E := [om_ec 55 (.iinc 4 1) 3 (om_i (1)), om_et 58 (.goto (-36)) 3 22]
def om_E169_61 : List om_E := [om_e 61 (.iload 4) 2, om_e 63 (.aload_n 0) 1, om_ef 64 (.getfield 81) 3 7 2 0 53, om_et 67 (.if_icmp .ne 29) 3 96]
def om_E169_70 : List om_E := [om_e 70 (.aload_n 0) 1, om_e 71 .dup 1, om_ef 72 (.getfield 201) 3 7 26 0 77, om_ew 75 (.iconst 1) 1 (om_i (1)) 0, om_e 76 .isub 1, om_ef 77 (.putfield 201) 3 7 26 0 77, om_e 80 (.aload_n 0) 1, om_ef 81 (.getfield 65) 3 7 25 21 76, om_e 84 (.aload_n 0) 1, om_ef 85 (.getfield 201) 3 7 26 0 77, om_e 88 .iaload 1, om_ew 89 (.iconst 1) 1 (om_i (1)) 0, om_e 90 .iadd 1, om_e 91 (.istore 4) 2, om_et 93 (.goto (-78)) 3 15]
def om_E169_96 : List om_E := [om_e 96 (.aload_n 0) 1, om_e 97 (.iload 4) 2, om_ef 99 (.invokevirtual 204) 3 7 167 2 143]
def om_E169_102 : List om_E := [om_e 102 (.istore 5) 2, om_e 104 (.aload_n 0) 1, om_ef 105 (.getfield 201) 3 7 26 0 77, om_ew 108 (.iconst 1) 1 (om_i (1)) 0, om_e 109 .iadd 1, om_e 110 (.iload_n 2) 1, om_et 111 (.if_icmp .ne 48) 3 159]
def om_E169_114 : List om_E := [om_e 114 (.iload 5) 2, om_ew 116 (.iconst (-1)) 1 (om_i (-1)) 0, om_et 117 (.if_icmp .eq 36) 3 153]
def om_E169_120 : List om_E := [om_e 120 (.aload_n 0) 1, om_e 121 (.iload 5) 2, om_e 123 (.iload_n 3) 1, om_ef 124 (.invokevirtual 207) 3 7 168 3 144]
def om_E169_127 : List om_E := [om_et 127 (.ifCond .eq 26) 3 153]
def om_E169_130 : List om_E := [om_e 130 (.aload_n 0) 1, om_ef 131 (.getfield 65) 3 7 25 21 76, om_e 134 (.aload_n 0) 1, om_ef 135 (.getfield 201) 3 7 26 0 77, om_e 138 (.iload 4) 2, om_e 140 .iastore 1, om_e 141 (.aload_n 0) 1, om_e 142 .dup 1, om_ef 143 (.getfield 201) 3 7 26 0 77, om_ew 146 (.iconst 1) 1 (om_i (1)) 0, om_e 147 .iadd 1, om_ef 148 (.putfield 201) 3 7 26 0 77, om_ew 151 (.iconst 1) 1 (om_i (1)) 0, om_e 152 .ireturn 1]
def om_E169_153 : List om_E := [om_ec 153 (.iinc 4 1) 3 (om_i (1)), om_et 156 (.goto 39) 3 195]
def om_E169_159 : List om_E := [om_e 159 (.iload 5) 2, om_ew 161 (.iconst (-1)) 1 (om_i (-1)) 0, om_et 162 (.if_icmp .eq 9) 3 171]
def om_E169_165 : List om_E := [om_ec 165 (.iinc 4 1) 3 (om_i (1)), om_et 168 (.goto 27) 3 195]
def om_E169_171 : List om_E := [om_e 171 (.aload_n 0) 1, om_ef 172 (.getfield 65) 3 7 25 21 76, om_e 175 (.aload_n 0) 1, om_ef 176 (.getfield 201) 3 7 26 0 77, om_e 179 (.iload 4) 2, om_e 181 .iastore 1, om_e 182 (.aload_n 0) 1, om_e 183 .dup 1, om_ef 184 (.getfield 201) 3 7 26 0 77, om_ew 187 (.iconst 1) 1 (om_i (1)) 0, om_e 188 .iadd 1, om_ef 189 (.putfield 201) 3 7 26 0 77, om_ew 192 (.iconst 0) 1 (om_i (0)) 0, om_e 193 (.istore 4) 2]
def om_E169_195 : List om_E := [om_et 195 (.goto (-180)) 3 15]
def om_E169_198 : List om_E := [om_ew 198 (.iconst 0) 1 (om_i (0)) 0, om_e 199 .ireturn 1]
def om_B169 : List om_Bk := [(0, [true, true, true, true, false, false], om_E169_0, 15), (15, [true, false, true, true, true, false], om_E169_15, 22), (22, [true, false, true, true, true, false], om_E169_22, 31), (31, [true, false, true, true, true, false], om_E169_31, 55), (55, [true, false, true, true, true, false], om_E169_55, 61), (61, [true, false, true, true, true, false], om_E169_61, 70), (70, [true, false, true, true, false, false], om_E169_70, 96), (96, [true, false, true, true, true, false], om_E169_96, 102), (102, [true, false, true, true, true, false], om_E169_102, 114), (114, [true, false, true, true, true, true], om_E169_114, 120), (120, [true, false, true, true, true, true], om_E169_120, 127), (127, [true, false, true, true, true, false], om_E169_127, 130), (130, [true, false, false, false, true, false], om_E169_130, 153), (153, [true, false, true, true, true, false], om_E169_153, 159), (159, [true, false, true, true, true, true], om_E169_159, 165), (165, [true, false, true, true, true, false], om_E169_165, 171), (171, [true, false, true, true, true, false], om_E169_171, 195), (195, [true, false, true, true, true, false], om_E169_195, 198), (198, [false, false, false, false, false, false], om_E169_198, 200)]
def om_E170_0 : List om_E := [om_e 0 (.iload_n 1) 1, om_ef 1 (.invokestatic 91) 3 0 125 1 96]
def om_E170_4 : List om_E := [om_et 4 (.ifCond .eq 11) 3 15]
def om_E170_7 : List om_E := [om_e 7 (.aload_n 0) 1, om_e 8 (.iload_n 2) 1, om_ef 9 (.invokevirtual 97) 3 7 122 2 99]
def om_E170_12 : List om_E := [om_et 12 (.ifCond .ne 6) 3 18]
def om_E170_15 : List om_E := [om_ew 15 (.bipush (-2)) 2 (om_i (-2)) 0, om_e 17 .ireturn 1]
def om_E170_18 : List om_E := [om_e 18 (.iload_n 3) 1, om_et 19 (.ifCond .ge 6) 3 25]
def om_E170_22 : List om_E := [om_ew 22 (.bipush (-3)) 2 (om_i (-3)) 0, om_e 24 .ireturn 1]
def om_E170_25 : List om_E := [om_e 25 (.aload_n 0) 1, om_e 26 (.iload_n 1) 1, om_ef 27 (.invokevirtual 198) 3 7 165 2 137]
def om_E170_30 : List om_E := [om_e 30 (.iload_n 2) 1, om_e 31 .ishr 1, om_ew 32 (.iconst 1) 1 (om_i (1)) 0, om_e 33 .iand 1, om_ew 34 (.iconst 1) 1 (om_i (1)) 0, om_et 35 (.if_icmp .ne 5) 3 40]
def om_E170_38 : List om_E := [om_ew 38 (.iconst (-1)) 1 (om_i (-1)) 0, om_e 39 .ireturn 1]
def om_E170_40 : List om_E := [om_e 40 (.aload_n 0) 1, om_e 41 (.iload_n 1) 1, om_ef 42 (.invokevirtual 192) 3 7 162 2 138]
def om_E170_45 : List om_E := [om_ew 45 (.iconst 2) 1 (om_i (2)) 0, om_e 46 (.istore 4) 2]
def om_E170_48 : List om_E := [om_e 48 (.aload_n 0) 1, om_e 49 (.iload_n 2) 1, om_e 50 (.iload 4) 2, om_e 52 (.iload_n 1) 1, om_ef 53 (.invokevirtual 211) 3 7 169 4 142]
def om_E170_56 : List om_E := [om_et 56 (.ifCond .ne 9) 3 65]
def om_E170_59 : List om_E := [om_ec 59 (.iinc 4 1) 3 (om_i (1)), om_et 62 (.goto (-14)) 3 48]
def om_E170_65 : List om_E := [om_e 65 (.aload_n 0) 1, om_ef 66 (.invokevirtual 155) 3 7 135 1 126]
def om_E170_69 : List om_E := [om_e 69 (.iload_n 3) 1, om_e 70 (.aload_n 0) 1, om_ef 71 (.getfield 201) 3 7 26 0 77, om_et 74 (.if_icmp .ge 12) 3 86]
def om_E170_77 : List om_E := [om_e 77 (.aload_n 0) 1, om_ef 78 (.getfield 65) 3 7 25 21 76, om_e 81 (.iload_n 3) 1, om_e 82 .iaload 1, om_et 83 (.goto 4) 3 87]
def om_E170_86 : List om_E := [om_ew 86 (.iconst (-1)) 1 (om_i (-1)) 0]
def om_E170_87 : List om_E := [om_e 87 .ireturn 1]
def om_B170 : List om_Bk := [(0, [true, true, true, true, false], om_E170_0, 4), (4, [true, true, true, true, false], om_E170_4, 7), (7, [true, true, true, true, false], om_E170_7, 12), (12, [true, true, true, true, false], om_E170_12, 15), (15, [false, false, false, false, false], om_E170_15, 18), (18, [true, true, true, true, false], om_E170_18, 22), (22, [false, false, false, false, false], om_E170_22, 25), (25, [true, true, true, true, false], om_E170_25, 30), (30, [true, true, true, true, false], om_E170_30, 38), (38, [false, false, false, false, false], om_E170_38, 40), (40, [true, true, true, true, false], om_E170_40, 45), (45, [true, true, true, true, false], om_E170_45, 48), (48, [true, true, true, true, true], om_E170_48, 56), (56, [true, true, true, true, true], om_E170_56, 59), (59, [true, true, true, true, true], om_E170_59, 65), (65, [true, false, false, true, false], om_E170_65, 69), (69, [true, false, false, true, false], om_E170_69, 77), (77, [true, false, false, true, false], om_E170_77, 86), (86, [false, false, false, false, false], om_E170_86, 87), (87, [false, false, false, false, false], om_E170_87, 88)]
def om_E171_0 : List om_E := [om_ew 0 (.iconst 0) 1 (om_i (0)) 0, om_e 1 (.istore_n 2) 1]
def om_E171_2 : List om_E := [om_e 2 (.iload_n 2) 1, om_e 3 (.aload_n 0) 1, om_ef 4 (.getfield 88) 3 7 6 0 57, om_et 7 (.if_icmp .ge 151) 3 158]
def om_E171_10 : List om_E := [om_ew 10 (.iconst 0) 1 (om_i (0)) 0, om_e 11 (.istore_n 3) 1]
def om_E171_12 : List om_E := [om_e 12 (.iload_n 3) 1, om_e 13 (.aload_n 0) 1, om_ef 14 (.getfield 81) 3 7 2 0 53, om_et 17 (.if_icmp .ge 135) 3 152]
def om_E171_20 : List om_E := [om_e 20 (.aload_n 0) 1, om_e 21 (.iload_n 2) 1, om_ef 22 (.invokevirtual 112) 3 7 133 2 109]
def om_E171_25 : List om_E := [om_et 25 (.ifCond .eq 127) 3 152]
def om_E171_28 : List om_E := [om_e 28 (.aload_n 0) 1, om_ef 29 (.getfield 68) 3 7 27 22 78, om_ew 32 (.bipush 8) 2 (om_i (8)) 0, om_e 34 (.iload_n 3) 1, om_e 35 .imul 1, om_e 36 (.aload_n 0) 1, om_ef 37 (.getfield 16) 3 7 3 6 54, om_e 40 (.iload_n 2) 1, om_e 41 .iaload 1, om_e 42 .iadd 1, om_e 43 .iaload 1, om_e 44 (.iload_n 1) 1, om_e 45 (.aload_n 0) 1, om_ef 46 (.getfield 22) 3 7 5 8 56, om_e 49 (.iload_n 2) 1, om_e 50 .iaload 1, om_e 51 .imul 1, om_e 52 .iadd 1, om_e 53 (.istore 4) 2, om_e 55 (.aload_n 0) 1, om_ef 56 (.getfield 68) 3 7 27 22 78, om_ew 59 (.bipush 8) 2 (om_i (8)) 0, om_e 61 (.iload_n 3) 1, om_e 62 .imul 1, om_e 63 (.aload_n 0) 1, om_ef 64 (.getfield 16) 3 7 3 6 54, om_e 67 (.iload_n 2) 1, om_e 68 .iaload 1, om_e 69 .iadd 1, om_e 70 .iaload 1, om_ew 71 (.ldc 134) 2 (om_i (100000)) 6, om_et 73 (.if_icmp .ge 28) 3 101]
def om_E171_76 : List om_E := [om_e 76 (.iload 4) 2, om_e 78 (.aload_n 0) 1, om_ef 79 (.getfield 71) 3 7 28 23 79, om_ew 82 (.bipush 8) 2 (om_i (8)) 0, om_e 84 (.iload_n 3) 1, om_e 85 .imul 1, om_e 86 (.aload_n 0) 1, om_ef 87 (.getfield 19) 3 7 4 7 55, om_e 90 (.iload_n 2) 1, om_e 91 .iaload 1, om_e 92 .iadd 1, om_e 93 .iaload 1, om_et 94 (.if_icmp .ge 7) 3 101]
def om_E171_97 : List om_E := [om_ew 97 (.iconst 1) 1 (om_i (1)) 0, om_et 98 (.goto 4) 3 102]
def om_E171_101 : List om_E := [om_ew 101 (.iconst 0) 1 (om_i (0)) 0]
def om_E171_102 : List om_E := [om_e 102 (.istore 5) 2, om_e 104 (.aload_n 0) 1, om_ef 105 (.getfield 71) 3 7 28 23 79, om_ew 108 (.bipush 8) 2 (om_i (8)) 0, om_e 110 (.iload_n 3) 1, om_e 111 .imul 1, om_e 112 (.aload_n 0) 1, om_ef 113 (.getfield 19) 3 7 4 7 55, om_e 116 (.iload_n 2) 1, om_e 117 .iaload 1, om_e 118 .iadd 1, om_e 119 (.iload 5) 2, om_et 121 (.ifCond .eq 8) 3 129]
def om_E171_124 : List om_E := [om_e 124 (.iload 4) 2, om_et 126 (.goto 19) 3 145]
def om_E171_129 : List om_E := [om_e 129 (.aload_n 0) 1, om_ef 130 (.getfield 71) 3 7 28 23 79, om_ew 133 (.bipush 8) 2 (om_i (8)) 0, om_e 135 (.iload_n 3) 1, om_e 136 .imul 1, om_e 137 (.aload_n 0) 1, om_ef 138 (.getfield 19) 3 7 4 7 55, om_e 141 (.iload_n 2) 1, om_e 142 .iaload 1, om_e 143 .iadd 1, om_e 144 .iaload 1]
def om_E171_145 : List om_E := [om_e 145 .iastore 1, om_ec 146 (.iinc 3 1) 3 (om_i (1)), om_et 149 (.goto (-137)) 3 12]
def om_E171_152 : List om_E := [om_ec 152 (.iinc 2 1) 3 (om_i (1)), om_et 155 (.goto (-153)) 3 2]
def om_E171_158 : List om_E := [om_ew 158 (.iconst 0) 1 (om_i (0)) 0, om_e 159 (.istore_n 2) 1]
def om_E171_160 : List om_E := [om_e 160 (.iload_n 2) 1, om_e 161 (.aload_n 0) 1, om_ef 162 (.getfield 81) 3 7 2 0 53, om_et 165 (.if_icmp .ge 94) 3 259]
def om_E171_168 : List om_E := [om_ew 168 (.iconst 0) 1 (om_i (0)) 0, om_e 169 (.istore_n 3) 1]
def om_E171_170 : List om_E := [om_e 170 (.iload_n 3) 1, om_e 171 (.aload_n 0) 1, om_ef 172 (.getfield 81) 3 7 2 0 53, om_et 175 (.if_icmp .ge 78) 3 253]
def om_E171_178 : List om_E := [om_e 178 (.aload_n 0) 1, om_e 179 (.iload_n 2) 1, om_ef 180 (.invokevirtual 152) 3 7 151 2 125]
def om_E171_183 : List om_E := [om_et 183 (.ifCond .ne 70) 3 253]
def om_E171_186 : List om_E := [om_e 186 (.aload_n 0) 1, om_ef 187 (.getfield 71) 3 7 28 23 79, om_ew 190 (.bipush 8) 2 (om_i (8)) 0, om_e 192 (.iload_n 3) 1, om_e 193 .imul 1, om_e 194 (.iload_n 2) 1, om_e 195 .iadd 1, om_e 196 (.aload_n 0) 1, om_ef 197 (.getfield 68) 3 7 27 22 78, om_ew 200 (.bipush 8) 2 (om_i (8)) 0, om_e 202 (.iload_n 3) 1, om_e 203 .imul 1, om_e 204 (.iload_n 2) 1, om_e 205 .iadd 1, om_e 206 .iaload 1, om_e 207 (.aload_n 0) 1, om_ef 208 (.getfield 71) 3 7 28 23 79, om_ew 211 (.bipush 8) 2 (om_i (8)) 0, om_e 213 (.iload_n 3) 1, om_e 214 .imul 1, om_e 215 (.iload_n 2) 1, om_e 216 .iadd 1, om_e 217 .iaload 1, om_et 218 (.if_icmp .ge 17) 3 235]
def om_E171_221 : List om_E := [om_e 221 (.aload_n 0) 1, om_ef 222 (.getfield 68) 3 7 27 22 78, om_ew 225 (.bipush 8) 2 (om_i (8)) 0, om_e 227 (.iload_n 3) 1, om_e 228 .imul 1, om_e 229 (.iload_n 2) 1, om_e 230 .iadd 1, om_e 231 .iaload 1, om_et 232 (.goto 14) 3 246]
def om_E171_235 : List om_E := [om_e 235 (.aload_n 0) 1, om_ef 236 (.getfield 71) 3 7 28 23 79, om_ew 239 (.bipush 8) 2 (om_i (8)) 0, om_e 241 (.iload_n 3) 1, om_e 242 .imul 1, om_e 243 (.iload_n 2) 1, om_e 244 .iadd 1, om_e 245 .iaload 1]
def om_E171_246 : List om_E := [om_e 246 .iastore 1, om_ec 247 (.iinc 3 1) 3 (om_i (1)), om_et 250 (.goto (-80)) 3 170]
def om_E171_253 : List om_E := [om_ec 253 (.iinc 2 1) 3 (om_i (1)), om_et 256 (.goto (-96)) 3 160]
def om_E171_259 : List om_E := [om_e 259 .return_ 1]
def om_B171 : List om_Bk := [(0, [true, true, false, false, false, false], om_E171_0, 2), (2, [true, true, true, false, false, false], om_E171_2, 10), (10, [true, true, true, false, false, false], om_E171_10, 12), (12, [true, true, true, true, false, false], om_E171_12, 20), (20, [true, true, true, true, false, false], om_E171_20, 25), (25, [true, true, true, true, false, false], om_E171_25, 28), (28, [true, true, true, true, false, false], om_E171_28, 76), (76, [true, true, true, true, true, false], om_E171_76, 97), (97, [true, true, true, true, true, false], om_E171_97, 101), (101, [true, true, true, true, true, false], om_E171_101, 102), (102, [true, true, true, true, true, false], om_E171_102, 124), (124, [true, true, true, true, true, false], om_E171_124, 129), (129, [true, true, true, true, false, false], om_E171_129, 145), (145, [true, true, true, true, false, false], om_E171_145, 152), (152, [true, true, true, false, false, false], om_E171_152, 158), (158, [true, false, false, false, false, false], om_E171_158, 160), (160, [true, false, true, false, false, false], om_E171_160, 168), (168, [true, false, true, false, false, false], om_E171_168, 170), (170, [true, false, true, true, false, false], om_E171_170, 178), (178, [true, false, true, true, false, false], om_E171_178, 183), (183, [true, false, true, true, false, false], om_E171_183, 186), (186, [true, false, true, true, false, false], om_E171_186, 221), (221, [true, false, true, true, false, false], om_E171_221, 235), (235, [true, false, true, true, false, false], om_E171_235, 246), (246, [true, false, true, true, false, false], om_E171_246, 253), (253, [true, false, true, false, false, false], om_E171_253, 259), (259, [false, false, false, false, false, false], om_E171_259, 260)]
def om_E172_0 : List om_E := [om_e 0 (.iload_n 0) 1, om_e 1 (.istore_n 2) 1, om_e 2 (.iload_n 1) 1, om_e 3 (.istore_n 3) 1]
def om_E172_4 : List om_E := [om_e 4 (.iload_n 3) 1, om_et 5 (.ifCond .eq 16) 3 21]
def om_E172_8 : List om_E := [om_e 8 (.iload_n 2) 1, om_e 9 (.iload_n 3) 1, om_e 10 .irem 1, om_e 11 (.istore 4) 2, om_e 13 (.iload_n 3) 1, om_e 14 (.istore_n 2) 1, om_e 15 (.iload 4) 2, om_e 17 (.istore_n 3) 1, om_et 18 (.goto (-14)) 3 4]
def om_E172_21 : List om_E := [om_e 21 (.iload_n 2) 1, om_e 22 .ireturn 1]
def om_B172 : List om_Bk := [(0, [true, true, false, false, false], om_E172_0, 4), (4, [false, false, true, true, false], om_E172_4, 8), (8, [false, false, true, true, false], om_E172_8, 21), (21, [false, false, true, false, false], om_E172_21, 23)]
def om_E173_0 : List om_E := [om_e 0 (.iload_n 1) 1, om_ef 1 (.invokestatic 91) 3 0 125 1 96]
def om_E173_4 : List om_E := [om_et 4 (.ifCond .eq 21) 3 25]
def om_E173_7 : List om_E := [om_e 7 (.aload_n 0) 1, om_e 8 (.iload_n 2) 1, om_ef 9 (.invokevirtual 97) 3 7 122 2 99]
def om_E173_12 : List om_E := [om_et 12 (.ifCond .eq 13) 3 25]
def om_E173_15 : List om_E := [om_e 15 (.iload_n 3) 1, om_e 16 .i2l 1, om_ew 17 (.lconst 0) 1 (om_l (0)) 0, om_ew 18 (.lconst 1) 1 (om_l (1)) 0, om_ef 19 (.invokestatic 84) 3 0 121 3 97]
def om_E173_22 : List om_E := [om_et 22 (.ifCond .ne 6) 3 28]
def om_E173_25 : List om_E := [om_ew 25 (.ldc 111) 2 (om_i (-2147483648)) 5, om_e 27 .ireturn 1]
def om_E173_28 : List om_E := [om_e 28 (.aload_n 0) 1, om_e 29 (.iload_n 1) 1, om_ef 30 (.invokevirtual 192) 3 7 162 2 138]
def om_E173_33 : List om_E := [om_e 33 (.aload_n 0) 1, om_ew 34 (.iconst 1) 1 (om_i (1)) 0, om_e 35 (.iload_n 2) 1, om_e 36 .ishl 1, om_ew 37 (.iconst 1) 1 (om_i (1)) 0, om_e 38 (.aload_n 0) 1, om_ef 39 (.getfield 81) 3 7 2 0 53, om_e 42 .ishl 1, om_ew 43 (.iconst 1) 1 (om_i (1)) 0, om_e 44 .isub 1, om_ef 45 (.invokevirtual 189) 3 7 163 3 140]
def om_E173_48 : List om_E := [om_e 48 (.istore 4) 2, om_e 50 (.iload_n 1) 1, om_et 51 (.ifCond .ne 7) 3 58]
def om_E173_54 : List om_E := [om_ew 54 (.iconst 1) 1 (om_i (1)) 0, om_et 55 (.goto 4) 3 59]
def om_E173_58 : List om_E := [om_ew 58 (.iconst (-1)) 1 (om_i (-1)) 0]
def om_E173_59 : List om_E := [om_e 59 (.istore 5) 2, om_e 61 (.aload_n 0) 1, om_ew 62 (.iconst 0) 1 (om_i (0)) 0, om_ef 63 (.putfield 180) 3 7 23 0 74, om_e 66 (.aload_n 0) 1, om_ew 67 (.iconst 0) 1 (om_i (0)) 0, om_ef 68 (.putfield 171) 3 7 24 0 75, om_ew 71 (.iconst 0) 1 (om_i (0)) 0, om_e 72 (.istore 6) 2]
def om_E173_74 : List om_E := [om_e 74 (.iload 6) 2, om_ew 76 (.bipush 64) 2 (om_i (64)) 0, om_et 78 (.if_icmp .ge 35) 3 113]
def om_E173_81 : List om_E := [om_e 81 (.aload_n 0) 1, om_ef 82 (.getfield 68) 3 7 27 22 78, om_e 85 (.iload 6) 2, om_e 87 (.iload 6) 2, om_ew 89 (.bipush 8) 2 (om_i (8)) 0, om_e 91 .idiv 1, om_e 92 (.iload 6) 2, om_ew 94 (.bipush 8) 2 (om_i (8)) 0, om_e 96 .irem 1, om_et 97 (.if_icmp .ne 7) 3 104]
def om_E173_100 : List om_E := [om_ew 100 (.iconst 0) 1 (om_i (0)) 0, om_et 101 (.goto 5) 3 106]
def om_E173_104 : List om_E := [om_ew 104 (.ldc 134) 2 (om_i (100000)) 6]
def om_E173_106 : List om_E := [om_e 106 .iastore 1, om_ec 107 (.iinc 6 1) 3 (om_i (1)), om_et 110 (.goto (-36)) 3 74]
def om_E173_113 : List om_E := [om_ew 113 (.iconst 1) 1 (om_i (1)) 0, om_e 114 (.istore 6) 2]
def om_E173_116 : List om_E := [om_e 116 (.iload 6) 2, om_e 118 (.aload_n 0) 1, om_ef 119 (.getfield 81) 3 7 2 0 53, om_et 122 (.if_icmp .gt 154) 3 276]
def om_E173_125 : List om_E := [om_ew 125 (.iconst 0) 1 (om_i (0)) 0, om_e 126 (.istore 7) 2]
def om_E173_128 : List om_E := [om_e 128 (.iload 7) 2, om_ew 130 (.bipush 64) 2 (om_i (64)) 0, om_et 132 (.if_icmp .ge 18) 3 150]
def om_E173_135 : List om_E := [om_e 135 (.aload_n 0) 1, om_ef 136 (.getfield 71) 3 7 28 23 79, om_e 139 (.iload 7) 2, om_ew 141 (.ldc 134) 2 (om_i (100000)) 6, om_e 143 .iastore 1, om_ec 144 (.iinc 7 1) 3 (om_i (1)), om_et 147 (.goto (-19)) 3 128]
def om_E173_150 : List om_E := [om_e 150 (.aload_n 0) 1, om_e 151 (.iload 5) 2, om_ef 153 (.invokevirtual 215) 3 7 171 2 146]
def om_E173_156 : List om_E := [om_ew 156 (.iconst 0) 1 (om_i (0)) 0, om_e 157 (.istore 7) 2]
def om_E173_159 : List om_E := [om_e 159 (.iload 7) 2, om_e 161 (.aload_n 0) 1, om_ef 162 (.getfield 81) 3 7 2 0 53, om_et 165 (.if_icmp .ge 75) 3 240]
def om_E173_168 : List om_E := [om_e 168 (.aload_n 0) 1, om_ef 169 (.getfield 71) 3 7 28 23 79, om_ew 172 (.bipush 9) 2 (om_i (9)) 0, om_e 174 (.iload 7) 2, om_e 176 .imul 1, om_e 177 .iaload 1, om_e 178 (.istore 8) 2, om_e 180 (.iload 4) 2, om_e 182 (.iload 7) 2, om_e 184 .ishr 1, om_ew 185 (.iconst 1) 1 (om_i (1)) 0, om_e 186 .iand 1, om_ew 187 (.iconst 1) 1 (om_i (1)) 0, om_et 188 (.if_icmp .ne 46) 3 234]
def om_E173_191 : List om_E := [om_e 191 (.iload 8) 2, om_ew 193 (.ldc 134) 2 (om_i (100000)) 6, om_et 195 (.if_icmp .ge 39) 3 234]
def om_E173_198 : List om_E := [om_e 198 (.aload_n 0) 1, om_ef 199 (.getfield 171) 3 7 24 0 75, om_et 202 (.ifCond .eq 20) 3 222]
def om_E173_205 : List om_E := [om_e 205 (.iload 8) 2, om_e 207 (.aload_n 0) 1, om_ef 208 (.getfield 171) 3 7 24 0 75, om_e 211 .imul 1, om_e 212 (.aload_n 0) 1, om_ef 213 (.getfield 180) 3 7 23 0 74, om_e 216 (.iload 6) 2, om_e 218 .imul 1, om_et 219 (.if_icmp .ge 15) 3 234]
def om_E173_222 : List om_E := [om_e 222 (.aload_n 0) 1, om_e 223 (.iload 8) 2, om_ef 225 (.putfield 180) 3 7 23 0 74, om_e 228 (.aload_n 0) 1, om_e 229 (.iload 6) 2, om_ef 231 (.putfield 171) 3 7 24 0 75]
def om_E173_234 : List om_E := [om_ec 234 (.iinc 7 1) 3 (om_i (1)), om_et 237 (.goto (-78)) 3 159]
def om_E173_240 : List om_E := [om_ew 240 (.iconst 0) 1 (om_i (0)) 0, om_e 241 (.istore 7) 2]
def om_E173_243 : List om_E := [om_e 243 (.iload 7) 2, om_ew 245 (.bipush 64) 2 (om_i (64)) 0, om_et 247 (.if_icmp .ge 23) 3 270]
def om_E173_250 : List om_E := [om_e 250 (.aload_n 0) 1, om_ef 251 (.getfield 68) 3 7 27 22 78, om_e 254 (.iload 7) 2, om_e 256 (.aload_n 0) 1, om_ef 257 (.getfield 71) 3 7 28 23 79, om_e 260 (.iload 7) 2, om_e 262 .iaload 1, om_e 263 .iastore 1, om_ec 264 (.iinc 7 1) 3 (om_i (1)), om_et 267 (.goto (-24)) 3 243]
def om_E173_270 : List om_E := [om_ec 270 (.iinc 6 1) 3 (om_i (1)), om_et 273 (.goto (-157)) 3 116]
def om_E173_276 : List om_E := [om_e 276 (.aload_n 0) 1, om_ef 277 (.invokevirtual 155) 3 7 135 1 126]
def om_E173_280 : List om_E := [om_e 280 (.aload_n 0) 1, om_ef 281 (.getfield 180) 3 7 23 0 74, om_et 284 (.ifCond .ge 11) 3 295]
def om_E173_287 : List om_E := [om_e 287 (.aload_n 0) 1, om_ef 288 (.getfield 180) 3 7 23 0 74, om_e 291 .ineg 1, om_et 292 (.goto 7) 3 299]
def om_E173_295 : List om_E := [om_e 295 (.aload_n 0) 1, om_ef 296 (.getfield 180) 3 7 23 0 74]
def om_E173_299 : List om_E := [om_e 299 (.aload_n 0) 1, om_ef 300 (.getfield 171) 3 7 24 0 75, om_ef 303 (.invokestatic 218) 3 0 172 2 147]
def om_E173_306 : List om_E := [om_e 306 (.istore 6) 2, om_e 308 (.iload_n 3) 1, om_et 309 (.ifCond .ne 16) 3 325]
def om_E173_312 : List om_E := [om_e 312 (.iload 5) 2, om_e 314 (.aload_n 0) 1, om_ef 315 (.getfield 180) 3 7 23 0 74, om_e 318 .imul 1, om_e 319 (.iload 6) 2, om_e 321 .idiv 1, om_et 322 (.goto 10) 3 332]
def om_E173_325 : List om_E := [om_e 325 (.aload_n 0) 1, om_ef 326 (.getfield 171) 3 7 24 0 75, om_e 329 (.iload 6) 2, om_e 331 .idiv 1]
def om_E173_332 : List om_E := [om_e 332 .ireturn 1]
def om_B173 : List om_Bk := [(0, [true, true, true, true, false, false, false, false, false], om_E173_0, 4), (4, [true, true, true, true, false, false, false, false, false], om_E173_4, 7), (7, [true, true, true, true, false, false, false, false, false], om_E173_7, 12), (12, [true, true, true, true, false, false, false, false, false], om_E173_12, 15), (15, [true, true, true, true, false, false, false, false, false], om_E173_15, 22), (22, [true, true, true, true, false, false, false, false, false], om_E173_22, 25), (25, [false, false, false, false, false, false, false, false, false], om_E173_25, 28), (28, [true, true, true, true, false, false, false, false, false], om_E173_28, 33), (33, [true, true, true, true, false, false, false, false, false], om_E173_33, 48), (48, [true, true, false, true, false, false, false, false, false], om_E173_48, 54), (54, [true, false, false, true, true, false, false, false, false], om_E173_54, 58), (58, [true, false, false, true, true, false, false, false, false], om_E173_58, 59), (59, [true, false, false, true, true, false, false, false, false], om_E173_59, 74), (74, [true, false, false, true, true, true, true, false, false], om_E173_74, 81), (81, [true, false, false, true, true, true, true, false, false], om_E173_81, 100), (100, [true, false, false, true, true, true, true, false, false], om_E173_100, 104), (104, [true, false, false, true, true, true, true, false, false], om_E173_104, 106), (106, [true, false, false, true, true, true, true, false, false], om_E173_106, 113), (113, [true, false, false, true, true, true, false, false, false], om_E173_113, 116), (116, [true, false, false, true, true, true, true, false, false], om_E173_116, 125), (125, [true, false, false, true, true, true, true, false, false], om_E173_125, 128), (128, [true, false, false, true, true, true, true, true, false], om_E173_128, 135), (135, [true, false, false, true, true, true, true, true, false], om_E173_135, 150), (150, [true, false, false, true, true, true, true, false, false], om_E173_150, 156), (156, [true, false, false, true, true, true, true, false, false], om_E173_156, 159), (159, [true, false, false, true, true, true, true, true, false], om_E173_159, 168), (168, [true, false, false, true, true, true, true, true, false], om_E173_168, 191), (191, [true, false, false, true, true, true, true, true, true], om_E173_191, 198), (198, [true, false, false, true, true, true, true, true, true], om_E173_198, 205), (205, [true, false, false, true, true, true, true, true, true], om_E173_205, 222), (222, [true, false, false, true, true, true, true, true, true], om_E173_222, 234), (234, [true, false, false, true, true, true, true, true, false], om_E173_234, 240), (240, [true, false, false, true, true, true, true, false, false], om_E173_240, 243), (243, [true, false, false, true, true, true, true, true, false], om_E173_243, 250), (250, [true, false, false, true, true, true, true, true, false], om_E173_250, 270), (270, [true, false, false, true, true, true, true, false, false], om_E173_270, 276), (276, [true, false, false, true, false, true, false, false, false], om_E173_276, 280), (280, [true, false, false, true, false, true, false, false, false], om_E173_280, 287), (287, [true, false, false, true, false, true, false, false, false], om_E173_287, 295), (295, [true, false, false, true, false, true, false, false, false], om_E173_295, 299), (299, [true, false, false, true, false, true, false, false, false], om_E173_299, 306), (306, [true, false, false, true, false, true, false, false, false], om_E173_306, 312), (312, [true, false, false, false, false, true, true, false, false], om_E173_312, 325), (325, [true, false, false, false, false, false, true, false, false], om_E173_325, 332), (332, [false, false, false, false, false, false, false, false, false], om_E173_332, 333)]
def om_E174_0 : List om_E := [om_e 0 (.iload_n 3) 1, om_e 1 .i2l 1, om_ew 2 (.lconst 1) 1 (om_l (1)) 0, om_ew 3 (.ldc2_w 221) 3 (om_l (8)) 10, om_ef 6 (.invokestatic 84) 3 0 121 3 97]
def om_E174_9 : List om_E := [om_et 9 (.ifCond .ne 6) 3 15]
def om_E174_12 : List om_E := [om_ew 12 (.bipush (-3)) 2 (om_i (-3)) 0, om_e 14 .ireturn 1]
def om_E174_15 : List om_E := [om_e 15 (.aload_n 0) 1, om_ef 16 (.getfield 223) 3 7 9 0 60, om_e 19 (.iload_n 3) 1, om_e 20 .iadd 1, om_ew 21 (.bipush 120) 2 (om_i (120)) 0, om_et 23 (.if_icmp .le 6) 3 29]
def om_E174_26 : List om_E := [om_ew 26 (.bipush (-5)) 2 (om_i (-5)) 0, om_e 28 .ireturn 1]
def om_E174_29 : List om_E := [om_ew 29 (.iconst 0) 1 (om_i (0)) 0, om_e 30 (.istore 4) 2]
def om_E174_32 : List om_E := [om_e 32 (.iload 4) 2, om_e 34 (.iload_n 3) 1, om_et 35 (.if_icmp .ge 40) 3 75]
def om_E174_38 : List om_E := [om_e 38 (.aload_n 0) 1, om_ef 39 (.getfield 28) 3 7 8 10 59, om_e 42 (.aload_n 0) 1, om_ef 43 (.getfield 223) 3 7 9 0 60, om_e 46 (.lload_n 1) 1, om_ew 47 (.bipush 8) 2 (om_i (8)) 0, om_e 49 (.iload 4) 2, om_e 51 .imul 1, om_e 52 .lshr 1, om_ew 53 (.ldc2_w 226) 3 (om_l (255)) 11, om_e 56 .land 1, om_e 57 .l2i 1, om_e 58 .iastore 1, om_e 59 (.aload_n 0) 1, om_e 60 .dup 1, om_ef 61 (.getfield 223) 3 7 9 0 60, om_ew 64 (.iconst 1) 1 (om_i (1)) 0, om_e 65 .iadd 1, om_ef 66 (.putfield 223) 3 7 9 0 60, om_ec 69 (.iinc 4 1) 3 (om_i (1)), om_et 72 (.goto (-40)) 3 32]
def om_E174_75 : List om_E := [om_e 75 (.aload_n 0) 1, om_ef 76 (.getfield 223) 3 7 9 0 60, om_e 79 .ireturn 1]
def om_B174 : List om_Bk := [(0, [true, true, false, true, false], om_E174_0, 9), (9, [true, true, false, true, false], om_E174_9, 12), (12, [false, false, false, false, false], om_E174_12, 15), (15, [true, true, false, true, false], om_E174_15, 26), (26, [false, false, false, false, false], om_E174_26, 29), (29, [true, true, false, true, false], om_E174_29, 32), (32, [true, true, false, true, true], om_E174_32, 38), (38, [true, true, false, true, true], om_E174_38, 75), (75, [true, false, false, false, false], om_E174_75, 80)]
def om_E175_0 : List om_E := [om_e 0 (.aload_n 0) 1, om_ef 1 (.getfield 223) 3 7 9 0 60, om_e 4 (.istore_n 1) 1, om_e 5 (.aload_n 0) 1, om_ew 6 (.iconst 0) 1 (om_i (0)) 0, om_ef 7 (.putfield 223) 3 7 9 0 60, om_e 10 (.iload_n 1) 1, om_e 11 .ireturn 1]
def om_B175 : List om_Bk := [(0, [true, false], om_E175_0, 12)]
def om_E176_0 : List om_E := [om_e 0 (.iload_n 0) 1, om_ew 1 (.bipush 97) 2 (om_i (97)) 0, om_et 3 (.if_icmp .lt 13) 3 16]
def om_E176_6 : List om_E := [om_e 6 (.iload_n 0) 1, om_ew 7 (.bipush 122) 2 (om_i (122)) 0, om_et 9 (.if_icmp .gt 7) 3 16]
def om_E176_12 : List om_E := [om_ew 12 (.iconst 1) 1 (om_i (1)) 0, om_et 13 (.goto 20) 3 33]
def om_E176_16 : List om_E := [om_e 16 (.iload_n 0) 1, om_ew 17 (.bipush 48) 2 (om_i (48)) 0, om_et 19 (.if_icmp .lt 13) 3 32]
def om_E176_22 : List om_E := [om_e 22 (.iload_n 0) 1, om_ew 23 (.bipush 57) 2 (om_i (57)) 0, om_et 25 (.if_icmp .gt 7) 3 32]
def om_E176_28 : List om_E := [om_ew 28 (.iconst 2) 1 (om_i (2)) 0, om_et 29 (.goto 4) 3 33]
def om_E176_32 : List om_E := [om_ew 32 (.iconst 0) 1 (om_i (0)) 0]
def om_E176_33 : List om_E := [om_e 33 .ireturn 1]
def om_B176 : List om_Bk := [(0, [true], om_E176_0, 6), (6, [true], om_E176_6, 12), (12, [false], om_E176_12, 16), (16, [true], om_E176_16, 22), (22, [true], om_E176_22, 28), (28, [false], om_E176_28, 32), (32, [false], om_E176_32, 33), (33, [false], om_E176_33, 34)]
def om_E177_0 : List om_E := [om_e 0 (.aload_n 0) 1, om_ef 1 (.getfield 228) 3 7 29 0 80, om_e 4 (.aload_n 0) 1, om_ef 5 (.getfield 223) 3 7 9 0 60, om_et 8 (.if_icmp .ge 30) 3 38]
def om_E177_11 : List om_E := [om_e 11 (.aload_n 0) 1, om_ef 12 (.getfield 28) 3 7 8 10 59, om_e 15 (.aload_n 0) 1, om_ef 16 (.getfield 228) 3 7 29 0 80, om_e 19 .iaload 1, om_ew 20 (.bipush 32) 2 (om_i (32)) 0, om_et 22 (.if_icmp .ne 16) 3 38]
def om_E177_25 : List om_E := [om_e 25 (.aload_n 0) 1, om_e 26 .dup 1, om_ef 27 (.getfield 228) 3 7 29 0 80, om_ew 30 (.iconst 1) 1 (om_i (1)) 0, om_e 31 .iadd 1, om_ef 32 (.putfield 228) 3 7 29 0 80, om_et 35 (.goto (-35)) 3 0]
def om_E177_38 : List om_E := [om_e 38 (.aload_n 0) 1, om_e 39 (.aload_n 0) 1, om_ef 40 (.getfield 228) 3 7 29 0 80, om_ef 43 (.putfield 231) 3 7 30 0 81, om_e 46 (.aload_n 0) 1, om_e 47 .dup 1, om_ef 48 (.getfield 228) 3 7 29 0 80, om_e 51 (.aload_n 0) 1, om_ef 52 (.getfield 228) 3 7 29 0 80, om_e 55 (.aload_n 0) 1, om_ef 56 (.getfield 223) 3 7 9 0 60, om_et 59 (.if_icmp .ge 7) 3 66]
def om_E177_62 : List om_E := [om_ew 62 (.iconst 1) 1 (om_i (1)) 0, om_et 63 (.goto 4) 3 67]
def om_E177_66 : List om_E := [om_ew 66 (.iconst 0) 1 (om_i (0)) 0]
def om_E177_67 : List om_E := [om_e 67 .iadd 1, om_ef 68 (.putfield 228) 3 7 29 0 80]
def om_E177_71 : List om_E := [om_e 71 (.aload_n 0) 1, om_ef 72 (.getfield 228) 3 7 29 0 80, om_e 75 (.aload_n 0) 1, om_ef 76 (.getfield 223) 3 7 9 0 60, om_et 79 (.if_icmp .ge 58) 3 137]
def om_E177_82 : List om_E := [om_e 82 (.aload_n 0) 1, om_ef 83 (.getfield 28) 3 7 8 10 59, om_e 86 (.aload_n 0) 1, om_ef 87 (.getfield 231) 3 7 30 0 81, om_e 90 .iaload 1, om_ef 91 (.invokestatic 234) 3 0 176 1 152]
def om_E177_94 : List om_E := [om_et 94 (.ifCond .le 43) 3 137]
def om_E177_97 : List om_E := [om_e 97 (.aload_n 0) 1, om_ef 98 (.getfield 28) 3 7 8 10 59, om_e 101 (.aload_n 0) 1, om_ef 102 (.getfield 228) 3 7 29 0 80, om_e 105 .iaload 1, om_ef 106 (.invokestatic 234) 3 0 176 1 152]
def om_E177_109 : List om_E := [om_e 109 (.aload_n 0) 1, om_ef 110 (.getfield 28) 3 7 8 10 59, om_e 113 (.aload_n 0) 1, om_ef 114 (.getfield 231) 3 7 30 0 81, om_e 117 .iaload 1, om_ef 118 (.invokestatic 234) 3 0 176 1 152]
def om_E177_121 : List om_E := [om_et 121 (.if_icmp .ne 16) 3 137]
def om_E177_124 : List om_E := [om_e 124 (.aload_n 0) 1, om_e 125 .dup 1, om_ef 126 (.getfield 228) 3 7 29 0 80, om_ew 129 (.iconst 1) 1 (om_i (1)) 0, om_e 130 .iadd 1, om_ef 131 (.putfield 228) 3 7 29 0 80, om_et 134 (.goto (-63)) 3 71]
def om_E177_137 : List om_E := [om_e 137 (.aload_n 0) 1, om_e 138 (.aload_n 0) 1, om_ef 139 (.getfield 228) 3 7 29 0 80, om_ef 142 (.putfield 237) 3 7 31 0 82, om_e 145 .return_ 1]
def om_B177 : List om_Bk := [(0, [true], om_E177_0, 11), (11, [true], om_E177_11, 25), (25, [true], om_E177_25, 38), (38, [true], om_E177_38, 62), (62, [true], om_E177_62, 66), (66, [true], om_E177_66, 67), (67, [true], om_E177_67, 71), (71, [true], om_E177_71, 82), (82, [true], om_E177_82, 94), (94, [true], om_E177_94, 97), (97, [true], om_E177_97, 109), (109, [true], om_E177_109, 121), (121, [true], om_E177_121, 124), (124, [true], om_E177_124, 137), (137, [true], om_E177_137, 146)]
def om_E178_0 : List om_E := [om_e 0 (.aload_n 0) 1, om_ef 1 (.getfield 237) 3 7 31 0 82, om_e 4 (.aload_n 0) 1, om_ef 5 (.getfield 231) 3 7 30 0 81, om_e 8 .isub 1, om_e 9 (.iload_n 2) 1, om_et 10 (.if_icmp .ne 7) 3 17]
def om_E178_13 : List om_E := [om_ew 13 (.iconst 1) 1 (om_i (1)) 0, om_et 14 (.goto 4) 3 18]
def om_E178_17 : List om_E := [om_ew 17 (.iconst 0) 1 (om_i (0)) 0]
def om_E178_18 : List om_E := [om_e 18 (.istore_n 3) 1, om_ew 19 (.iconst 0) 1 (om_i (0)) 0, om_e 20 (.istore 4) 2]
def om_E178_22 : List om_E := [om_e 22 (.iload_n 3) 1, om_et 23 (.ifCond .eq 48) 3 71]
def om_E178_26 : List om_E := [om_e 26 (.iload 4) 2, om_e 28 (.iload_n 2) 1, om_et 29 (.if_icmp .ge 42) 3 71]
def om_E178_32 : List om_E := [om_e 32 (.aload_n 0) 1, om_ef 33 (.getfield 28) 3 7 8 10 59, om_e 36 (.aload_n 0) 1, om_ef 37 (.getfield 231) 3 7 30 0 81, om_e 40 (.iload 4) 2, om_e 42 .iadd 1, om_e 43 .iaload 1, om_ew 44 (.bipush 96) 2 (om_i (96)) 0, om_e 46 (.iload_n 1) 1, om_ew 47 (.iconst 5) 1 (om_i (5)) 0, om_e 48 (.iload 4) 2, om_e 50 .imul 1, om_e 51 .ishr 1, om_ew 52 (.bipush 31) 2 (om_i (31)) 0, om_e 54 .iand 1, om_e 55 .iadd 1, om_et 56 (.if_icmp .ne 7) 3 63]
def om_E178_59 : List om_E := [om_ew 59 (.iconst 1) 1 (om_i (1)) 0, om_et 60 (.goto 4) 3 64]
def om_E178_63 : List om_E := [om_ew 63 (.iconst 0) 1 (om_i (0)) 0]
def om_E178_64 : List om_E := [om_e 64 (.istore_n 3) 1, om_ec 65 (.iinc 4 1) 3 (om_i (1)), om_et 68 (.goto (-46)) 3 22]
def om_E178_71 : List om_E := [om_e 71 (.iload_n 3) 1, om_e 72 .ireturn 1]
def om_B178 : List om_Bk := [(0, [true, true, true, false, false], om_E178_0, 13), (13, [true, true, true, false, false], om_E178_13, 17), (17, [true, true, true, false, false], om_E178_17, 18), (18, [true, true, true, false, false], om_E178_18, 22), (22, [true, true, true, true, true], om_E178_22, 26), (26, [true, true, true, true, true], om_E178_26, 32), (32, [true, true, true, false, true], om_E178_32, 59), (59, [true, true, true, false, true], om_E178_59, 63), (63, [true, true, true, false, true], om_E178_63, 64), (64, [true, true, true, false, true], om_E178_64, 71), (71, [false, false, false, true, false], om_E178_71, 73)]
def om_E179_0 : List om_E := [om_e 0 (.aload_n 0) 1, om_e 1 (.iload_n 1) 1, om_e 2 (.iload_n 2) 1, om_ef 3 (.invokevirtual 240) 3 7 178 3 155]
def om_E179_6 : List om_E := [om_e 6 (.istore_n 3) 1, om_e 7 (.iload_n 3) 1, om_et 8 (.ifCond .eq 7) 3 15]
def om_E179_11 : List om_E := [om_e 11 (.aload_n 0) 1, om_ef 12 (.invokevirtual 243) 3 7 177 1 151]
def om_E179_15 : List om_E := [om_e 15 (.iload_n 3) 1, om_e 16 .ireturn 1]
def om_B179 : List om_Bk := [(0, [true, true, true, false], om_E179_0, 6), (6, [true, false, false, false], om_E179_6, 11), (11, [true, false, false, true], om_E179_11, 15), (15, [false, false, false, true], om_E179_15, 17)]
def om_E180_0 : List om_E := [om_e 0 (.aload_n 0) 1, om_ef 1 (.getfield 231) 3 7 30 0 81, om_e 4 (.aload_n 0) 1, om_ef 5 (.getfield 223) 3 7 9 0 60, om_et 8 (.if_icmp .ge 33) 3 41]
def om_E180_11 : List om_E := [om_e 11 (.aload_n 0) 1, om_ef 12 (.getfield 237) 3 7 31 0 82, om_e 15 (.aload_n 0) 1, om_ef 16 (.getfield 231) 3 7 30 0 81, om_e 19 .isub 1, om_ew 20 (.iconst 1) 1 (om_i (1)) 0, om_et 21 (.if_icmp .ne 20) 3 41]
def om_E180_24 : List om_E := [om_e 24 (.aload_n 0) 1, om_ef 25 (.getfield 28) 3 7 8 10 59, om_e 28 (.aload_n 0) 1, om_ef 29 (.getfield 231) 3 7 30 0 81, om_e 32 .iaload 1, om_e 33 (.iload_n 1) 1, om_et 34 (.if_icmp .ne 7) 3 41]
def om_E180_37 : List om_E := [om_ew 37 (.iconst 1) 1 (om_i (1)) 0, om_et 38 (.goto 4) 3 42]
def om_E180_41 : List om_E := [om_ew 41 (.iconst 0) 1 (om_i (0)) 0]
def om_E180_42 : List om_E := [om_e 42 .ireturn 1]
def om_B180 : List om_Bk := [(0, [true, true], om_E180_0, 11), (11, [true, true], om_E180_11, 24), (24, [true, true], om_E180_24, 37), (37, [false, false], om_E180_37, 41), (41, [false, false], om_E180_41, 42), (42, [false, false], om_E180_42, 43)]
def om_E181_0 : List om_E := [om_e 0 (.aload_n 0) 1, om_ef 1 (.getfield 231) 3 7 30 0 81, om_e 4 (.aload_n 0) 1, om_ef 5 (.getfield 223) 3 7 9 0 60, om_et 8 (.if_icmp .ge 36) 3 44]
def om_E181_11 : List om_E := [om_e 11 (.aload_n 0) 1, om_ef 12 (.getfield 28) 3 7 8 10 59, om_e 15 (.aload_n 0) 1, om_ef 16 (.getfield 231) 3 7 30 0 81, om_e 19 .iaload 1, om_ef 20 (.invokestatic 234) 3 0 176 1 152]
def om_E181_23 : List om_E := [om_ew 23 (.iconst 2) 1 (om_i (2)) 0, om_et 24 (.if_icmp .ne 20) 3 44]
def om_E181_27 : List om_E := [om_e 27 (.aload_n 0) 1, om_ef 28 (.getfield 237) 3 7 31 0 82, om_e 31 (.aload_n 0) 1, om_ef 32 (.getfield 231) 3 7 30 0 81, om_e 35 .isub 1, om_ew 36 (.iconst 2) 1 (om_i (2)) 0, om_et 37 (.if_icmp .gt 7) 3 44]
def om_E181_40 : List om_E := [om_ew 40 (.iconst 1) 1 (om_i (1)) 0, om_et 41 (.goto 4) 3 45]
def om_E181_44 : List om_E := [om_ew 44 (.iconst 0) 1 (om_i (0)) 0]
def om_E181_45 : List om_E := [om_e 45 (.istore_n 2) 1, om_e 46 (.aload_n 0) 1, om_ew 47 (.iconst 0) 1 (om_i (0)) 0, om_ef 48 (.putfield 246) 3 7 32 0 83, om_e 51 (.aload_n 0) 1, om_ef 52 (.getfield 231) 3 7 30 0 81, om_e 55 (.istore_n 3) 1]
def om_E181_56 : List om_E := [om_e 56 (.iload_n 2) 1, om_et 57 (.ifCond .eq 38) 3 95]
def om_E181_60 : List om_E := [om_e 60 (.iload_n 3) 1, om_e 61 (.aload_n 0) 1, om_ef 62 (.getfield 237) 3 7 31 0 82, om_et 65 (.if_icmp .ge 30) 3 95]
def om_E181_68 : List om_E := [om_e 68 (.aload_n 0) 1, om_ew 69 (.bipush 10) 2 (om_i (10)) 0, om_e 71 (.aload_n 0) 1, om_ef 72 (.getfield 246) 3 7 32 0 83, om_e 75 .imul 1, om_e 76 (.aload_n 0) 1, om_ef 77 (.getfield 28) 3 7 8 10 59, om_e 80 (.iload_n 3) 1, om_e 81 .iaload 1, om_e 82 .iadd 1, om_ew 83 (.bipush 48) 2 (om_i (48)) 0, om_e 85 .isub 1, om_ef 86 (.putfield 246) 3 7 32 0 83, om_ec 89 (.iinc 3 1) 3 (om_i (1)), om_et 92 (.goto (-36)) 3 56]
def om_E181_95 : List om_E := [om_e 95 (.iload_n 2) 1, om_et 96 (.ifCond .eq 15) 3 111]
def om_E181_99 : List om_E := [om_e 99 (.aload_n 0) 1, om_ef 100 (.getfield 246) 3 7 32 0 83, om_e 103 (.iload_n 1) 1, om_et 104 (.if_icmp .gt 7) 3 111]
def om_E181_107 : List om_E := [om_ew 107 (.iconst 1) 1 (om_i (1)) 0, om_et 108 (.goto 4) 3 112]
def om_E181_111 : List om_E := [om_ew 111 (.iconst 0) 1 (om_i (0)) 0]
def om_E181_112 : List om_E := [om_e 112 .ireturn 1]
def om_B181 : List om_Bk := [(0, [true, true, false, false], om_E181_0, 11), (11, [true, true, false, false], om_E181_11, 23), (23, [true, true, false, false], om_E181_23, 27), (27, [true, true, false, false], om_E181_27, 40), (40, [true, true, false, false], om_E181_40, 44), (44, [true, true, false, false], om_E181_44, 45), (45, [true, true, false, false], om_E181_45, 56), (56, [true, true, true, true], om_E181_56, 60), (60, [true, true, true, true], om_E181_60, 68), (68, [true, true, true, true], om_E181_68, 95), (95, [true, true, true, false], om_E181_95, 99), (99, [true, true, false, false], om_E181_99, 107), (107, [false, false, false, false], om_E181_107, 111), (111, [false, false, false, false], om_E181_111, 112), (112, [false, false, false, false], om_E181_112, 113)]
def om_E182_0 : List om_E := [om_e 0 (.aload_n 0) 1, om_ef 1 (.getfield 31) 3 7 10 11 61, om_e 4 (.aload_n 0) 1, om_ef 5 (.getfield 249) 3 7 14 0 65, om_e 8 (.iload_n 1) 1, om_e 9 .iastore 1, om_e 10 (.aload_n 0) 1, om_ef 11 (.getfield 34) 3 7 11 12 62, om_e 14 (.aload_n 0) 1, om_ef 15 (.getfield 249) 3 7 14 0 65, om_e 18 (.iload_n 2) 1, om_e 19 .iastore 1, om_e 20 (.aload_n 0) 1, om_ef 21 (.getfield 37) 3 7 12 13 63, om_e 24 (.aload_n 0) 1, om_ef 25 (.getfield 249) 3 7 14 0 65, om_e 28 (.iload_n 3) 1, om_e 29 .iastore 1, om_e 30 (.aload_n 0) 1, om_ef 31 (.getfield 40) 3 7 13 14 64, om_e 34 (.aload_n 0) 1, om_ef 35 (.getfield 249) 3 7 14 0 65, om_e 38 (.iload 4) 2, om_e 40 .iastore 1, om_e 41 (.aload_n 0) 1, om_e 42 .dup 1, om_ef 43 (.getfield 249) 3 7 14 0 65, om_ew 46 (.iconst 1) 1 (om_i (1)) 0, om_e 47 .iadd 1, om_ef 48 (.putfield 249) 3 7 14 0 65, om_e 51 .return_ 1]
def om_B182 : List om_Bk := [(0, [true, true, true, true, true], om_E182_0, 52)]
def om_E183_0 : List om_E := [om_e 0 (.aload_n 0) 1, om_e 1 (.aload_n 0) 1, om_ef 2 (.getfield 81) 3 7 2 0 53, om_ew 5 (.iconst 1) 1 (om_i (1)) 0, om_e 6 .isub 1, om_ef 7 (.invokevirtual 252) 3 7 181 2 160]
def om_E183_10 : List om_E := [om_et 10 (.ifCond .ne 5) 3 15]
def om_E183_13 : List om_E := [om_ew 13 (.iconst 0) 1 (om_i (0)) 0, om_e 14 .ireturn 1]
def om_E183_15 : List om_E := [om_e 15 (.aload_n 0) 1, om_ef 16 (.invokevirtual 243) 3 7 177 1 151]
def om_E183_19 : List om_E := [om_ew 19 (.iconst 1) 1 (om_i (1)) 0, om_e 20 .ireturn 1]
def om_B183 : List om_Bk := [(0, [true], om_E183_0, 10), (10, [true], om_E183_10, 13), (13, [false], om_E183_13, 15), (15, [true], om_E183_15, 19), (19, [false], om_E183_19, 21)]
def om_E184_0 : List om_E := [om_e 0 (.aload_n 0) 1, om_ew 1 (.ldc 255) 2 (om_i (441926)) 8, om_ew 3 (.iconst 4) 1 (om_i (4)) 0, om_ef 4 (.invokevirtual 256) 3 7 179 3 154]
def om_E184_7 : List om_E := [om_et 7 (.ifCond .eq 10) 3 17]
def om_E184_10 : List om_E := [om_e 10 (.aload_n 0) 1, om_ef 11 (.invokevirtual 259) 3 7 183 1 159]
def om_E184_14 : List om_E := [om_et 14 (.ifCond .ne 5) 3 19]
def om_E184_17 : List om_E := [om_ew 17 (.iconst 0) 1 (om_i (0)) 0, om_e 18 .ireturn 1]
def om_E184_19 : List om_E := [om_e 19 (.aload_n 0) 1, om_e 20 (.iload_n 1) 1, om_e 21 (.iload_n 2) 1, om_e 22 (.iload_n 3) 1, om_e 23 (.aload_n 0) 1, om_ef 24 (.getfield 246) 3 7 32 0 83, om_ef 27 (.invokevirtual 263) 3 7 182 5 161]
def om_E184_30 : List om_E := [om_ew 30 (.iconst 1) 1 (om_i (1)) 0, om_e 31 .ireturn 1]
def om_B184 : List om_Bk := [(0, [true, true, true, true], om_E184_0, 7), (7, [true, true, true, true], om_E184_7, 10), (10, [true, true, true, true], om_E184_10, 14), (14, [true, true, true, true], om_E184_14, 17), (17, [false, false, false, false], om_E184_17, 19), (19, [true, true, true, true], om_E184_19, 30), (30, [false, false, false, false], om_E184_30, 32)]
def om_E185_0 : List om_E := [om_e 0 (.aload_n 0) 1, om_ew 1 (.ldc_w 267) 3 (om_i (642894310)) 12, om_ew 4 (.bipush 6) 2 (om_i (6)) 0, om_ef 6 (.invokevirtual 240) 3 7 178 3 155]
def om_E185_9 : List om_E := [om_et 9 (.ifCond .eq 7) 3 16]
def om_E185_12 : List om_E := [om_ew 12 (.iconst 0) 1 (om_i (0)) 0, om_et 13 (.goto 34) 3 47]
def om_E185_16 : List om_E := [om_e 16 (.aload_n 0) 1, om_ew 17 (.ldc_w 268) 3 (om_i (20452523)) 13, om_ew 20 (.iconst 5) 1 (om_i (5)) 0, om_ef 21 (.invokevirtual 240) 3 7 178 3 155]
def om_E185_24 : List om_E := [om_et 24 (.ifCond .eq 7) 3 31]
def om_E185_27 : List om_E := [om_ew 27 (.iconst 1) 1 (om_i (1)) 0, om_et 28 (.goto 19) 3 47]
def om_E185_31 : List om_E := [om_e 31 (.aload_n 0) 1, om_ew 32 (.ldc_w 269) 3 (om_i (14976225)) 14, om_ew 35 (.iconst 5) 1 (om_i (5)) 0, om_ef 36 (.invokevirtual 240) 3 7 178 3 155]
def om_E185_39 : List om_E := [om_et 39 (.ifCond .eq 7) 3 46]
def om_E185_42 : List om_E := [om_ew 42 (.iconst 2) 1 (om_i (2)) 0, om_et 43 (.goto 4) 3 47]
def om_E185_46 : List om_E := [om_ew 46 (.iconst (-1)) 1 (om_i (-1)) 0]
def om_E185_47 : List om_E := [om_e 47 (.istore_n 2) 1, om_e 48 (.iload_n 2) 1, om_ew 49 (.iconst (-1)) 1 (om_i (-1)) 0, om_et 50 (.if_icmp .ne 5) 3 55]
def om_E185_53 : List om_E := [om_ew 53 (.iconst 0) 1 (om_i (0)) 0, om_e 54 .ireturn 1]
def om_E185_55 : List om_E := [om_e 55 (.aload_n 0) 1, om_ef 56 (.invokevirtual 243) 3 7 177 1 151]
def om_E185_59 : List om_E := [om_ew 59 (.iconst 0) 1 (om_i (0)) 0, om_e 60 (.istore_n 3) 1, om_e 61 (.aload_n 0) 1, om_ef 62 (.invokevirtual 259) 3 7 183 1 159]
def om_E185_65 : List om_E := [om_e 65 (.istore 4) 2]
def om_E185_67 : List om_E := [om_e 67 (.iload 4) 2, om_et 69 (.ifCond .eq 21) 3 90]
def om_E185_72 : List om_E := [om_e 72 (.iload_n 3) 1, om_ew 73 (.iconst 1) 1 (om_i (1)) 0, om_e 74 (.aload_n 0) 1, om_ef 75 (.getfield 246) 3 7 32 0 83, om_e 78 .ishl 1, om_e 79 .ior 1, om_e 80 (.istore_n 3) 1, om_e 81 (.aload_n 0) 1, om_ef 82 (.invokevirtual 259) 3 7 183 1 159]
def om_E185_85 : List om_E := [om_e 85 (.istore 4) 2, om_et 87 (.goto (-20)) 3 67]
def om_E185_90 : List om_E := [om_e 90 (.iload_n 3) 1, om_et 91 (.ifCond .eq 17) 3 108]
def om_E185_94 : List om_E := [om_e 94 (.aload_n 0) 1, om_e 95 (.iload_n 2) 1, om_e 96 (.iload_n 1) 1, om_e 97 (.iload_n 3) 1, om_ef 98 (.invokevirtual 270) 3 7 184 4 158]
def om_E185_101 : List om_E := [om_et 101 (.ifCond .eq 7) 3 108]
def om_E185_104 : List om_E := [om_ew 104 (.iconst 1) 1 (om_i (1)) 0, om_et 105 (.goto 4) 3 109]
def om_E185_108 : List om_E := [om_ew 108 (.iconst 0) 1 (om_i (0)) 0]
def om_E185_109 : List om_E := [om_e 109 .ireturn 1]
def om_B185 : List om_Bk := [(0, [true, true, false, false, false], om_E185_0, 9), (9, [true, true, false, false, false], om_E185_9, 12), (12, [true, true, false, false, false], om_E185_12, 16), (16, [true, true, false, false, false], om_E185_16, 24), (24, [true, true, false, false, false], om_E185_24, 27), (27, [true, true, false, false, false], om_E185_27, 31), (31, [true, true, false, false, false], om_E185_31, 39), (39, [true, true, false, false, false], om_E185_39, 42), (42, [true, true, false, false, false], om_E185_42, 46), (46, [true, true, false, false, false], om_E185_46, 47), (47, [true, true, false, false, false], om_E185_47, 53), (53, [false, false, false, false, false], om_E185_53, 55), (55, [true, true, true, false, false], om_E185_55, 59), (59, [true, true, true, false, false], om_E185_59, 65), (65, [true, true, true, true, false], om_E185_65, 67), (67, [true, true, true, true, true], om_E185_67, 72), (72, [true, true, true, true, false], om_E185_72, 85), (85, [true, true, true, true, false], om_E185_85, 90), (90, [true, true, true, true, false], om_E185_90, 94), (94, [true, true, true, true, false], om_E185_94, 101), (101, [false, false, false, false, false], om_E185_101, 104), (104, [false, false, false, false, false], om_E185_104, 108), (108, [false, false, false, false, false], om_E185_108, 109), (109, [false, false, false, false, false], om_E185_109, 110)]
def om_E186_0 : List om_E := [om_e 0 (.aload_n 0) 1, om_ef 1 (.invokevirtual 259) 3 7 183 1 159]
def om_E186_4 : List om_E := [om_et 4 (.ifCond .ne 5) 3 9]
def om_E186_7 : List om_E := [om_ew 7 (.iconst 0) 1 (om_i (0)) 0, om_e 8 .ireturn 1]
def om_E186_9 : List om_E := [om_e 9 (.aload_n 0) 1, om_ef 10 (.getfield 246) 3 7 32 0 83, om_e 13 (.istore_n 1) 1, om_e 14 (.aload_n 0) 1, om_ew 15 (.ldc_w 273) 3 (om_i (5979201)) 10, om_ew 18 (.iconst 5) 1 (om_i (5)) 0, om_ef 19 (.invokevirtual 240) 3 7 178 3 155]
def om_E186_22 : List om_E := [om_e 22 (.istore_n 2) 1, om_e 23 (.iload_n 2) 1, om_et 24 (.ifCond .ne 16) 3 40]
def om_E186_27 : List om_E := [om_e 27 (.aload_n 0) 1, om_ew 28 (.ldc_w 274) 3 (om_i (24621218)) 11, om_ew 31 (.iconst 5) 1 (om_i (5)) 0, om_ef 32 (.invokevirtual 240) 3 7 178 3 155]
def om_E186_35 : List om_E := [om_et 35 (.ifCond .ne 5) 3 40]
def om_E186_38 : List om_E := [om_ew 38 (.iconst 0) 1 (om_i (0)) 0, om_e 39 .ireturn 1]
def om_E186_40 : List om_E := [om_e 40 (.aload_n 0) 1, om_ef 41 (.invokevirtual 243) 3 7 177 1 151]
def om_E186_44 : List om_E := [om_e 44 (.aload_n 0) 1, om_ew 45 (.bipush 99) 2 (om_i (99)) 0, om_ef 47 (.invokevirtual 252) 3 7 181 2 160]
def om_E186_50 : List om_E := [om_et 50 (.ifCond .ne 5) 3 55]
def om_E186_53 : List om_E := [om_ew 53 (.iconst 0) 1 (om_i (0)) 0, om_e 54 .ireturn 1]
def om_E186_55 : List om_E := [om_e 55 (.aload_n 0) 1, om_e 56 (.iload_n 2) 1, om_et 57 (.ifCond .eq 7) 3 64]
def om_E186_60 : List om_E := [om_ew 60 (.iconst 4) 1 (om_i (4)) 0, om_et 61 (.goto 4) 3 65]
def om_E186_64 : List om_E := [om_ew 64 (.iconst 5) 1 (om_i (5)) 0]
def om_E186_65 : List om_E := [om_ew 65 (.iconst 0) 1 (om_i (0)) 0, om_e 66 (.aload_n 0) 1, om_ef 67 (.getfield 246) 3 7 32 0 83, om_e 70 (.iload_n 1) 1, om_ef 71 (.invokevirtual 263) 3 7 182 5 161]
def om_E186_74 : List om_E := [om_e 74 (.aload_n 0) 1, om_ef 75 (.invokevirtual 243) 3 7 177 1 151]
def om_E186_78 : List om_E := [om_ew 78 (.iconst 1) 1 (om_i (1)) 0, om_e 79 .ireturn 1]
def om_B186 : List om_Bk := [(0, [true, false, false], om_E186_0, 4), (4, [true, false, false], om_E186_4, 7), (7, [false, false, false], om_E186_7, 9), (9, [true, false, false], om_E186_9, 22), (22, [true, true, false], om_E186_22, 27), (27, [true, true, true], om_E186_27, 35), (35, [true, true, true], om_E186_35, 38), (38, [false, false, false], om_E186_38, 40), (40, [true, true, true], om_E186_40, 44), (44, [true, true, true], om_E186_44, 50), (50, [true, true, true], om_E186_50, 53), (53, [false, false, false], om_E186_53, 55), (55, [true, true, true], om_E186_55, 60), (60, [true, true, false], om_E186_60, 64), (64, [true, true, false], om_E186_64, 65), (65, [true, true, false], om_E186_65, 74), (74, [true, false, false], om_E186_74, 78), (78, [false, false, false], om_E186_78, 80)]
def om_E187_0 : List om_E := [om_e 0 (.aload_n 0) 1, om_ew 1 (.ldc_w 275) 3 (om_i (464581)) 7, om_ew 4 (.iconst 4) 1 (om_i (4)) 0, om_ef 5 (.invokevirtual 256) 3 7 179 3 154]
def om_E187_8 : List om_E := [om_et 8 (.ifCond .eq 11) 3 19]
def om_E187_11 : List om_E := [om_e 11 (.aload_n 0) 1, om_ew 12 (.iconst 3) 1 (om_i (3)) 0, om_ew 13 (.iconst 0) 1 (om_i (0)) 0, om_ew 14 (.iconst 0) 1 (om_i (0)) 0, om_ef 15 (.invokevirtual 270) 3 7 184 4 158]
def om_E187_18 : List om_E := [om_e 18 .ireturn 1]
def om_E187_19 : List om_E := [om_e 19 (.aload_n 0) 1, om_ew 20 (.ldc_w 276) 3 (om_i (459949)) 9, om_ew 23 (.iconst 4) 1 (om_i (4)) 0, om_ef 24 (.invokevirtual 256) 3 7 179 3 154]
def om_E187_27 : List om_E := [om_et 27 (.ifCond .eq 8) 3 35]
def om_E187_30 : List om_E := [om_e 30 (.aload_n 0) 1, om_ef 31 (.invokevirtual 277) 3 7 186 1 162]
def om_E187_34 : List om_E := [om_e 34 .ireturn 1]
def om_E187_35 : List om_E := [om_e 35 (.aload_n 0) 1, om_ew 36 (.sipush 5583) 3 (om_i (5583)) 0, om_ew 39 (.iconst 3) 1 (om_i (3)) 0, om_ef 40 (.invokevirtual 256) 3 7 179 3 154]
def om_E187_43 : List om_E := [om_et 43 (.ifCond .eq 9) 3 52]
def om_E187_46 : List om_E := [om_e 46 (.aload_n 0) 1, om_ew 47 (.iconst 0) 1 (om_i (0)) 0, om_ef 48 (.invokevirtual 280) 3 7 185 2 163]
def om_E187_51 : List om_E := [om_e 51 .ireturn 1]
def om_E187_52 : List om_E := [om_e 52 (.aload_n 0) 1, om_ew 53 (.ldc_w 283) 3 (om_i (19047055)) 15, om_ew 56 (.iconst 5) 1 (om_i (5)) 0, om_ef 57 (.invokevirtual 256) 3 7 179 3 154]
def om_E187_60 : List om_E := [om_et 60 (.ifCond .eq 15) 3 75]
def om_E187_63 : List om_E := [om_e 63 (.aload_n 0) 1, om_ew 64 (.iconst 1) 1 (om_i (1)) 0, om_ef 65 (.invokevirtual 280) 3 7 185 2 163]
def om_E187_68 : List om_E := [om_et 68 (.ifCond .eq 7) 3 75]
def om_E187_71 : List om_E := [om_ew 71 (.iconst 1) 1 (om_i (1)) 0, om_et 72 (.goto 4) 3 76]
def om_E187_75 : List om_E := [om_ew 75 (.iconst 0) 1 (om_i (0)) 0]
def om_E187_76 : List om_E := [om_e 76 .ireturn 1]
def om_B187 : List om_Bk := [(0, [true], om_E187_0, 8), (8, [true], om_E187_8, 11), (11, [true], om_E187_11, 18), (18, [false], om_E187_18, 19), (19, [true], om_E187_19, 27), (27, [true], om_E187_27, 30), (30, [true], om_E187_30, 34), (34, [false], om_E187_34, 35), (35, [true], om_E187_35, 43), (43, [true], om_E187_43, 46), (46, [true], om_E187_46, 51), (51, [false], om_E187_51, 52), (52, [true], om_E187_52, 60), (60, [true], om_E187_60, 63), (63, [true], om_E187_63, 68), (68, [false], om_E187_68, 71), (71, [false], om_E187_71, 75), (75, [false], om_E187_75, 76), (76, [false], om_E187_76, 77)]
def om_E188_0 : List om_E := [om_e 0 (.aload_n 0) 1, om_ef 1 (.getfield 284) 3 7 34 0 85, om_et 4 (.ifCond .le 63) 3 67]
def om_E188_7 : List om_E := [om_e 7 (.aload_n 0) 1, om_ef 8 (.getfield 74) 3 7 33 24 84, om_e 11 (.aload_n 0) 1, om_ef 12 (.getfield 284) 3 7 34 0 85, om_ew 15 (.iconst 1) 1 (om_i (1)) 0, om_e 16 .isub 1, om_e 17 .iaload 1, om_ew 18 (.bipush 9) 2 (om_i (9)) 0, om_et 20 (.if_icmp .eq 47) 3 67]
def om_E188_23 : List om_E := [om_e 23 (.aload_n 0) 1, om_ef 24 (.getfield 74) 3 7 33 24 84, om_e 27 (.aload_n 0) 1, om_ef 28 (.getfield 284) 3 7 34 0 85, om_ew 31 (.iconst 1) 1 (om_i (1)) 0, om_e 32 .isub 1, om_e 33 .iaload 1, om_e 34 (.iload_n 1) 1, om_et 35 (.if_icmp .gt 32) 3 67]
def om_E188_38 : List om_E := [om_e 38 (.aload_n 0) 1, om_e 39 .dup 1, om_ef 40 (.getfield 284) 3 7 34 0 85, om_ew 43 (.iconst 1) 1 (om_i (1)) 0, om_e 44 .isub 1, om_ef 45 (.putfield 284) 3 7 34 0 85, om_e 48 (.aload_n 0) 1, om_e 49 (.aload_n 0) 1, om_ef 50 (.getfield 74) 3 7 33 24 84, om_e 53 (.aload_n 0) 1, om_ef 54 (.getfield 284) 3 7 34 0 85, om_e 57 .iaload 1, om_ew 58 (.iconst 0) 1 (om_i (0)) 0, om_ew 59 (.iconst 0) 1 (om_i (0)) 0, om_ew 60 (.iconst 0) 1 (om_i (0)) 0, om_ef 61 (.invokevirtual 263) 3 7 182 5 161]
def om_E188_64 : List om_E := [om_et 64 (.goto (-64)) 3 0]
def om_E188_67 : List om_E := [om_e 67 .return_ 1]
def om_B188 : List om_Bk := [(0, [true, true], om_E188_0, 7), (7, [true, true], om_E188_7, 23), (23, [true, true], om_E188_23, 38), (38, [true, true], om_E188_38, 64), (64, [true, true], om_E188_64, 67), (67, [false, false], om_E188_67, 68)]
def om_E189_0 : List om_E := [om_ew 0 (.iconst 1) 1 (om_i (1)) 0, om_e 1 (.istore_n 1) 1]
def om_E189_2 : List om_E := [om_e 2 (.iload_n 1) 1, om_et 3 (.ifCond .eq 91) 3 94]
def om_E189_6 : List om_E := [om_ew 6 (.iconst 0) 1 (om_i (0)) 0, om_e 7 (.istore_n 1) 1, om_e 8 (.aload_n 0) 1, om_ew 9 (.sipush 20974) 3 (om_i (20974)) 0, om_ew 12 (.iconst 3) 1 (om_i (3)) 0, om_ef 13 (.invokevirtual 256) 3 7 179 3 154]
def om_E189_16 : List om_E := [om_et 16 (.ifCond .eq 29) 3 45]
def om_E189_19 : List om_E := [om_e 19 (.aload_n 0) 1, om_ef 20 (.getfield 74) 3 7 33 24 84, om_e 23 (.aload_n 0) 1, om_ef 24 (.getfield 284) 3 7 34 0 85, om_ew 27 (.bipush 6) 2 (om_i (6)) 0, om_e 29 .iastore 1, om_e 30 (.aload_n 0) 1, om_e 31 .dup 1, om_ef 32 (.getfield 284) 3 7 34 0 85, om_ew 35 (.iconst 1) 1 (om_i (1)) 0, om_e 36 .iadd 1, om_ef 37 (.putfield 284) 3 7 34 0 85, om_ew 40 (.iconst 1) 1 (om_i (1)) 0, om_e 41 (.istore_n 1) 1, om_et 42 (.goto (-40)) 3 2]
def om_E189_45 : List om_E := [om_e 45 (.aload_n 0) 1, om_ew 46 (.bipush 40) 2 (om_i (40)) 0, om_ef 48 (.invokevirtual 287) 3 7 180 2 156]
def om_E189_51 : List om_E := [om_et 51 (.ifCond .eq (-49)) 3 2]
def om_E189_54 : List om_E := [om_e 54 (.aload_n 0) 1, om_ef 55 (.getfield 74) 3 7 33 24 84, om_e 58 (.aload_n 0) 1, om_ef 59 (.getfield 284) 3 7 34 0 85, om_ew 62 (.bipush 9) 2 (om_i (9)) 0, om_e 64 .iastore 1, om_e 65 (.aload_n 0) 1, om_e 66 .dup 1, om_ef 67 (.getfield 284) 3 7 34 0 85, om_ew 70 (.iconst 1) 1 (om_i (1)) 0, om_e 71 .iadd 1, om_ef 72 (.putfield 284) 3 7 34 0 85, om_e 75 (.aload_n 0) 1, om_e 76 .dup 1, om_ef 77 (.getfield 290) 3 7 35 0 86, om_ew 80 (.iconst 1) 1 (om_i (1)) 0, om_e 81 .iadd 1, om_ef 82 (.putfield 290) 3 7 35 0 86, om_e 85 (.aload_n 0) 1, om_ef 86 (.invokevirtual 243) 3 7 177 1 151]
def om_E189_89 : List om_E := [om_ew 89 (.iconst 1) 1 (om_i (1)) 0, om_e 90 (.istore_n 1) 1, om_et 91 (.goto (-89)) 3 2]
def om_E189_94 : List om_E := [om_e 94 (.aload_n 0) 1, om_ef 95 (.invokevirtual 293) 3 7 187 1 157]
def om_E189_98 : List om_E := [om_e 98 .ireturn 1]
def om_B189 : List om_Bk := [(0, [true, false], om_E189_0, 2), (2, [true, true], om_E189_2, 6), (6, [true, false], om_E189_6, 16), (16, [true, true], om_E189_16, 19), (19, [true, false], om_E189_19, 45), (45, [true, true], om_E189_45, 51), (51, [true, true], om_E189_51, 54), (54, [true, false], om_E189_54, 89), (89, [true, false], om_E189_89, 94), (94, [true, false], om_E189_94, 98), (98, [false, false], om_E189_98, 99)]
def om_E190_0 : List om_E := [om_e 0 (.aload_n 0) 1, om_ew 1 (.bipush 6) 2 (om_i (6)) 0, om_ef 3 (.invokevirtual 296) 3 7 188 2 165]
def om_E190_6 : List om_E := [om_e 6 (.aload_n 0) 1, om_ef 7 (.getfield 290) 3 7 35 0 86, om_et 10 (.ifCond .le 51) 3 61]
def om_E190_13 : List om_E := [om_e 13 (.aload_n 0) 1, om_ew 14 (.bipush 41) 2 (om_i (41)) 0, om_ef 16 (.invokevirtual 287) 3 7 180 2 156]
def om_E190_19 : List om_E := [om_et 19 (.ifCond .eq 42) 3 61]
def om_E190_22 : List om_E := [om_e 22 (.aload_n 0) 1, om_ew 23 (.bipush 8) 2 (om_i (8)) 0, om_ef 25 (.invokevirtual 296) 3 7 188 2 165]
def om_E190_28 : List om_E := [om_e 28 (.aload_n 0) 1, om_e 29 .dup 1, om_ef 30 (.getfield 284) 3 7 34 0 85, om_ew 33 (.iconst 1) 1 (om_i (1)) 0, om_e 34 .isub 1, om_ef 35 (.putfield 284) 3 7 34 0 85, om_e 38 (.aload_n 0) 1, om_e 39 .dup 1, om_ef 40 (.getfield 290) 3 7 35 0 86, om_ew 43 (.iconst 1) 1 (om_i (1)) 0, om_e 44 .isub 1, om_ef 45 (.putfield 290) 3 7 35 0 86, om_e 48 (.aload_n 0) 1, om_ef 49 (.invokevirtual 243) 3 7 177 1 151]
def om_E190_52 : List om_E := [om_e 52 (.aload_n 0) 1, om_ew 53 (.bipush 6) 2 (om_i (6)) 0, om_ef 55 (.invokevirtual 296) 3 7 188 2 165]
def om_E190_58 : List om_E := [om_et 58 (.goto (-52)) 3 6]
def om_E190_61 : List om_E := [om_e 61 .return_ 1]
def om_B190 : List om_Bk := [(0, [true], om_E190_0, 6), (6, [true], om_E190_6, 13), (13, [true], om_E190_13, 19), (19, [true], om_E190_19, 22), (22, [true], om_E190_22, 28), (28, [true], om_E190_28, 52), (52, [true], om_E190_52, 58), (58, [true], om_E190_58, 61), (61, [false], om_E190_61, 62)]
def om_E191_0 : List om_E := [om_e 0 (.aload_n 0) 1, om_ew 1 (.iconst 0) 1 (om_i (0)) 0, om_ef 2 (.putfield 228) 3 7 29 0 80, om_e 5 (.aload_n 0) 1, om_ew 6 (.iconst 0) 1 (om_i (0)) 0, om_ef 7 (.putfield 249) 3 7 14 0 65, om_e 10 (.aload_n 0) 1, om_ew 11 (.iconst 0) 1 (om_i (0)) 0, om_ef 12 (.putfield 284) 3 7 34 0 85, om_e 15 (.aload_n 0) 1, om_ew 16 (.iconst 0) 1 (om_i (0)) 0, om_ef 17 (.putfield 290) 3 7 35 0 86, om_e 20 (.aload_n 0) 1, om_ef 21 (.invokevirtual 243) 3 7 177 1 151]
def om_E191_24 : List om_E := [om_ew 24 (.iconst 1) 1 (om_i (1)) 0, om_e 25 (.istore_n 1) 1]
def om_E191_26 : List om_E := [om_e 26 (.iload_n 1) 1, om_et 27 (.ifCond .eq 107) 3 134]
def om_E191_30 : List om_E := [om_e 30 (.aload_n 0) 1, om_ef 31 (.invokevirtual 299) 3 7 189 1 153]
def om_E191_34 : List om_E := [om_et 34 (.ifCond .ne 8) 3 42]
def om_E191_37 : List om_E := [om_e 37 (.aload_n 0) 1, om_ef 38 (.getfield 231) 3 7 30 0 81, om_e 41 .ireturn 1]
def om_E191_42 : List om_E := [om_e 42 (.aload_n 0) 1, om_ef 43 (.invokevirtual 302) 3 7 190 1 164]
def om_E191_46 : List om_E := [om_ew 46 (.iconst 0) 1 (om_i (0)) 0, om_e 47 (.istore_n 1) 1, om_e 48 (.aload_n 0) 1, om_ew 49 (.sipush 4545) 3 (om_i (4545)) 0, om_ew 52 (.iconst 3) 1 (om_i (3)) 0, om_ef 53 (.invokevirtual 256) 3 7 179 3 154]
def om_E191_56 : List om_E := [om_et 56 (.ifCond .eq 35) 3 91]
def om_E191_59 : List om_E := [om_e 59 (.aload_n 0) 1, om_ew 60 (.bipush 7) 2 (om_i (7)) 0, om_ef 62 (.invokevirtual 296) 3 7 188 2 165]
def om_E191_65 : List om_E := [om_e 65 (.aload_n 0) 1, om_ef 66 (.getfield 74) 3 7 33 24 84, om_e 69 (.aload_n 0) 1, om_ef 70 (.getfield 284) 3 7 34 0 85, om_ew 73 (.bipush 7) 2 (om_i (7)) 0, om_e 75 .iastore 1, om_e 76 (.aload_n 0) 1, om_e 77 .dup 1, om_ef 78 (.getfield 284) 3 7 34 0 85, om_ew 81 (.iconst 1) 1 (om_i (1)) 0, om_e 82 .iadd 1, om_ef 83 (.putfield 284) 3 7 34 0 85, om_ew 86 (.iconst 1) 1 (om_i (1)) 0, om_e 87 (.istore_n 1) 1, om_et 88 (.goto (-62)) 3 26]
def om_E191_91 : List om_E := [om_e 91 (.aload_n 0) 1, om_ew 92 (.sipush 591) 3 (om_i (591)) 0, om_ew 95 (.iconst 2) 1 (om_i (2)) 0, om_ef 96 (.invokevirtual 256) 3 7 179 3 154]
def om_E191_99 : List om_E := [om_et 99 (.ifCond .eq (-73)) 3 26]
def om_E191_102 : List om_E := [om_e 102 (.aload_n 0) 1, om_ew 103 (.bipush 8) 2 (om_i (8)) 0, om_ef 105 (.invokevirtual 296) 3 7 188 2 165]
def om_E191_108 : List om_E := [om_e 108 (.aload_n 0) 1, om_ef 109 (.getfield 74) 3 7 33 24 84, om_e 112 (.aload_n 0) 1, om_ef 113 (.getfield 284) 3 7 34 0 85, om_ew 116 (.bipush 8) 2 (om_i (8)) 0, om_e 118 .iastore 1, om_e 119 (.aload_n 0) 1, om_e 120 .dup 1, om_ef 121 (.getfield 284) 3 7 34 0 85, om_ew 124 (.iconst 1) 1 (om_i (1)) 0, om_e 125 .iadd 1, om_ef 126 (.putfield 284) 3 7 34 0 85, om_ew 129 (.iconst 1) 1 (om_i (1)) 0, om_e 130 (.istore_n 1) 1, om_et 131 (.goto (-105)) 3 26]
def om_E191_134 : List om_E := [om_e 134 (.aload_n 0) 1, om_ef 135 (.getfield 231) 3 7 30 0 81, om_e 138 (.aload_n 0) 1, om_ef 139 (.getfield 223) 3 7 9 0 60, om_et 142 (.if_icmp .lt 10) 3 152]
def om_E191_145 : List om_E := [om_e 145 (.aload_n 0) 1, om_ef 146 (.getfield 290) 3 7 35 0 86, om_et 149 (.ifCond .le 8) 3 157]
def om_E191_152 : List om_E := [om_e 152 (.aload_n 0) 1, om_ef 153 (.getfield 231) 3 7 30 0 81, om_e 156 .ireturn 1]
def om_E191_157 : List om_E := [om_e 157 (.aload_n 0) 1, om_ew 158 (.bipush 8) 2 (om_i (8)) 0, om_ef 160 (.invokevirtual 296) 3 7 188 2 165]
def om_E191_163 : List om_E := [om_ew 163 (.iconst (-1)) 1 (om_i (-1)) 0, om_e 164 .ireturn 1]
def om_B191 : List om_Bk := [(0, [true, false], om_E191_0, 24), (24, [true, false], om_E191_24, 26), (26, [true, true], om_E191_26, 30), (30, [true, false], om_E191_30, 34), (34, [true, false], om_E191_34, 37), (37, [true, false], om_E191_37, 42), (42, [true, false], om_E191_42, 46), (46, [true, false], om_E191_46, 56), (56, [true, true], om_E191_56, 59), (59, [true, false], om_E191_59, 65), (65, [true, false], om_E191_65, 91), (91, [true, true], om_E191_91, 99), (99, [true, true], om_E191_99, 102), (102, [true, false], om_E191_102, 108), (108, [true, false], om_E191_108, 134), (134, [true, false], om_E191_134, 145), (145, [true, false], om_E191_145, 152), (152, [true, false], om_E191_152, 157), (157, [true, false], om_E191_157, 163), (163, [false, false], om_E191_163, 165)]
def om_E192_0 : List om_E := [om_e 0 (.aload_n 0) 1, om_ef 1 (.getfield 40) 3 7 13 14 64, om_e 4 (.iload_n 1) 1, om_e 5 .iaload 1, om_e 6 (.istore_n 2) 1, om_e 7 (.aload_n 0) 1, om_ef 8 (.getfield 31) 3 7 10 11 61, om_e 11 (.iload_n 1) 1, om_e 12 .iaload 1, om_e 13 (.istore_n 3) 1, om_e 14 (.iload_n 3) 1, om_ew 15 (.iconst 4) 1 (om_i (4)) 0, om_et 16 (.if_icmp .ge 102) 3 118]
def om_E192_19 : List om_E := [om_e 19 (.iload_n 3) 1, om_et 20 (.ifCond .ne 22) 3 42]
def om_E192_23 : List om_E := [om_e 23 (.aload_n 0) 1, om_e 24 (.aload_n 0) 1, om_ef 25 (.getfield 34) 3 7 11 12 62, om_e 28 (.iload_n 1) 1, om_e 29 .iaload 1, om_e 30 (.aload_n 0) 1, om_ef 31 (.getfield 37) 3 7 12 13 63, om_e 34 (.iload_n 1) 1, om_e 35 .iaload 1, om_ef 36 (.invokevirtual 124) 3 7 137 3 110]
def om_E192_39 : List om_E := [om_et 39 (.goto 61) 3 100]
def om_E192_42 : List om_E := [om_e 42 (.iload_n 3) 1, om_ew 43 (.iconst 1) 1 (om_i (1)) 0, om_et 44 (.if_icmp .ne 22) 3 66]
def om_E192_47 : List om_E := [om_e 47 (.aload_n 0) 1, om_e 48 (.aload_n 0) 1, om_ef 49 (.getfield 34) 3 7 11 12 62, om_e 52 (.iload_n 1) 1, om_e 53 .iaload 1, om_e 54 (.aload_n 0) 1, om_ef 55 (.getfield 37) 3 7 12 13 63, om_e 58 (.iload_n 1) 1, om_e 59 .iaload 1, om_ef 60 (.invokevirtual 127) 3 7 140 3 114]
def om_E192_63 : List om_E := [om_et 63 (.goto 37) 3 100]
def om_E192_66 : List om_E := [om_e 66 (.iload_n 3) 1, om_ew 67 (.iconst 2) 1 (om_i (2)) 0, om_et 68 (.if_icmp .ne 28) 3 96]
def om_E192_71 : List om_E := [om_e 71 (.aload_n 0) 1, om_e 72 (.aload_n 0) 1, om_ef 73 (.getfield 34) 3 7 11 12 62, om_e 76 (.iload_n 1) 1, om_e 77 .iaload 1, om_e 78 (.aload_n 0) 1, om_ef 79 (.getfield 37) 3 7 12 13 63, om_e 82 (.iload_n 1) 1, om_e 83 .iaload 1, om_e 84 (.aload_n 0) 1, om_ef 85 (.getfield 37) 3 7 12 13 63, om_e 88 (.iload_n 1) 1, om_e 89 .iaload 1, om_ef 90 (.invokevirtual 130) 3 7 142 4 116]
def om_E192_93 : List om_E := [om_et 93 (.goto 7) 3 100]
def om_E192_96 : List om_E := [om_e 96 (.aload_n 0) 1, om_ef 97 (.invokevirtual 145) 3 7 148 1 119]
def om_E192_100 : List om_E := [om_e 100 (.istore 4) 2, om_e 102 (.iload 4) 2, om_e 104 (.iload_n 2) 1, om_e 105 .ishr 1, om_ew 106 (.iconst 1) 1 (om_i (1)) 0, om_e 107 .iand 1, om_ew 108 (.iconst 1) 1 (om_i (1)) 0, om_et 109 (.if_icmp .ne 7) 3 116]
def om_E192_112 : List om_E := [om_ew 112 (.iconst 1) 1 (om_i (1)) 0, om_et 113 (.goto 4) 3 117]
def om_E192_116 : List om_E := [om_ew 116 (.iconst 0) 1 (om_i (0)) 0]
def om_E192_117 : List om_E := [om_e 117 .ireturn 1]
def om_E192_118 : List om_E := [om_e 118 (.aload_n 0) 1, om_e 119 (.aload_n 0) 1, om_ef 120 (.getfield 59) 3 7 21 19 72, om_e 123 (.iload_n 2) 1, om_e 124 .iaload 1, om_ef 125 (.invokevirtual 185) 3 7 157 2 132]
def om_E192_128 : List om_E := [om_e 128 (.iload_n 3) 1, om_ew 129 (.iconst 4) 1 (om_i (4)) 0, om_et 130 (.if_icmp .ne 29) 3 159]
def om_E192_133 : List om_E := [om_e 133 (.aload_n 0) 1, om_ef 134 (.getfield 180) 3 7 23 0 74, om_e 137 (.aload_n 0) 1, om_ef 138 (.getfield 37) 3 7 12 13 63, om_e 141 (.iload_n 1) 1, om_e 142 .iaload 1, om_e 143 (.aload_n 0) 1, om_ef 144 (.getfield 171) 3 7 24 0 75, om_e 147 .imul 1, om_et 148 (.if_icmp .le 7) 3 155]
def om_E192_151 : List om_E := [om_ew 151 (.iconst 1) 1 (om_i (1)) 0, om_et 152 (.goto 30) 3 182]
def om_E192_155 : List om_E := [om_ew 155 (.iconst 0) 1 (om_i (0)) 0, om_et 156 (.goto 26) 3 182]
def om_E192_159 : List om_E := [om_e 159 (.aload_n 0) 1, om_ef 160 (.getfield 180) 3 7 23 0 74, om_e 163 (.aload_n 0) 1, om_ef 164 (.getfield 37) 3 7 12 13 63, om_e 167 (.iload_n 1) 1, om_e 168 .iaload 1, om_e 169 (.aload_n 0) 1, om_ef 170 (.getfield 171) 3 7 24 0 75, om_e 173 .imul 1, om_et 174 (.if_icmp .ge 7) 3 181]
def om_E192_177 : List om_E := [om_ew 177 (.iconst 1) 1 (om_i (1)) 0, om_et 178 (.goto 4) 3 182]
def om_E192_181 : List om_E := [om_ew 181 (.iconst 0) 1 (om_i (0)) 0]
def om_E192_182 : List om_E := [om_e 182 .ireturn 1]
def om_B192 : List om_Bk := [(0, [true, true, false, false, false], om_E192_0, 19), (19, [true, true, true, true, false], om_E192_19, 23), (23, [true, true, true, false, false], om_E192_23, 39), (39, [false, false, true, false, false], om_E192_39, 42), (42, [true, true, true, true, false], om_E192_42, 47), (47, [true, true, true, false, false], om_E192_47, 63), (63, [false, false, true, false, false], om_E192_63, 66), (66, [true, true, true, true, false], om_E192_66, 71), (71, [true, true, true, false, false], om_E192_71, 93), (93, [false, false, true, false, false], om_E192_93, 96), (96, [true, false, true, false, false], om_E192_96, 100), (100, [false, false, true, false, false], om_E192_100, 112), (112, [false, false, false, false, false], om_E192_112, 116), (116, [false, false, false, false, false], om_E192_116, 117), (117, [false, false, false, false, false], om_E192_117, 118), (118, [true, true, true, true, false], om_E192_118, 128), (128, [true, true, false, true, false], om_E192_128, 133), (133, [true, true, false, false, false], om_E192_133, 151), (151, [false, false, false, false, false], om_E192_151, 155), (155, [false, false, false, false, false], om_E192_155, 159), (159, [true, true, false, false, false], om_E192_159, 177), (177, [false, false, false, false, false], om_E192_177, 181), (181, [false, false, false, false, false], om_E192_181, 182), (182, [false, false, false, false, false], om_E192_182, 183)]
def om_E193_0 : List om_E := [om_e 0 (.aload_n 0) 1, om_ef 1 (.invokevirtual 121) 3 7 134 1 108]
def om_E193_4 : List om_E := [om_ew 4 (.iconst 0) 1 (om_i (0)) 0, om_e 5 (.istore_n 1) 1, om_ew 6 (.bipush 120) 2 (om_i (120)) 0, om_e 8 (.istore_n 2) 1]
def om_E193_9 : List om_E := [om_e 9 (.iload_n 2) 1, om_ew 10 (.bipush 120) 2 (om_i (120)) 0, om_e 12 (.aload_n 0) 1, om_ef 13 (.getfield 308) 3 7 15 0 66, om_e 16 .iadd 1, om_et 17 (.if_icmp .ge 39) 3 56]
def om_E193_20 : List om_E := [om_e 20 (.iload_n 1) 1, om_et 21 (.ifCond .ne 23) 3 44]
def om_E193_24 : List om_E := [om_e 24 (.aload_n 0) 1, om_ef 25 (.getfield 31) 3 7 10 11 61, om_e 28 (.iload_n 2) 1, om_e 29 .iaload 1, om_ew 30 (.iconst 4) 1 (om_i (4)) 0, om_et 31 (.if_icmp .eq 13) 3 44]
def om_E193_34 : List om_E := [om_e 34 (.aload_n 0) 1, om_ef 35 (.getfield 31) 3 7 10 11 61, om_e 38 (.iload_n 2) 1, om_e 39 .iaload 1, om_ew 40 (.iconst 5) 1 (om_i (5)) 0, om_et 41 (.if_icmp .ne 7) 3 48]
def om_E193_44 : List om_E := [om_ew 44 (.iconst 1) 1 (om_i (1)) 0, om_et 45 (.goto 4) 3 49]
def om_E193_48 : List om_E := [om_ew 48 (.iconst 0) 1 (om_i (0)) 0]
def om_E193_49 : List om_E := [om_e 49 (.istore_n 1) 1, om_ec 50 (.iinc 2 1) 3 (om_i (1)), om_et 53 (.goto (-44)) 3 9]
def om_E193_56 : List om_E := [om_e 56 (.aload_n 0) 1, om_ew 57 (.iconst 0) 1 (om_i (0)) 0, om_ew 58 (.iconst (-1)) 1 (om_i (-1)) 0, om_e 59 (.iload_n 1) 1, om_et 60 (.ifCond .eq 9) 3 69]
def om_E193_63 : List om_E := [om_ew 63 (.sipush 9000) 3 (om_i (9000)) 0, om_et 66 (.goto 4) 3 70]
def om_E193_69 : List om_E := [om_ew 69 (.iconst 0) 1 (om_i (0)) 0]
def om_E193_70 : List om_E := [om_ef 70 (.invokevirtual 167) 3 7 155 4 128]
def om_E193_73 : List om_E := [om_ew 73 (.iconst 0) 1 (om_i (0)) 0, om_e 74 (.istore_n 2) 1, om_ew 75 (.bipush 120) 2 (om_i (120)) 0, om_e 77 (.istore_n 3) 1]
def om_E193_78 : List om_E := [om_e 78 (.iload_n 3) 1, om_ew 79 (.bipush 120) 2 (om_i (120)) 0, om_e 81 (.aload_n 0) 1, om_ef 82 (.getfield 308) 3 7 15 0 66, om_e 85 .iadd 1, om_et 86 (.if_icmp .ge 150) 3 236]
def om_E193_89 : List om_E := [om_e 89 (.aload_n 0) 1, om_ef 90 (.getfield 31) 3 7 10 11 61, om_e 93 (.iload_n 3) 1, om_e 94 .iaload 1, om_ew 95 (.bipush 6) 2 (om_i (6)) 0, om_et 97 (.if_icmp .ge 20) 3 117]
def om_E193_100 : List om_E := [om_e 100 (.aload_n 0) 1, om_ef 101 (.getfield 77) 3 7 36 25 87, om_e 104 (.iload_n 2) 1, om_e 105 (.aload_n 0) 1, om_e 106 (.iload_n 3) 1, om_ef 107 (.invokevirtual 314) 3 7 192 2 169]
def om_E193_110 : List om_E := [om_e 110 .bastore 1, om_ec 111 (.iinc 2 1) 3 (om_i (1)), om_et 114 (.goto 116) 3 230]
def om_E193_117 : List om_E := [om_e 117 (.aload_n 0) 1, om_ef 118 (.getfield 31) 3 7 10 11 61, om_e 121 (.iload_n 3) 1, om_e 122 .iaload 1, om_ew 123 (.bipush 6) 2 (om_i (6)) 0, om_et 125 (.if_icmp .ne 30) 3 155]
def om_E193_128 : List om_E := [om_e 128 (.aload_n 0) 1, om_ef 129 (.getfield 77) 3 7 36 25 87, om_e 132 (.iload_n 2) 1, om_ew 133 (.iconst 1) 1 (om_i (1)) 0, om_e 134 .isub 1, om_e 135 (.aload_n 0) 1, om_ef 136 (.getfield 77) 3 7 36 25 87, om_e 139 (.iload_n 2) 1, om_ew 140 (.iconst 1) 1 (om_i (1)) 0, om_e 141 .isub 1, om_e 142 .baload 1, om_et 143 (.ifCond .ne 7) 3 150]
def om_E193_146 : List om_E := [om_ew 146 (.iconst 1) 1 (om_i (1)) 0, om_et 147 (.goto 4) 3 151]
def om_E193_150 : List om_E := [om_ew 150 (.iconst 0) 1 (om_i (0)) 0]
def om_E193_151 : List om_E := [om_e 151 .bastore 1, om_et 152 (.goto 78) 3 230]
def om_E193_155 : List om_E := [om_ec 155 (.iinc 2 (-1)) 3 (om_i (-1)), om_e 158 (.aload_n 0) 1, om_ef 159 (.getfield 77) 3 7 36 25 87, om_e 162 (.iload_n 2) 1, om_ew 163 (.iconst 1) 1 (om_i (1)) 0, om_e 164 .isub 1, om_e 165 (.aload_n 0) 1, om_ef 166 (.getfield 31) 3 7 10 11 61, om_e 169 (.iload_n 3) 1, om_e 170 .iaload 1, om_ew 171 (.bipush 7) 2 (om_i (7)) 0, om_et 173 (.if_icmp .ne 31) 3 204]
def om_E193_176 : List om_E := [om_e 176 (.aload_n 0) 1, om_ef 177 (.getfield 77) 3 7 36 25 87, om_e 180 (.iload_n 2) 1, om_ew 181 (.iconst 1) 1 (om_i (1)) 0, om_e 182 .isub 1, om_e 183 .baload 1, om_et 184 (.ifCond .eq 16) 3 200]
def om_E193_187 : List om_E := [om_e 187 (.aload_n 0) 1, om_ef 188 (.getfield 77) 3 7 36 25 87, om_e 191 (.iload_n 2) 1, om_e 192 .baload 1, om_et 193 (.ifCond .eq 7) 3 200]
def om_E193_196 : List om_E := [om_ew 196 (.iconst 1) 1 (om_i (1)) 0, om_et 197 (.goto 32) 3 229]
def om_E193_200 : List om_E := [om_ew 200 (.iconst 0) 1 (om_i (0)) 0, om_et 201 (.goto 28) 3 229]
def om_E193_204 : List om_E := [om_e 204 (.aload_n 0) 1, om_ef 205 (.getfield 77) 3 7 36 25 87, om_e 208 (.iload_n 2) 1, om_ew 209 (.iconst 1) 1 (om_i (1)) 0, om_e 210 .isub 1, om_e 211 .baload 1, om_et 212 (.ifCond .ne 12) 3 224]
def om_E193_215 : List om_E := [om_e 215 (.aload_n 0) 1, om_ef 216 (.getfield 77) 3 7 36 25 87, om_e 219 (.iload_n 2) 1, om_e 220 .baload 1, om_et 221 (.ifCond .eq 7) 3 228]
def om_E193_224 : List om_E := [om_ew 224 (.iconst 1) 1 (om_i (1)) 0, om_et 225 (.goto 4) 3 229]
def om_E193_228 : List om_E := [om_ew 228 (.iconst 0) 1 (om_i (0)) 0]
def om_E193_229 : List om_E := [om_e 229 .bastore 1]
def om_E193_230 : List om_E := [om_ec 230 (.iinc 3 1) 3 (om_i (1)), om_et 233 (.goto (-155)) 3 78]
def om_E193_236 : List om_E := [om_e 236 (.aload_n 0) 1, om_ef 237 (.getfield 77) 3 7 36 25 87, om_ew 240 (.iconst 0) 1 (om_i (0)) 0, om_e 241 .baload 1, om_e 242 .ireturn 1]
def om_B193 : List om_Bk := [(0, [true, false, false, false], om_E193_0, 4), (4, [true, false, false, false], om_E193_4, 9), (9, [true, true, true, false], om_E193_9, 20), (20, [true, true, true, false], om_E193_20, 24), (24, [true, false, true, false], om_E193_24, 34), (34, [true, false, true, false], om_E193_34, 44), (44, [true, false, true, false], om_E193_44, 48), (48, [true, false, true, false], om_E193_48, 49), (49, [true, false, true, false], om_E193_49, 56), (56, [true, true, false, false], om_E193_56, 63), (63, [true, false, false, false], om_E193_63, 69), (69, [true, false, false, false], om_E193_69, 70), (70, [true, false, false, false], om_E193_70, 73), (73, [true, false, false, false], om_E193_73, 78), (78, [true, false, true, true], om_E193_78, 89), (89, [true, false, true, true], om_E193_89, 100), (100, [true, false, true, true], om_E193_100, 110), (110, [true, false, true, true], om_E193_110, 117), (117, [true, false, true, true], om_E193_117, 128), (128, [true, false, true, true], om_E193_128, 146), (146, [true, false, true, true], om_E193_146, 150), (150, [true, false, true, true], om_E193_150, 151), (151, [true, false, true, true], om_E193_151, 155), (155, [true, false, true, true], om_E193_155, 176), (176, [true, false, true, true], om_E193_176, 187), (187, [true, false, true, true], om_E193_187, 196), (196, [true, false, true, true], om_E193_196, 200), (200, [true, false, true, true], om_E193_200, 204), (204, [true, false, true, true], om_E193_204, 215), (215, [true, false, true, true], om_E193_215, 224), (224, [true, false, true, true], om_E193_224, 228), (228, [true, false, true, true], om_E193_228, 229), (229, [true, false, true, true], om_E193_229, 230), (230, [true, false, true, true], om_E193_230, 236), (236, [true, false, false, false], om_E193_236, 243)]
def om_E194_0 : List om_E := [om_e 0 (.aload_n 0) 1, om_ef 1 (.invokevirtual 305) 3 7 191 1 167]
def om_E194_4 : List om_E := [om_ew 4 (.iconst (-1)) 1 (om_i (-1)) 0, om_et 5 (.if_icmp .eq 6) 3 11]
def om_E194_8 : List om_E := [om_ew 8 (.bipush (-4)) 2 (om_i (-4)) 0, om_e 10 .ireturn 1]
def om_E194_11 : List om_E := [om_ew 11 (.iconst 0) 1 (om_i (0)) 0, om_e 12 (.istore_n 1) 1]
def om_E194_13 : List om_E := [om_e 13 (.iload_n 1) 1, om_e 14 (.aload_n 0) 1, om_ef 15 (.getfield 249) 3 7 14 0 65, om_et 18 (.if_icmp .ge 69) 3 87]
def om_E194_21 : List om_E := [om_e 21 (.aload_n 0) 1, om_ef 22 (.getfield 31) 3 7 10 11 61, om_ew 25 (.bipush 120) 2 (om_i (120)) 0, om_e 27 (.iload_n 1) 1, om_e 28 .iadd 1, om_e 29 (.aload_n 0) 1, om_ef 30 (.getfield 31) 3 7 10 11 61, om_e 33 (.iload_n 1) 1, om_e 34 .iaload 1, om_e 35 .iastore 1, om_e 36 (.aload_n 0) 1, om_ef 37 (.getfield 34) 3 7 11 12 62, om_ew 40 (.bipush 120) 2 (om_i (120)) 0, om_e 42 (.iload_n 1) 1, om_e 43 .iadd 1, om_e 44 (.aload_n 0) 1, om_ef 45 (.getfield 34) 3 7 11 12 62, om_e 48 (.iload_n 1) 1, om_e 49 .iaload 1, om_e 50 .iastore 1, om_e 51 (.aload_n 0) 1, om_ef 52 (.getfield 37) 3 7 12 13 63, om_ew 55 (.bipush 120) 2 (om_i (120)) 0, om_e 57 (.iload_n 1) 1, om_e 58 .iadd 1, om_e 59 (.aload_n 0) 1, om_ef 60 (.getfield 37) 3 7 12 13 63, om_e 63 (.iload_n 1) 1, om_e 64 .iaload 1, om_e 65 .iastore 1, om_e 66 (.aload_n 0) 1, om_ef 67 (.getfield 40) 3 7 13 14 64, om_ew 70 (.bipush 120) 2 (om_i (120)) 0, om_e 72 (.iload_n 1) 1, om_e 73 .iadd 1, om_e 74 (.aload_n 0) 1, om_ef 75 (.getfield 40) 3 7 13 14 64, om_e 78 (.iload_n 1) 1, om_e 79 .iaload 1, om_e 80 .iastore 1, om_ec 81 (.iinc 1 1) 3 (om_i (1)), om_et 84 (.goto (-71)) 3 13]
def om_E194_87 : List om_E := [om_e 87 (.aload_n 0) 1, om_e 88 (.aload_n 0) 1, om_ef 89 (.getfield 249) 3 7 14 0 65, om_ef 92 (.putfield 308) 3 7 15 0 66, om_e 95 (.aload_n 0) 1, om_ew 96 (.iconst 0) 1 (om_i (0)) 0, om_ef 97 (.putfield 223) 3 7 9 0 60, om_e 100 (.aload_n 0) 1, om_ef 101 (.invokevirtual 311) 3 7 193 1 168]
def om_E194_104 : List om_E := [om_et 104 (.ifCond .eq 7) 3 111]
def om_E194_107 : List om_E := [om_ew 107 (.iconst 1) 1 (om_i (1)) 0, om_et 108 (.goto 4) 3 112]
def om_E194_111 : List om_E := [om_ew 111 (.iconst 0) 1 (om_i (0)) 0]
def om_E194_112 : List om_E := [om_e 112 .ireturn 1]
def om_B194 : List om_Bk := [(0, [true, false], om_E194_0, 4), (4, [true, false], om_E194_4, 8), (8, [false, false], om_E194_8, 11), (11, [true, false], om_E194_11, 13), (13, [true, true], om_E194_13, 21), (21, [true, true], om_E194_21, 87), (87, [true, false], om_E194_87, 104), (104, [false, false], om_E194_104, 107), (107, [false, false], om_E194_107, 111), (111, [false, false], om_E194_111, 112), (112, [false, false], om_E194_112, 113)]
def om_E195_0 : List om_E := [om_e 0 (.aload_n 0) 1, om_ef 1 (.getfield 308) 3 7 15 0 66, om_et 4 (.ifCond .ne 8) 3 12]
def om_E195_7 : List om_E := [om_ew 7 (.bipush (-4)) 2 (om_i (-4)) 0, om_et 9 (.goto 15) 3 24]
def om_E195_12 : List om_E := [om_e 12 (.aload_n 0) 1, om_ef 13 (.invokevirtual 311) 3 7 193 1 168]
def om_E195_16 : List om_E := [om_et 16 (.ifCond .eq 7) 3 23]
def om_E195_19 : List om_E := [om_ew 19 (.iconst 1) 1 (om_i (1)) 0, om_et 20 (.goto 4) 3 24]
def om_E195_23 : List om_E := [om_ew 23 (.iconst 0) 1 (om_i (0)) 0]
def om_E195_24 : List om_E := [om_e 24 .ireturn 1]
def om_B195 : List om_Bk := [(0, [true], om_E195_0, 7), (7, [false], om_E195_7, 12), (12, [true], om_E195_12, 16), (16, [false], om_E195_16, 19), (19, [false], om_E195_19, 23), (23, [false], om_E195_23, 24), (24, [false], om_E195_24, 25)]
def om_E196_0 : List om_E := [om_e 0 (.aload_n 0) 1, om_ef 1 (.getfield 308) 3 7 15 0 66, om_et 4 (.ifCond .ne 6) 3 10]
def om_E196_7 : List om_E := [om_ew 7 (.bipush (-4)) 2 (om_i (-4)) 0, om_e 9 .ireturn 1]
def om_E196_10 : List om_E := [om_e 10 (.aload_n 0) 1, om_ef 11 (.invokevirtual 311) 3 7 193 1 168]
def om_E196_14 : List om_E := [om_e 14 (.istore_n 1) 1, om_ew 15 (.iconst 0) 1 (om_i (0)) 0, om_e 16 (.istore_n 2) 1, om_ew 17 (.iconst 0) 1 (om_i (0)) 0, om_e 18 (.istore_n 3) 1]
def om_E196_19 : List om_E := [om_e 19 (.iload_n 3) 1, om_e 20 (.aload_n 0) 1, om_ef 21 (.getfield 88) 3 7 6 0 57, om_et 24 (.if_icmp .ge 32) 3 56]
def om_E196_27 : List om_E := [om_e 27 (.aload_n 0) 1, om_e 28 (.iload_n 3) 1, om_ef 29 (.putfield 49) 3 7 18 0 69, om_e 32 (.iload_n 2) 1, om_e 33 (.aload_n 0) 1, om_ef 34 (.invokevirtual 311) 3 7 193 1 168]
def om_E196_37 : List om_E := [om_e 37 (.iload_n 1) 1, om_et 38 (.if_icmp .eq 9) 3 47]
def om_E196_41 : List om_E := [om_ew 41 (.iconst 1) 1 (om_i (1)) 0, om_e 42 (.iload_n 3) 1, om_e 43 .ishl 1, om_et 44 (.goto 4) 3 48]
def om_E196_47 : List om_E := [om_ew 47 (.iconst 0) 1 (om_i (0)) 0]
def om_E196_48 : List om_E := [om_e 48 .ior 1, om_e 49 (.istore_n 2) 1, om_ec 50 (.iinc 3 1) 3 (om_i (1)), om_et 53 (.goto (-34)) 3 19]
def om_E196_56 : List om_E := [om_e 56 (.aload_n 0) 1, om_ew 57 (.iconst (-1)) 1 (om_i (-1)) 0, om_ef 58 (.putfield 49) 3 7 18 0 69, om_e 61 (.iload_n 2) 1, om_e 62 .ireturn 1]
def om_B196 : List om_Bk := [(0, [true, false, false, false], om_E196_0, 7), (7, [false, false, false, false], om_E196_7, 10), (10, [true, false, false, false], om_E196_10, 14), (14, [true, false, false, false], om_E196_14, 19), (19, [true, true, true, true], om_E196_19, 27), (27, [true, true, true, true], om_E196_27, 37), (37, [true, true, false, true], om_E196_37, 41), (41, [true, true, false, true], om_E196_41, 47), (47, [true, true, false, true], om_E196_47, 48), (48, [true, true, false, true], om_E196_48, 56), (56, [true, false, true, false], om_E196_56, 63)]
def om_E197_0 : List om_E := [om_ew 0 (.iconst 0) 1 (om_i (0)) 0, om_e 1 (.istore_n 2) 1]
def om_E197_2 : List om_E := [om_e 2 (.iload_n 2) 1, om_e 3 (.aload_n 0) 1, om_ef 4 (.getfield 81) 3 7 2 0 53, om_et 7 (.if_icmp .ge 23) 3 30]
def om_E197_10 : List om_E := [om_e 10 (.aload_n 0) 1, om_ef 11 (.getfield 7) 3 7 0 4 51, om_e 14 (.iload_n 2) 1, om_e 15 .dup2 1, om_e 16 .iaload 1, om_e 17 (.iload_n 1) 1, om_e 18 (.iload_n 2) 1, om_e 19 .ishr 1, om_ew 20 (.iconst 1) 1 (om_i (1)) 0, om_e 21 .iand 1, om_e 22 .ixor 1, om_e 23 .iastore 1, om_ec 24 (.iinc 2 1) 3 (om_i (1)), om_et 27 (.goto (-25)) 3 2]
def om_E197_30 : List om_E := [om_e 30 .return_ 1]
def om_B197 : List om_Bk := [(0, [true, true, false], om_E197_0, 2), (2, [true, true, true], om_E197_2, 10), (10, [true, true, true], om_E197_10, 30), (30, [false, false, false], om_E197_30, 31)]
def om_E198_0 : List om_E := [om_e 0 (.aload_n 0) 1, om_ef 1 (.getfield 308) 3 7 15 0 66, om_et 4 (.ifCond .ne 6) 3 10]
def om_E198_7 : List om_E := [om_ew 7 (.bipush (-4)) 2 (om_i (-4)) 0, om_e 9 .ireturn 1]
def om_E198_10 : List om_E := [om_ew 10 (.iconst 0) 1 (om_i (0)) 0, om_e 11 (.istore_n 1) 1]
def om_E198_12 : List om_E := [om_e 12 (.iload_n 1) 1, om_e 13 (.aload_n 0) 1, om_ef 14 (.getfield 81) 3 7 2 0 53, om_et 17 (.if_icmp .gt 84) 3 101]
def om_E198_20 : List om_E := [om_ew 20 (.iconst 0) 1 (om_i (0)) 0, om_e 21 (.istore_n 2) 1]
def om_E198_22 : List om_E := [om_e 22 (.iload_n 2) 1, om_ew 23 (.iconst 1) 1 (om_i (1)) 0, om_e 24 (.aload_n 0) 1, om_ef 25 (.getfield 81) 3 7 2 0 53, om_e 28 .ishl 1, om_et 29 (.if_icmp .ge 66) 3 95]
def om_E198_32 : List om_E := [om_ew 32 (.iconst 0) 1 (om_i (0)) 0, om_e 33 (.istore_n 3) 1, om_ew 34 (.iconst 0) 1 (om_i (0)) 0, om_e 35 (.istore 4) 2]
def om_E198_37 : List om_E := [om_e 37 (.iload 4) 2, om_e 39 (.aload_n 0) 1, om_ef 40 (.getfield 81) 3 7 2 0 53, om_et 43 (.if_icmp .ge 18) 3 61]
def om_E198_46 : List om_E := [om_e 46 (.iload_n 3) 1, om_e 47 (.iload_n 2) 1, om_e 48 (.iload 4) 2, om_e 50 .ishr 1, om_ew 51 (.iconst 1) 1 (om_i (1)) 0, om_e 52 .iand 1, om_e 53 .iadd 1, om_e 54 (.istore_n 3) 1, om_ec 55 (.iinc 4 1) 3 (om_i (1)), om_et 58 (.goto (-21)) 3 37]
def om_E198_61 : List om_E := [om_e 61 (.iload_n 3) 1, om_e 62 (.iload_n 1) 1, om_et 63 (.if_icmp .ne 26) 3 89]
def om_E198_66 : List om_E := [om_e 66 (.aload_n 0) 1, om_e 67 (.iload_n 2) 1, om_ef 68 (.invokevirtual 317) 3 7 197 2 173]
def om_E198_71 : List om_E := [om_e 71 (.aload_n 0) 1, om_ef 72 (.invokevirtual 311) 3 7 193 1 168]
def om_E198_75 : List om_E := [om_e 75 (.istore 4) 2, om_e 77 (.aload_n 0) 1, om_e 78 (.iload_n 2) 1, om_ef 79 (.invokevirtual 317) 3 7 197 2 173]
def om_E198_82 : List om_E := [om_e 82 (.iload 4) 2, om_et 84 (.ifCond .eq 5) 3 89]
def om_E198_87 : List om_E := [om_e 87 (.iload_n 2) 1, om_e 88 .ireturn 1]
def om_E198_89 : List om_E := [om_ec 89 (.iinc 2 1) 3 (om_i (1)), om_et 92 (.goto (-70)) 3 22]
def om_E198_95 : List om_E := [om_ec 95 (.iinc 1 1) 3 (om_i (1)), om_et 98 (.goto (-86)) 3 12]
def om_E198_101 : List om_E := [om_ew 101 (.iconst (-1)) 1 (om_i (-1)) 0, om_e 102 .ireturn 1]
def om_B198 : List om_Bk := [(0, [true, false, false, false, false], om_E198_0, 7), (7, [false, false, false, false, false], om_E198_7, 10), (10, [true, false, false, false, false], om_E198_10, 12), (12, [true, true, false, false, false], om_E198_12, 20), (20, [true, true, false, false, false], om_E198_20, 22), (22, [true, true, true, false, false], om_E198_22, 32), (32, [true, true, true, false, false], om_E198_32, 37), (37, [true, true, true, true, true], om_E198_37, 46), (46, [true, true, true, true, true], om_E198_46, 61), (61, [true, true, true, true, false], om_E198_61, 66), (66, [true, true, true, false, false], om_E198_66, 71), (71, [true, true, true, false, false], om_E198_71, 75), (75, [true, true, true, false, false], om_E198_75, 82), (82, [true, true, true, false, true], om_E198_82, 87), (87, [false, false, true, false, false], om_E198_87, 89), (89, [true, true, true, false, false], om_E198_89, 95), (95, [true, true, false, false, false], om_E198_95, 101), (101, [false, false, false, false, false], om_E198_101, 103)]
def om_E199_0 : List om_E := [om_ew 0 (.iconst 0) 1 (om_i (0)) 0, om_e 1 (.istore_n 2) 1, om_e 2 (.iload_n 1) 1, om_es 3 (.tableswitch 164 0 5 #[37, 42, 47, 82, 118, 123]) 37 167 [((0), 40), ((1), 45), ((2), 50), ((3), 85), ((4), 121), ((5), 126)]]
def om_E199_40 : List om_E := [om_e 40 (.aload_n 0) 1, om_ef 41 (.getfield 81) 3 7 2 0 53, om_e 44 .ireturn 1]
def om_E199_45 : List om_E := [om_e 45 (.aload_n 0) 1, om_ef 46 (.getfield 88) 3 7 6 0 57, om_e 49 .ireturn 1]
def om_E199_50 : List om_E := [om_ew 50 (.iconst 0) 1 (om_i (0)) 0, om_e 51 (.istore_n 3) 1]
def om_E199_52 : List om_E := [om_e 52 (.iload_n 3) 1, om_e 53 (.aload_n 0) 1, om_ef 54 (.getfield 81) 3 7 2 0 53, om_et 57 (.if_icmp .ge 26) 3 83]
def om_E199_60 : List om_E := [om_e 60 (.iload_n 2) 1, om_e 61 (.aload_n 0) 1, om_ef 62 (.getfield 7) 3 7 0 4 51, om_e 65 (.iload_n 3) 1, om_e 66 .iaload 1, om_et 67 (.ifCond .ne 7) 3 74]
def om_E199_70 : List om_E := [om_ew 70 (.iconst 1) 1 (om_i (1)) 0, om_et 71 (.goto 4) 3 75]
def om_E199_74 : List om_E := [om_ew 74 (.iconst 0) 1 (om_i (0)) 0]
def om_E199_75 : List om_E := [om_e 75 .iadd 1, om_e 76 (.istore_n 2) 1, om_ec 77 (.iinc 3 1) 3 (om_i (1)), om_et 80 (.goto (-28)) 3 52]
def om_E199_83 : List om_E := [om_e 83 (.iload_n 2) 1, om_e 84 .ireturn 1]
def om_E199_85 : List om_E := [om_ew 85 (.iconst 0) 1 (om_i (0)) 0, om_e 86 (.istore_n 3) 1]
def om_E199_87 : List om_E := [om_e 87 (.iload_n 3) 1, om_e 88 (.aload_n 0) 1, om_ef 89 (.getfield 81) 3 7 2 0 53, om_et 92 (.if_icmp .ge 27) 3 119]
def om_E199_95 : List om_E := [om_e 95 (.iload_n 2) 1, om_e 96 (.aload_n 0) 1, om_ef 97 (.getfield 25) 3 7 7 9 58, om_e 100 (.iload_n 3) 1, om_e 101 .iaload 1, om_ew 102 (.iconst (-1)) 1 (om_i (-1)) 0, om_et 103 (.if_icmp .eq 7) 3 110]
def om_E199_106 : List om_E := [om_ew 106 (.iconst 1) 1 (om_i (1)) 0, om_et 107 (.goto 4) 3 111]
def om_E199_110 : List om_E := [om_ew 110 (.iconst 0) 1 (om_i (0)) 0]
def om_E199_111 : List om_E := [om_e 111 .iadd 1, om_e 112 (.istore_n 2) 1, om_ec 113 (.iinc 3 1) 3 (om_i (1)), om_et 116 (.goto (-29)) 3 87]
def om_E199_119 : List om_E := [om_e 119 (.iload_n 2) 1, om_e 120 .ireturn 1]
def om_E199_121 : List om_E := [om_e 121 (.aload_n 0) 1, om_ef 122 (.getfield 223) 3 7 9 0 60, om_e 125 .ireturn 1]
def om_E199_126 : List om_E := [om_ew 126 (.bipush 120) 2 (om_i (120)) 0, om_e 128 (.istore_n 3) 1]
def om_E199_129 : List om_E := [om_e 129 (.iload_n 3) 1, om_ew 130 (.bipush 120) 2 (om_i (120)) 0, om_e 132 (.aload_n 0) 1, om_ef 133 (.getfield 308) 3 7 15 0 66, om_e 136 .iadd 1, om_et 137 (.if_icmp .ge 28) 3 165]
def om_E199_140 : List om_E := [om_e 140 (.iload_n 2) 1, om_e 141 (.aload_n 0) 1, om_ef 142 (.getfield 31) 3 7 10 11 61, om_e 145 (.iload_n 3) 1, om_e 146 .iaload 1, om_ew 147 (.bipush 6) 2 (om_i (6)) 0, om_et 149 (.if_icmp .ge 7) 3 156]
def om_E199_152 : List om_E := [om_ew 152 (.iconst 1) 1 (om_i (1)) 0, om_et 153 (.goto 4) 3 157]
def om_E199_156 : List om_E := [om_ew 156 (.iconst 0) 1 (om_i (0)) 0]
def om_E199_157 : List om_E := [om_e 157 .iadd 1, om_e 158 (.istore_n 2) 1, om_ec 159 (.iinc 3 1) 3 (om_i (1)), om_et 162 (.goto (-33)) 3 129]
def om_E199_165 : List om_E := [om_e 165 (.iload_n 2) 1, om_e 166 .ireturn 1]
def om_E199_167 : List om_E := [om_ew 167 (.bipush (-3)) 2 (om_i (-3)) 0, om_e 169 .ireturn 1]
def om_B199 : List om_Bk := [(0, [true, true, false, false], om_E199_0, 40), (40, [true, false, false, false], om_E199_40, 45), (45, [true, false, false, false], om_E199_45, 50), (50, [true, false, true, false], om_E199_50, 52), (52, [true, false, true, true], om_E199_52, 60), (60, [true, false, true, true], om_E199_60, 70), (70, [true, false, false, true], om_E199_70, 74), (74, [true, false, false, true], om_E199_74, 75), (75, [true, false, false, true], om_E199_75, 83), (83, [false, false, true, false], om_E199_83, 85), (85, [true, false, true, false], om_E199_85, 87), (87, [true, false, true, true], om_E199_87, 95), (95, [true, false, true, true], om_E199_95, 106), (106, [true, false, false, true], om_E199_106, 110), (110, [true, false, false, true], om_E199_110, 111), (111, [true, false, false, true], om_E199_111, 119), (119, [false, false, true, false], om_E199_119, 121), (121, [true, false, false, false], om_E199_121, 126), (126, [true, false, true, false], om_E199_126, 129), (129, [true, false, true, true], om_E199_129, 140), (140, [true, false, true, true], om_E199_140, 152), (152, [true, false, false, true], om_E199_152, 156), (156, [true, false, false, true], om_E199_156, 157), (157, [true, false, false, true], om_E199_157, 165), (165, [false, false, true, false], om_E199_165, 167), (167, [false, false, false, false], om_E199_167, 170)]
def om_blk : List (List om_Bk) := [om_B0, om_B1, om_B2, om_B3, om_B4, om_B5, om_B6, om_B7, om_B8, om_B9, om_B10, om_B11, om_B12, om_B13, om_B14, om_B15, om_B16, om_B17, om_B18, om_B19, om_B20, om_B21, om_B22, om_B23, om_B24, om_B25, om_B26, om_B27, om_B28, om_B29, om_B30, om_B31, om_B32, om_B33, om_B34, om_B35, om_B36, om_B37, om_B38, om_B39, om_B40, om_B41, om_B42, om_B43, om_B44, om_B45, om_B46, om_B47, om_B48, om_B49, om_B50, om_B51, om_B52, om_B53, om_B54, om_B55, om_B56, om_B57, om_B58, om_B59, om_B60, om_B61, om_B62, om_B63, om_B64, om_B65, om_B66, om_B67, om_B68, om_B69, om_B70, om_B71, om_B72, om_B73, om_B74, om_B75, om_B76, om_B77, om_B78, om_B79, om_B80, om_B81, om_B82, om_B83, om_B84, om_B85, om_B86, om_B87, om_B88, om_B89, om_B90, om_B91, om_B92, om_B93, om_B94, om_B95, om_B96, om_B97, om_B98, om_B99, om_B100, om_B101, om_B102, om_B103, om_B104, om_B105, om_B106, om_B107, om_B108, om_B109, om_B110, om_B111, om_B112, om_B113, om_B114, om_B115, om_B116, om_B117, om_B118, om_B119, om_B120, om_B121, om_B122, om_B123, om_B124, om_B125, om_B126, om_B127, om_B128, om_B129, om_B130, om_B131, om_B132, om_B133, om_B134, om_B135, om_B136, om_B137, om_B138, om_B139, om_B140, om_B141, om_B142, om_B143, om_B144, om_B145, om_B146, om_B147, om_B148, om_B149, om_B150, om_B151, om_B152, om_B153, om_B154, om_B155, om_B156, om_B157, om_B158, om_B159, om_B160, om_B161, om_B162, om_B163, om_B164, om_B165, om_B166, om_B167, om_B168, om_B169, om_B170, om_B171, om_B172, om_B173, om_B174, om_B175, om_B176, om_B177, om_B178, om_B179, om_B180, om_B181, om_B182, om_B183, om_B184, om_B185, om_B186, om_B187, om_B188, om_B189, om_B190, om_B191, om_B192, om_B193, om_B194, om_B195, om_B196, om_B197, om_B198, om_B199]
def om_szl : List om_V → Nat
  | [] => 0
  | v :: vs => (bif om_isL (some v) then 2 else 1) + om_szl vs
def om_ent : List om_V → Nat → om_L
  | [], n => List.replicate n none
  | _ :: _, 0 => []
  | v :: vs, n + 1 => some v :: (match om_isL (some v), n with
    | true, m + 1 => none :: om_ent vs m
    | _, n => om_ent vs n)
def om_Sem : Nat → om_C
  | 0 => fun _ _ _ _ _ => False
  | d + 1 => fun k as M r Mf => ∃ (i : om_Sg) (B : List om_Bk), om_nth om_sig k = some i ∧ om_nth om_blk k = some B ∧ Nat.ble (om_szl as) i.2.2.1 = true ∧ om_G (om_Sem d) i.2.2.2.2.1 B 0 (om_ent as i.2.2.1) [] M r Mf
theorem om_ss {D d k : Nat} {as : List om_V} {M : om_M} {r : Option om_V} {Mf : om_M} {i : om_Sg} {B : List om_Bk} (hd : D + 1 ≤ d) (h1 : om_nth om_sig k = some i) (h2 : om_nth om_blk k = some B) (h3 : Nat.ble (om_szl as) i.2.2.1 = true) (h : ∀ d, D ≤ d → om_G (om_Sem d) i.2.2.2.2.1 B 0 (om_ent as i.2.2.1) [] M r Mf) : om_Sem d k as M r Mf := by
  match d, hd with
  | d + 1, hd => exact ⟨i, B, h1, h2, h3, h d (Nat.le_of_succ_le_succ hd)⟩
end
section
def om_B_giveTo_b33 (F : Nat)  (M : om_M) : Option ((om_M)) := some M
set_option maxRecDepth 20000 in
theorem om_B_giveTo_b33_ok (F d : Nat) (hd : 0 ≤ d) {r : Option om_V} {Mf : om_M}  (M : om_M) (L : om_L) (hL : om_tr [false, false, false] L = [none, none, none]) {e : (om_M)} (h : om_B_giveTo_b33 F  M = some e) (hk : r = none ∧ Mf = e) : om_G (om_Sem d) 0 om_B0 33 L [] M r Mf := (om_gb (es := om_E0_33) rfl hL (X := om_rt none M) rfl (om_cmv h hk))
def om_B_giveTo_b0 (F : Nat) (x1 : Int32) (x2 : Int32) (M : om_M) : Option ((om_M)) := (if x2 = 0 then om_B_giveTo_b33 F (om_up M 1 2 ((M.1 1 2) ||| ((1) <<< (x1 &&& 31)))) else om_B_giveTo_b33 F (om_up M 1 2 ((M.1 1 2) &&& (((1) <<< (x1 &&& 31)) ^^^ (-1)))))
set_option maxRecDepth 20000 in
theorem om_B_giveTo_b0_ok (F d : Nat) (hd : 0 ≤ d) {r : Option om_V} {Mf : om_M} (x1 : Int32) (x2 : Int32) (M : om_M) (L : om_L) (hL : om_tr [true, true, true] L = [some (om_r 1), some (om_i x1), some (om_i x2)]) {e : (om_M)} (h : om_B_giveTo_b0 F x1 x2 M = some e) (hk : r = none ∧ Mf = e) : om_G (om_Sem d) 0 om_B0 0 L [] M r Mf := (om_gb (es := om_E0_0) rfl hL (X := (if x2 = 0 then om_go 4 [some (om_r 1), some (om_i x1), some (om_i x2)] [] M else om_go 19 [some (om_r 1), some (om_i x1), some (om_i x2)] [] M)) rfl (om_ki h (fun h => (om_gb (es := om_E0_4) rfl rfl (X := om_go 33 [some (om_r 1), some (om_i x1), none] [] (om_up M 1 2 ((M.1 1 2) ||| ((1) <<< (x1 &&& 31))))) rfl (om_B_giveTo_b33_ok F d hd (om_up M 1 2 ((M.1 1 2) ||| ((1) <<< (x1 &&& 31)))) _ rfl h hk))) (fun h => (om_gb (es := om_E0_19) rfl rfl (X := om_go 33 [some (om_r 1), some (om_i x1), none] [] (om_up M 1 2 ((M.1 1 2) &&& (((1) <<< (x1 &&& 31)) ^^^ (-1))))) rfl (om_B_giveTo_b33_ok F d hd (om_up M 1 2 ((M.1 1 2) &&& (((1) <<< (x1 &&& 31)) ^^^ (-1)))) _ rfl h hk)))))
def om_B_giveTo (F : Nat) (x1 : Int32) (x2 : Int32) (M : om_M) : Option (om_M) := om_B_giveTo_b0 F x1 x2 M
theorem om_B_giveTo_ok (F d : Nat) (hd : 1 ≤ d) {x1 : Int32} {x2 : Int32} {M : om_M} {q : om_M} (h : om_B_giveTo F x1 x2 M = some q) : om_Sem d 0 [om_r 1, om_i x1, om_i x2] M none q := om_ss hd rfl rfl rfl fun d hd => om_B_giveTo_b0_ok F d hd x1 x2 M _ rfl h ⟨rfl, rfl⟩
def om_B_addPlace_b0 (F : Nat) (x1 : Int32) (x2 : Int32) (M : om_M) : Option ((Int32 × om_M)) := (bif om_in (M.1 1 0) 8 then (bif om_in (M.1 1 0) 8 then (om_B_giveTo F (M.1 1 0) x1 (om_up (om_up (om_up M 1 0 ((M.1 1 0) + (1))) 2 (M.1 1 0).toNatClampNeg x2) 3 (M.1 1 0).toNatClampNeg (-1))).bind (fun q_1 => some (M.1 1 0, q_1)) else none) else none)
set_option maxRecDepth 20000 in
theorem om_B_addPlace_b0_ok (F d : Nat) (hd : 1 ≤ d) {r : Option om_V} {Mf : om_M} (x1 : Int32) (x2 : Int32) (M : om_M) (L : om_L) (hL : om_tr [true, true, true, false] L = [some (om_r 1), some (om_i x1), some (om_i x2), none]) {e : (Int32 × om_M)} (h : om_B_addPlace_b0 F x1 x2 M = some e) (hk : r = some (om_i e.1) ∧ Mf = e.2) : om_G (om_Sem d) 0 om_B1 0 L [] M r Mf := (om_gb (es := om_E1_0) rfl hL (X := (bif om_isA 2 1 && om_in (M.1 1 0) (om_ln 2) then (bif om_isA 3 1 && om_in (M.1 1 0) (om_ln 3) then om_ca 0 [om_r 1, om_i (M.1 1 0), om_i x1] 32 [some (om_r 1), some (om_i x1), some (om_i x2), some (om_i (M.1 1 0))] [] (om_up (om_up (om_up M 1 0 ((M.1 1 0) + (1))) 2 (M.1 1 0).toNatClampNeg x2) 3 (M.1 1 0).toNatClampNeg (-1)) else om_no) else om_no)) rfl (om_kb h (om_ga rfl rfl) fun h => (om_kb h (om_ga rfl rfl) fun h => (om_kcv h (fun q_1 hq => (om_B_giveTo_ok F d (Nat.le_trans (Nat.le_of_ble_eq_true rfl) hd)) hq) fun q_1 h => (om_gb (es := om_E1_32) rfl rfl (X := om_rt (some (om_i (M.1 1 0))) q_1) rfl (om_cm h hk))))))
def om_B_addPlace (F : Nat) (x1 : Int32) (x2 : Int32) (M : om_M) : Option (Int32 × om_M) := om_B_addPlace_b0 F x1 x2 M
theorem om_B_addPlace_ok (F d : Nat) (hd : 2 ≤ d) {x1 : Int32} {x2 : Int32} {M : om_M} {q : Int32 × om_M} (h : om_B_addPlace F x1 x2 M = some q) : om_Sem d 1 [om_r 1, om_i x1, om_i x2] M (some (om_i q.1)) q.2 := om_ss hd rfl rfl rfl fun d hd => om_B_addPlace_b0_ok F d hd x1 x2 M _ rfl h ⟨rfl, rfl⟩
def om_B_find_L2_P (d : Nat) (r : Option om_V) (Mf : om_M) (x : Int32 × Int32 × Int32 × om_M) : Prop := ∀ L, om_tr [true, true, true, true] L = [some (om_r 1), some (om_i x.1), some (om_i x.2.1), some (om_i x.2.2.1)] → om_G (om_Sem d) 0 om_B4 2 L [] x.2.2.2 r Mf
def om_B_find_L2_Q0 (d : Nat) (r : Option om_V) (Mf : om_M) (x : Int32 × om_M) : Prop := ∀ L, om_tr [false, false, false, true] L = [none, none, none, some (om_i x.1)] → om_G (om_Sem d) 0 om_B4 30 L [] x.2 r Mf
def om_B_find_L2_Q1 (d : Nat) (r : Option om_V) (Mf : om_M) (x : om_M) : Prop := ∀ L, om_tr [false, false, false, false] L = [none, none, none, none] → om_G (om_Sem d) 0 om_B4 38 L [] x r Mf
abbrev om_B_find_L2_Q (d : Nat) (r : Option om_V) (Mf : om_M) : ((Int32 × om_M) ⊕ (om_M)) → Prop := Sum.elim (om_B_find_L2_Q0 d r Mf) (om_B_find_L2_Q1 d r Mf)
def om_B_find_b32 (F : Nat) (x1 : Int32) (x2 : Int32) (x3 : Int32) (M : om_M) : Option ((Int32 × Int32 × Int32 × om_M) ⊕ ((Int32 × om_M) ⊕ (om_M))) := some (.inl (x1, x2, x3 + (1), M))
set_option maxRecDepth 20000 in
theorem om_B_find_b32_ok (F d : Nat) (hd : 0 ≤ d) {r : Option om_V} {Mf : om_M} (x1 : Int32) (x2 : Int32) (x3 : Int32) (M : om_M) (L : om_L) (hL : om_tr [true, true, true, true] L = [some (om_r 1), some (om_i x1), some (om_i x2), some (om_i x3)]) {e : (Int32 × Int32 × Int32 × om_M) ⊕ ((Int32 × om_M) ⊕ (om_M))} (h : om_B_find_b32 F x1 x2 x3 M = some e) (hk : Sum.elim (om_B_find_L2_P d r Mf) (om_B_find_L2_Q d r Mf) e) : om_G (om_Sem d) 0 om_B4 32 L [] M r Mf := (om_gb (es := om_E4_32) rfl hL (X := om_go 2 [some (om_r 1), some (om_i x1), some (om_i x2), some (om_i (x3 + (1)))] [] M) rfl (om_cin h hk _ rfl))
def om_B_find_b2 (F : Nat) (x1 : Int32) (x2 : Int32) (x3 : Int32) (M : om_M) : Option ((Int32 × Int32 × Int32 × om_M) ⊕ ((Int32 × om_M) ⊕ (om_M))) := (if (M.1 1 1) ≤ x3 then some (.inr (.inr M)) else (bif om_in x3 20 then (if (M.1 4 (x3).toNatClampNeg) = x1 then (bif om_in x3 20 then (if (M.1 5 (x3).toNatClampNeg) = x2 then some (.inr (.inl (x3, M))) else om_B_find_b32 F x1 x2 x3 M) else none) else om_B_find_b32 F x1 x2 x3 M) else none))
set_option maxRecDepth 20000 in
theorem om_B_find_b2_ok (F d : Nat) (hd : 0 ≤ d) {r : Option om_V} {Mf : om_M} (x1 : Int32) (x2 : Int32) (x3 : Int32) (M : om_M) (L : om_L) (hL : om_tr [true, true, true, true] L = [some (om_r 1), some (om_i x1), some (om_i x2), some (om_i x3)]) {e : (Int32 × Int32 × Int32 × om_M) ⊕ ((Int32 × om_M) ⊕ (om_M))} (h : om_B_find_b2 F x1 x2 x3 M = some e) (hk : Sum.elim (om_B_find_L2_P d r Mf) (om_B_find_L2_Q d r Mf) e) : om_G (om_Sem d) 0 om_B4 2 L [] M r Mf := (om_gb (es := om_E4_2) rfl hL (X := (if (M.1 1 1) ≤ x3 then om_go 38 [some (om_r 1), some (om_i x1), some (om_i x2), some (om_i x3)] [] M else om_go 10 [some (om_r 1), some (om_i x1), some (om_i x2), some (om_i x3)] [] M)) rfl (om_ki h (fun h => ((om_cir (y := (Sum.inr M)) h hk : om_B_find_L2_Q1 d r Mf M) _ rfl)) (fun h => (om_gb (es := om_E4_10) rfl rfl (X := (bif om_isA 4 1 && om_in x3 (om_ln 4) then (if (M.1 4 (x3).toNatClampNeg) = x1 then om_go 20 [some (om_r 1), some (om_i x1), some (om_i x2), some (om_i x3)] [] M else om_go 32 [some (om_r 1), some (om_i x1), some (om_i x2), some (om_i x3)] [] M) else om_no)) rfl (om_kb h (om_ga rfl rfl) fun h => (om_ki h (fun h => (om_gb (es := om_E4_20) rfl rfl (X := (bif om_isA 5 1 && om_in x3 (om_ln 5) then (if (M.1 5 (x3).toNatClampNeg) = x2 then om_go 30 [some (om_r 1), some (om_i x1), some (om_i x2), some (om_i x3)] [] M else om_go 32 [some (om_r 1), some (om_i x1), some (om_i x2), some (om_i x3)] [] M) else om_no)) rfl (om_kb h (om_ga rfl rfl) fun h => (om_ki h (fun h => ((om_cir (y := (Sum.inl (x3, M))) h hk : om_B_find_L2_Q0 d r Mf (x3, M)) _ rfl)) (fun h => (om_B_find_b32_ok F d hd x1 x2 x3 M _ rfl h hk)))))) (fun h => (om_B_find_b32_ok F d hd x1 x2 x3 M _ rfl h hk))))))))
def om_B_find_L2_body (F : Nat) (x : Int32 × Int32 × Int32 × om_M) : Option ((Int32 × Int32 × Int32 × om_M) ⊕ ((Int32 × om_M) ⊕ (om_M))) := om_B_find_b2 F x.1 x.2.1 x.2.2.1 x.2.2.2
def om_B_find_L2 (F : Nat) (x : Int32 × Int32 × Int32 × om_M) : Option ((Int32 × om_M) ⊕ (om_M)) := om_it (om_B_find_L2_body F) F x
theorem om_B_find_L2_ok (F d : Nat) (hd : 0 ≤ d) (r : Option om_V) (Mf : om_M) (x : Int32 × Int32 × Int32 × om_M) (e : (Int32 × Int32 × Int32 × om_M) ⊕ ((Int32 × om_M) ⊕ (om_M))) (h : om_B_find_L2_body F x = some e) (hk : Sum.elim (om_B_find_L2_P d r Mf) (om_B_find_L2_Q d r Mf) e) : om_B_find_L2_P d r Mf x := fun L hL => om_B_find_b2_ok F d hd x.1 x.2.1 x.2.2.1 x.2.2.2 L hL h hk
def om_B_find_b0 (F : Nat) (x1 : Int32) (x2 : Int32) (M : om_M) : Option ((Int32 × om_M)) := (om_B_find_L2 F (x1, x2, (0), M)).bind fun z1 => Sum.elim (fun z2 => some (z2.1, z2.2)) (fun z3 => some ((-1), z3)) z1
set_option maxRecDepth 20000 in
theorem om_B_find_b0_ok (F d : Nat) (hd : 0 ≤ d) {r : Option om_V} {Mf : om_M} (x1 : Int32) (x2 : Int32) (M : om_M) (L : om_L) (hL : om_tr [true, true, true, false] L = [some (om_r 1), some (om_i x1), some (om_i x2), none]) {e : (Int32 × om_M)} (h : om_B_find_b0 F x1 x2 M = some e) (hk : r = some (om_i e.1) ∧ Mf = e.2) : om_G (om_Sem d) 0 om_B4 0 L [] M r Mf := (om_gb (es := om_E4_0) rfl hL (X := om_go 2 [some (om_r 1), some (om_i x1), some (om_i x2), some (om_i (0))] [] M) rfl (om_kL (P := om_B_find_L2_P d r Mf) (Q := om_B_find_L2_Q d r Mf) h (om_B_find_L2_ok F d hd r Mf) (fun z1 hz1 => (om_sd hz1 (fun z2 hz2 => (fun Lz hLz => (om_gb (es := om_E4_30) rfl hLz (X := om_rt (some (om_i z2.1)) z2.2) rfl (om_cm hz2 hk)))) (fun z3 hz3 => (fun Lz hLz => (om_gb (es := om_E4_38) rfl hLz (X := om_rt (some (om_i (-1))) z3) rfl (om_cm hz3 hk)))))) _ rfl))
def om_B_find (F : Nat) (x1 : Int32) (x2 : Int32) (M : om_M) : Option (Int32 × om_M) := om_B_find_b0 F x1 x2 M
theorem om_B_find_ok (F d : Nat) (hd : 1 ≤ d) {x1 : Int32} {x2 : Int32} {M : om_M} {q : Int32 × om_M} (h : om_B_find F x1 x2 M = some q) : om_Sem d 4 [om_r 1, om_i x1, om_i x2] M (some (om_i q.1)) q.2 := om_ss hd rfl rfl rfl fun d hd => om_B_find_b0_ok F d hd x1 x2 M _ rfl h ⟨rfl, rfl⟩
def om_V_oneMoveFrom_L25_P (d : Nat) (r : Option om_V) (Mf : om_M) (x : Int32 × Int32 × Int32 × Int32 × Int32 × om_M) : Prop := ∀ L, om_tr [true, false, true, true, true, true, true, false, false] L = [some (om_r 7), none, some (om_i x.1), some (om_i x.2.1), some (om_i x.2.2.1), some (om_i x.2.2.2.1), some (om_i x.2.2.2.2.1), none, none] → om_G (om_Sem d) 0 om_B36 25 L [] x.2.2.2.2.2 r Mf
def om_V_oneMoveFrom_L25_Q0 (d : Nat) (r : Option om_V) (Mf : om_M) (x : Int32 × Int32 × om_M) : Prop := ∀ L, om_tr [false, false, false, true, false, true, false, false, false] L = [none, none, none, some (om_i x.1), none, some (om_i x.2.1), none, none, none] → om_G (om_Sem d) 0 om_B36 106 L [] x.2.2 r Mf
abbrev om_V_oneMoveFrom_L25_Q (d : Nat) (r : Option om_V) (Mf : om_M) : (Int32 × Int32 × om_M) → Prop := om_V_oneMoveFrom_L25_Q0 d r Mf
def om_V_oneMoveFrom_b100 (F : Nat) (x2 : Int32) (x3 : Int32) (x4 : Int32) (x5 : Int32) (x6 : Int32) (M : om_M) : Option ((Int32 × Int32 × Int32 × Int32 × Int32 × om_M) ⊕ ((Int32 × Int32 × om_M))) := some (.inl (x2, x3, x4, x5, x6 + (1), M))
set_option maxRecDepth 20000 in
theorem om_V_oneMoveFrom_b100_ok (F d : Nat) (hd : 0 ≤ d) {r : Option om_V} {Mf : om_M} (x2 : Int32) (x3 : Int32) (x4 : Int32) (x5 : Int32) (x6 : Int32) (M : om_M) (L : om_L) (hL : om_tr [true, false, true, true, true, true, true, false, false] L = [some (om_r 7), none, some (om_i x2), some (om_i x3), some (om_i x4), some (om_i x5), some (om_i x6), none, none]) {e : (Int32 × Int32 × Int32 × Int32 × Int32 × om_M) ⊕ ((Int32 × Int32 × om_M))} (h : om_V_oneMoveFrom_b100 F x2 x3 x4 x5 x6 M = some e) (hk : Sum.elim (om_V_oneMoveFrom_L25_P d r Mf) (om_V_oneMoveFrom_L25_Q d r Mf) e) : om_G (om_Sem d) 0 om_B36 100 L [] M r Mf := (om_gb (es := om_E36_100) rfl hL (X := om_go 25 [some (om_r 7), none, some (om_i x2), some (om_i x3), some (om_i x4), some (om_i x5), some (om_i (x6 + (1))), none, none] [] M) rfl (om_cin h hk _ rfl))
def om_V_oneMoveFrom_b84 (F : Nat) (x2 : Int32) (x3 : Int32) (x4 : Int32) (x5 : Int32) (x6 : Int32) (s0 : Int32) (M : om_M) : Option ((Int32 × Int32 × Int32 × Int32 × Int32 × om_M) ⊕ ((Int32 × Int32 × om_M))) := (if s0 = 0 then om_V_oneMoveFrom_b100 F x2 x3 x4 x5 x6 M else om_V_oneMoveFrom_b100 F x2 x3 x4 (x5 ||| ((1) <<< (x6 &&& 31))) x6 M)
set_option maxRecDepth 20000 in
theorem om_V_oneMoveFrom_b84_ok (F d : Nat) (hd : 0 ≤ d) {r : Option om_V} {Mf : om_M} (x2 : Int32) (x3 : Int32) (x4 : Int32) (x5 : Int32) (x6 : Int32) (s0 : Int32) (M : om_M) (L : om_L) (hL : om_tr [true, false, true, true, true, true, true, false, false] L = [some (om_r 7), none, some (om_i x2), some (om_i x3), some (om_i x4), some (om_i x5), some (om_i x6), none, none]) {e : (Int32 × Int32 × Int32 × Int32 × Int32 × om_M) ⊕ ((Int32 × Int32 × om_M))} (h : om_V_oneMoveFrom_b84 F x2 x3 x4 x5 x6 s0 M = some e) (hk : Sum.elim (om_V_oneMoveFrom_L25_P d r Mf) (om_V_oneMoveFrom_L25_Q d r Mf) e) : om_G (om_Sem d) 0 om_B36 84 L [om_i s0] M r Mf := (om_gb (es := om_E36_84) rfl hL (X := (if s0 = 0 then om_go 100 [some (om_r 7), none, some (om_i x2), some (om_i x3), some (om_i x4), some (om_i x5), some (om_i x6), none, some (om_i s0)] [] M else om_go 91 [some (om_r 7), none, some (om_i x2), some (om_i x3), some (om_i x4), some (om_i x5), some (om_i x6), none, some (om_i s0)] [] M)) rfl (om_ki h (fun h => (om_V_oneMoveFrom_b100_ok F d hd x2 x3 x4 x5 x6 M _ rfl h hk)) (fun h => (om_gb (es := om_E36_91) rfl rfl (X := om_go 100 [some (om_r 7), none, some (om_i x2), some (om_i x3), some (om_i x4), some (om_i (x5 ||| ((1) <<< (x6 &&& 31)))), some (om_i x6), none, none] [] M) rfl (om_V_oneMoveFrom_b100_ok F d hd x2 x3 x4 (x5 ||| ((1) <<< (x6 &&& 31))) x6 M _ rfl h hk)))))
def om_V_oneMoveFrom_b25 (F : Nat) (x2 : Int32) (x3 : Int32) (x4 : Int32) (x5 : Int32) (x6 : Int32) (M : om_M) : Option ((Int32 × Int32 × Int32 × Int32 × Int32 × om_M) ⊕ ((Int32 × Int32 × om_M))) := (if (M.1 7 0) ≤ x6 then some (.inr (x3, x5, M)) else (bif om_in x6 8 then (if ((x4 >>> (x6 &&& 31)) &&& (1)) = 0 then (if (((M.1 11 (x6).toNatClampNeg) &&& x3) &&& (x2 ^^^ (-1))) = 0 then om_V_oneMoveFrom_b84 F x2 x3 x4 x5 x6 (1) M else om_V_oneMoveFrom_b84 F x2 x3 x4 x5 x6 (0) M) else (if (((M.1 11 (x6).toNatClampNeg) &&& x3) &&& x2) = 0 then om_V_oneMoveFrom_b84 F x2 x3 x4 x5 x6 (0) M else om_V_oneMoveFrom_b84 F x2 x3 x4 x5 x6 (1) M)) else none))
set_option maxRecDepth 20000 in
theorem om_V_oneMoveFrom_b25_ok (F d : Nat) (hd : 0 ≤ d) {r : Option om_V} {Mf : om_M} (x2 : Int32) (x3 : Int32) (x4 : Int32) (x5 : Int32) (x6 : Int32) (M : om_M) (L : om_L) (hL : om_tr [true, false, true, true, true, true, true, false, false] L = [some (om_r 7), none, some (om_i x2), some (om_i x3), some (om_i x4), some (om_i x5), some (om_i x6), none, none]) {e : (Int32 × Int32 × Int32 × Int32 × Int32 × om_M) ⊕ ((Int32 × Int32 × om_M))} (h : om_V_oneMoveFrom_b25 F x2 x3 x4 x5 x6 M = some e) (hk : Sum.elim (om_V_oneMoveFrom_L25_P d r Mf) (om_V_oneMoveFrom_L25_Q d r Mf) e) : om_G (om_Sem d) 0 om_B36 25 L [] M r Mf := (om_gb (es := om_E36_25) rfl hL (X := (if (M.1 7 0) ≤ x6 then om_go 106 [some (om_r 7), none, some (om_i x2), some (om_i x3), some (om_i x4), some (om_i x5), some (om_i x6), none, none] [] M else om_go 34 [some (om_r 7), none, some (om_i x2), some (om_i x3), some (om_i x4), some (om_i x5), some (om_i x6), none, none] [] M)) rfl (om_ki h (fun h => ((om_cir (y := (x3, x5, M)) h hk : om_V_oneMoveFrom_L25_Q0 d r Mf (x3, x5, M)) _ rfl)) (fun h => (om_gb (es := om_E36_34) rfl rfl (X := (bif om_isA 11 1 && om_in x6 (om_ln 11) then (if ((x4 >>> (x6 &&& 31)) &&& (1)) = 0 then om_go 70 [some (om_r 7), none, some (om_i x2), some (om_i x3), some (om_i x4), some (om_i x5), some (om_i x6), some (om_i ((M.1 11 (x6).toNatClampNeg) &&& x3)), none] [] M else om_go 55 [some (om_r 7), none, some (om_i x2), some (om_i x3), some (om_i x4), some (om_i x5), some (om_i x6), some (om_i ((M.1 11 (x6).toNatClampNeg) &&& x3)), none] [] M) else om_no)) rfl (om_kb h (om_ga rfl rfl) fun h => (om_ki h (fun h => (om_gb (es := om_E36_70) rfl rfl (X := (if (((M.1 11 (x6).toNatClampNeg) &&& x3) &&& (x2 ^^^ (-1))) = 0 then om_go 79 [some (om_r 7), none, some (om_i x2), some (om_i x3), some (om_i x4), some (om_i x5), some (om_i x6), some (om_i ((M.1 11 (x6).toNatClampNeg) &&& x3)), none] [] M else om_go 83 [some (om_r 7), none, some (om_i x2), some (om_i x3), some (om_i x4), some (om_i x5), some (om_i x6), some (om_i ((M.1 11 (x6).toNatClampNeg) &&& x3)), none] [] M)) rfl (om_ki h (fun h => (om_gb (es := om_E36_79) rfl rfl (X := om_go 84 [some (om_r 7), none, some (om_i x2), some (om_i x3), some (om_i x4), some (om_i x5), some (om_i x6), none, none] [om_i (1)] M) rfl (om_V_oneMoveFrom_b84_ok F d hd x2 x3 x4 x5 x6 (1) M _ rfl h hk))) (fun h => (om_gb (es := om_E36_83) rfl rfl (X := om_go 84 [some (om_r 7), none, some (om_i x2), some (om_i x3), some (om_i x4), some (om_i x5), some (om_i x6), none, none] [om_i (0)] M) rfl (om_V_oneMoveFrom_b84_ok F d hd x2 x3 x4 x5 x6 (0) M _ rfl h hk)))))) (fun h => (om_gb (es := om_E36_55) rfl rfl (X := (if (((M.1 11 (x6).toNatClampNeg) &&& x3) &&& x2) = 0 then om_go 66 [some (om_r 7), none, some (om_i x2), some (om_i x3), some (om_i x4), some (om_i x5), some (om_i x6), some (om_i ((M.1 11 (x6).toNatClampNeg) &&& x3)), none] [] M else om_go 62 [some (om_r 7), none, some (om_i x2), some (om_i x3), some (om_i x4), some (om_i x5), some (om_i x6), some (om_i ((M.1 11 (x6).toNatClampNeg) &&& x3)), none] [] M)) rfl (om_ki h (fun h => (om_gb (es := om_E36_66) rfl rfl (X := om_go 84 [some (om_r 7), none, some (om_i x2), some (om_i x3), some (om_i x4), some (om_i x5), some (om_i x6), none, none] [om_i (0)] M) rfl (om_V_oneMoveFrom_b84_ok F d hd x2 x3 x4 x5 x6 (0) M _ rfl h hk))) (fun h => (om_gb (es := om_E36_62) rfl rfl (X := om_go 84 [some (om_r 7), none, some (om_i x2), some (om_i x3), some (om_i x4), some (om_i x5), some (om_i x6), none, none] [om_i (1)] M) rfl (om_V_oneMoveFrom_b84_ok F d hd x2 x3 x4 x5 x6 (1) M _ rfl h hk))))))))))))
def om_V_oneMoveFrom_L25_body (F : Nat) (x : Int32 × Int32 × Int32 × Int32 × Int32 × om_M) : Option ((Int32 × Int32 × Int32 × Int32 × Int32 × om_M) ⊕ ((Int32 × Int32 × om_M))) := om_V_oneMoveFrom_b25 F x.1 x.2.1 x.2.2.1 x.2.2.2.1 x.2.2.2.2.1 x.2.2.2.2.2
def om_V_oneMoveFrom_L25 (F : Nat) (x : Int32 × Int32 × Int32 × Int32 × Int32 × om_M) : Option ((Int32 × Int32 × om_M)) := om_it (om_V_oneMoveFrom_L25_body F) F x
theorem om_V_oneMoveFrom_L25_ok (F d : Nat) (hd : 0 ≤ d) (r : Option om_V) (Mf : om_M) (x : Int32 × Int32 × Int32 × Int32 × Int32 × om_M) (e : (Int32 × Int32 × Int32 × Int32 × Int32 × om_M) ⊕ ((Int32 × Int32 × om_M))) (h : om_V_oneMoveFrom_L25_body F x = some e) (hk : Sum.elim (om_V_oneMoveFrom_L25_P d r Mf) (om_V_oneMoveFrom_L25_Q d r Mf) e) : om_V_oneMoveFrom_L25_P d r Mf x := fun L hL => om_V_oneMoveFrom_b25_ok F d hd x.1 x.2.1 x.2.2.1 x.2.2.2.1 x.2.2.2.2.1 x.2.2.2.2.2 L hL h hk
def om_V_oneMoveFrom_b17 (F : Nat) (x2 : Int32) (x3 : Int32) (s0 : Int32) (M : om_M) : Option ((Int32 × om_M)) := (om_V_oneMoveFrom_L25 F (x2, x3, s0, (0), (0), M)).bind fun z1 => some (z1.2.1 &&& z1.1, z1.2.2)
set_option maxRecDepth 20000 in
theorem om_V_oneMoveFrom_b17_ok (F d : Nat) (hd : 0 ≤ d) {r : Option om_V} {Mf : om_M} (x2 : Int32) (x3 : Int32) (s0 : Int32) (M : om_M) (L : om_L) (hL : om_tr [true, false, true, true, false, false, false, false, false] L = [some (om_r 7), none, some (om_i x2), some (om_i x3), none, none, none, none, none]) {e : (Int32 × om_M)} (h : om_V_oneMoveFrom_b17 F x2 x3 s0 M = some e) (hk : r = some (om_i e.1) ∧ Mf = e.2) : om_G (om_Sem d) 0 om_B36 17 L [om_i s0] M r Mf := (om_gb (es := om_E36_17) rfl hL (X := om_go 25 [some (om_r 7), none, some (om_i x2), some (om_i x3), some (om_i s0), some (om_i (0)), some (om_i (0)), none, none] [] M) rfl (om_kL (P := om_V_oneMoveFrom_L25_P d r Mf) (Q := om_V_oneMoveFrom_L25_Q d r Mf) h (om_V_oneMoveFrom_L25_ok F d hd r Mf) (fun z1 hz1 => (fun Lz hLz => (om_gb (es := om_E36_106) rfl hLz (X := om_rt (some (om_i (z1.2.1 &&& z1.1))) z1.2.2) rfl (om_cm hz1 hk)))) _ rfl))
def om_V_oneMoveFrom_b0 (F : Nat) (x1 : Int32) (x2 : Int32) (x3 : Int32) (M : om_M) : Option ((Int32 × om_M)) := (if x1 = 0 then om_V_oneMoveFrom_b17 F x2 x3 (M.1 7 1) M else om_V_oneMoveFrom_b17 F x2 x3 ((M.1 7 1) ^^^ (-1)) M)
set_option maxRecDepth 20000 in
theorem om_V_oneMoveFrom_b0_ok (F d : Nat) (hd : 0 ≤ d) {r : Option om_V} {Mf : om_M} (x1 : Int32) (x2 : Int32) (x3 : Int32) (M : om_M) (L : om_L) (hL : om_tr [true, true, true, true, false, false, false, false, false] L = [some (om_r 7), some (om_i x1), some (om_i x2), some (om_i x3), none, none, none, none, none]) {e : (Int32 × om_M)} (h : om_V_oneMoveFrom_b0 F x1 x2 x3 M = some e) (hk : r = some (om_i e.1) ∧ Mf = e.2) : om_G (om_Sem d) 0 om_B36 0 L [] M r Mf := (om_gb (es := om_E36_0) rfl hL (X := (if x1 = 0 then om_go 4 [some (om_r 7), some (om_i x1), some (om_i x2), some (om_i x3), none, none, none, none, none] [] M else om_go 11 [some (om_r 7), some (om_i x1), some (om_i x2), some (om_i x3), none, none, none, none, none] [] M)) rfl (om_ki h (fun h => (om_gb (es := om_E36_4) rfl rfl (X := om_go 17 [some (om_r 7), none, some (om_i x2), some (om_i x3), none, none, none, none, none] [om_i (M.1 7 1)] M) rfl (om_V_oneMoveFrom_b17_ok F d hd x2 x3 (M.1 7 1) M _ rfl h hk))) (fun h => (om_gb (es := om_E36_11) rfl rfl (X := om_go 17 [some (om_r 7), none, some (om_i x2), some (om_i x3), none, none, none, none, none] [om_i ((M.1 7 1) ^^^ (-1))] M) rfl (om_V_oneMoveFrom_b17_ok F d hd x2 x3 ((M.1 7 1) ^^^ (-1)) M _ rfl h hk)))))
def om_V_oneMoveFrom (F : Nat) (x1 : Int32) (x2 : Int32) (x3 : Int32) (M : om_M) : Option (Int32 × om_M) := om_V_oneMoveFrom_b0 F x1 x2 x3 M
theorem om_V_oneMoveFrom_ok (F d : Nat) (hd : 1 ≤ d) {x1 : Int32} {x2 : Int32} {x3 : Int32} {M : om_M} {q : Int32 × om_M} (h : om_V_oneMoveFrom F x1 x2 x3 M = some q) : om_Sem d 36 [om_r 7, om_i x1, om_i x2, om_i x3] M (some (om_i q.1)) q.2 := om_ss hd rfl rfl rfl fun d hd => om_V_oneMoveFrom_b0_ok F d hd x1 x2 x3 M _ rfl h ⟨rfl, rfl⟩
def om_V_attracted_b50 (F : Nat) (x4 : Int32) (M : om_M) : Option ((Int32 × om_M)) := some (x4, M)
set_option maxRecDepth 20000 in
theorem om_V_attracted_b50_ok (F d : Nat) (hd : 1 ≤ d) {r : Option om_V} {Mf : om_M} (x4 : Int32) (M : om_M) (L : om_L) (hL : om_tr [false, false, false, false, true, false, false] L = [none, none, none, none, some (om_i x4), none, none]) {e : (Int32 × om_M)} (h : om_V_attracted_b50 F x4 M = some e) (hk : r = some (om_i e.1) ∧ Mf = e.2) : om_G (om_Sem d) 0 om_B37 50 L [] M r Mf := (om_gb (es := om_E37_50) rfl hL (X := om_rt (some (om_i x4)) M) rfl (om_cm h hk))
def om_V_attracted_L8_P (d : Nat) (r : Option om_V) (Mf : om_M) (x : Int32 × Int32 × Int32 × Int32 × om_M) : Prop := ∀ L, om_tr [true, true, false, true, true, true, false] L = [some (om_r 7), some (om_i x.1), none, some (om_i x.2.1), some (om_i x.2.2.1), some (om_i x.2.2.2.1), none] → om_G (om_Sem d) 0 om_B37 8 L [] x.2.2.2.2 r Mf
def om_V_attracted_L8_Q0 (d : Nat) (r : Option om_V) (Mf : om_M) (x : Int32 × om_M) : Prop := ∀ L, om_tr [false, false, false, false, true, false, false] L = [none, none, none, none, some (om_i x.1), none, none] → om_G (om_Sem d) 0 om_B37 37 L [] x.2 r Mf
def om_V_attracted_L8_Q1 (d : Nat) (r : Option om_V) (Mf : om_M) (x : Int32 × om_M) : Prop := ∀ L, om_tr [false, false, false, false, true, false, false] L = [none, none, none, none, some (om_i x.1), none, none] → om_G (om_Sem d) 0 om_B37 50 L [] x.2 r Mf
abbrev om_V_attracted_L8_Q (d : Nat) (r : Option om_V) (Mf : om_M) : ((Int32 × om_M) ⊕ (Int32 × om_M)) → Prop := Sum.elim (om_V_attracted_L8_Q0 d r Mf) (om_V_attracted_L8_Q1 d r Mf)
def om_V_attracted_b8 (F : Nat) (x1 : Int32) (x3 : Int32) (x4 : Int32) (x5 : Int32) (M : om_M) : Option ((Int32 × Int32 × Int32 × Int32 × om_M) ⊕ ((Int32 × om_M) ⊕ (Int32 × om_M))) := (if (M.1 7 0) ≤ x5 then some (.inr (.inr (x4, M))) else (om_V_oneMoveFrom F x1 x4 x3 M).bind (fun q_1 => (if (x4 ||| q_1.1) = x4 then some (.inr (.inl (x4, q_1.2))) else some (.inl (x1, x3, x4 ||| q_1.1, x5 + (1), q_1.2)))))
set_option maxRecDepth 20000 in
theorem om_V_attracted_b8_ok (F d : Nat) (hd : 1 ≤ d) {r : Option om_V} {Mf : om_M} (x1 : Int32) (x3 : Int32) (x4 : Int32) (x5 : Int32) (M : om_M) (L : om_L) (hL : om_tr [true, true, false, true, true, true, false] L = [some (om_r 7), some (om_i x1), none, some (om_i x3), some (om_i x4), some (om_i x5), none]) {e : (Int32 × Int32 × Int32 × Int32 × om_M) ⊕ ((Int32 × om_M) ⊕ (Int32 × om_M))} (h : om_V_attracted_b8 F x1 x3 x4 x5 M = some e) (hk : Sum.elim (om_V_attracted_L8_P d r Mf) (om_V_attracted_L8_Q d r Mf) e) : om_G (om_Sem d) 0 om_B37 8 L [] M r Mf := (om_gb (es := om_E37_8) rfl hL (X := (if (M.1 7 0) ≤ x5 then om_go 50 [some (om_r 7), some (om_i x1), none, some (om_i x3), some (om_i x4), some (om_i x5), none] [] M else om_go 17 [some (om_r 7), some (om_i x1), none, some (om_i x3), some (om_i x4), some (om_i x5), none] [] M)) rfl (om_ki h (fun h => ((om_cir (y := (Sum.inr (x4, M))) h hk : om_V_attracted_L8_Q1 d r Mf (x4, M)) _ rfl)) (fun h => (om_gb (es := om_E37_17) rfl rfl (X := om_ca 36 [om_r 7, om_i x1, om_i x4, om_i x3] 27 [some (om_r 7), some (om_i x1), none, some (om_i x3), some (om_i x4), some (om_i x5), none] [om_i x4] M) rfl (om_kc h (fun q_1 hq => (om_V_oneMoveFrom_ok F d (Nat.le_trans (Nat.le_of_ble_eq_true rfl) hd)) hq) fun q_1 h => (om_gb (es := om_E37_27) rfl rfl (X := (if (x4 ||| q_1.1) = x4 then om_go 37 [some (om_r 7), some (om_i x1), none, some (om_i x3), some (om_i x4), some (om_i x5), some (om_i (x4 ||| q_1.1))] [] q_1.2 else om_go 40 [some (om_r 7), some (om_i x1), none, some (om_i x3), some (om_i x4), some (om_i x5), some (om_i (x4 ||| q_1.1))] [] q_1.2)) rfl (om_ki h (fun h => ((om_cir (y := (Sum.inl (x4, q_1.2))) h hk : om_V_attracted_L8_Q0 d r Mf (x4, q_1.2)) _ rfl)) (fun h => (om_gb (es := om_E37_40) rfl rfl (X := om_go 8 [some (om_r 7), some (om_i x1), none, some (om_i x3), some (om_i (x4 ||| q_1.1)), some (om_i (x5 + (1))), some (om_i (x4 ||| q_1.1))] [] q_1.2) rfl (om_cin h hk _ rfl))))))))))
def om_V_attracted_L8_body (F : Nat) (x : Int32 × Int32 × Int32 × Int32 × om_M) : Option ((Int32 × Int32 × Int32 × Int32 × om_M) ⊕ ((Int32 × om_M) ⊕ (Int32 × om_M))) := om_V_attracted_b8 F x.1 x.2.1 x.2.2.1 x.2.2.2.1 x.2.2.2.2
def om_V_attracted_L8 (F : Nat) (x : Int32 × Int32 × Int32 × Int32 × om_M) : Option ((Int32 × om_M) ⊕ (Int32 × om_M)) := om_it (om_V_attracted_L8_body F) F x
theorem om_V_attracted_L8_ok (F d : Nat) (hd : 1 ≤ d) (r : Option om_V) (Mf : om_M) (x : Int32 × Int32 × Int32 × Int32 × om_M) (e : (Int32 × Int32 × Int32 × Int32 × om_M) ⊕ ((Int32 × om_M) ⊕ (Int32 × om_M))) (h : om_V_attracted_L8_body F x = some e) (hk : Sum.elim (om_V_attracted_L8_P d r Mf) (om_V_attracted_L8_Q d r Mf) e) : om_V_attracted_L8_P d r Mf x := fun L hL => om_V_attracted_b8_ok F d hd x.1 x.2.1 x.2.2.1 x.2.2.2.1 x.2.2.2.2 L hL h hk
def om_V_attracted_b0 (F : Nat) (x1 : Int32) (x2 : Int32) (x3 : Int32) (M : om_M) : Option ((Int32 × om_M)) := (om_V_attracted_L8 F (x1, x3, x2 &&& x3, (0), M)).bind fun z1 => Sum.elim (fun z2 => om_V_attracted_b50 F z2.1 z2.2) (fun z3 => om_V_attracted_b50 F z3.1 z3.2) z1
set_option maxRecDepth 20000 in
theorem om_V_attracted_b0_ok (F d : Nat) (hd : 1 ≤ d) {r : Option om_V} {Mf : om_M} (x1 : Int32) (x2 : Int32) (x3 : Int32) (M : om_M) (L : om_L) (hL : om_tr [true, true, true, true, false, false, false] L = [some (om_r 7), some (om_i x1), some (om_i x2), some (om_i x3), none, none, none]) {e : (Int32 × om_M)} (h : om_V_attracted_b0 F x1 x2 x3 M = some e) (hk : r = some (om_i e.1) ∧ Mf = e.2) : om_G (om_Sem d) 0 om_B37 0 L [] M r Mf := (om_gb (es := om_E37_0) rfl hL (X := om_go 8 [some (om_r 7), some (om_i x1), some (om_i x2), some (om_i x3), some (om_i (x2 &&& x3)), some (om_i (0)), none] [] M) rfl (om_kL (P := om_V_attracted_L8_P d r Mf) (Q := om_V_attracted_L8_Q d r Mf) h (om_V_attracted_L8_ok F d hd r Mf) (fun z1 hz1 => (om_sd hz1 (fun z2 hz2 => (fun Lz hLz => (om_gb (es := om_E37_37) rfl hLz (X := om_go 50 [none, none, none, none, some (om_i z2.1), none, none] [] z2.2) rfl (om_V_attracted_b50_ok F d hd z2.1 z2.2 _ rfl hz2 hk)))) (fun z3 hz3 => (fun Lz hLz => (om_V_attracted_b50_ok F d hd z3.1 z3.2 _ hLz hz3 hk))))) _ rfl))
def om_V_attracted (F : Nat) (x1 : Int32) (x2 : Int32) (x3 : Int32) (M : om_M) : Option (Int32 × om_M) := om_V_attracted_b0 F x1 x2 x3 M
theorem om_V_attracted_ok (F d : Nat) (hd : 2 ≤ d) {x1 : Int32} {x2 : Int32} {x3 : Int32} {M : om_M} {q : Int32 × om_M} (h : om_V_attracted F x1 x2 x3 M = some q) : om_Sem d 37 [om_r 7, om_i x1, om_i x2, om_i x3] M (some (om_i q.1)) q.2 := om_ss hd rfl rfl rfl fun d hd => om_V_attracted_b0_ok F d hd x1 x2 x3 M _ rfl h ⟨rfl, rfl⟩
def om_D_nearest_L7_P (d : Nat) (r : Option om_V) (Mf : om_M) (x : Int32 × Int32 × om_M) : Prop := ∀ L, om_tr [true, true, true, false, false, false, false] L = [some (om_r 46), some (om_i x.1), some (om_i x.2.1), none, none, none, none] → om_G (om_Sem d) 0 om_B157 7 L [] x.2.2 r Mf
def om_D_nearest_L7_Q0 (d : Nat) (r : Option om_V) (Mf : om_M) (x : om_M) : Prop := ∀ L, om_tr [false, false, false, false, false, false, false] L = [none, none, none, none, none, none, none] → om_G (om_Sem d) 0 om_B157 127 L [] x r Mf
abbrev om_D_nearest_L7_Q (d : Nat) (r : Option om_V) (Mf : om_M) : (om_M) → Prop := om_D_nearest_L7_Q0 d r Mf
def om_D_nearest_b123 (F : Nat) (x1 : Int32) (s0 : Int32) (M : om_M) : Option ((Int32 × Int32 × om_M) ⊕ ((om_M))) := some (.inl (x1, s0, M))
set_option maxRecDepth 20000 in
theorem om_D_nearest_b123_ok (F d : Nat) (hd : 0 ≤ d) {r : Option om_V} {Mf : om_M} (x1 : Int32) (s0 : Int32) (M : om_M) (L : om_L) (hL : om_tr [true, true, false, false, false, false, false] L = [some (om_r 46), some (om_i x1), none, none, none, none, none]) {e : (Int32 × Int32 × om_M) ⊕ ((om_M))} (h : om_D_nearest_b123 F x1 s0 M = some e) (hk : Sum.elim (om_D_nearest_L7_P d r Mf) (om_D_nearest_L7_Q d r Mf) e) : om_G (om_Sem d) 0 om_B157 123 L [om_i s0] M r Mf := (om_gb (es := om_E157_123) rfl hL (X := om_go 7 [some (om_r 46), some (om_i x1), some (om_i s0), none, none, none, none] [] M) rfl (om_cin h hk _ rfl))
def om_D_nearest_b105 (F : Nat) (x1 : Int32) (s0 : Int64) (M : om_M) : Option ((Int32 × Int32 × om_M) ⊕ ((om_M))) := (if 0 < (lg_cmp s0 ((80) * ((M.1 46 24 : Int32).toInt64))) then om_D_nearest_b123 F x1 (0) M else om_D_nearest_b123 F x1 (1) M)
set_option maxRecDepth 20000 in
theorem om_D_nearest_b105_ok (F d : Nat) (hd : 0 ≤ d) {r : Option om_V} {Mf : om_M} (x1 : Int32) (s0 : Int64) (M : om_M) (L : om_L) (hL : om_tr [true, true, false, false, false, false, false] L = [some (om_r 46), some (om_i x1), none, none, none, none, none]) {e : (Int32 × Int32 × om_M) ⊕ ((om_M))} (h : om_D_nearest_b105 F x1 s0 M = some e) (hk : Sum.elim (om_D_nearest_L7_P d r Mf) (om_D_nearest_L7_Q d r Mf) e) : om_G (om_Sem d) 0 om_B157 105 L [om_l s0] M r Mf := (om_gb (es := om_E157_105) rfl hL (X := (if 0 < (lg_cmp s0 ((80) * ((M.1 46 24 : Int32).toInt64))) then om_go 122 [some (om_r 46), some (om_i x1), none, none, none, none, none] [] M else om_go 118 [some (om_r 46), some (om_i x1), none, none, none, none, none] [] M)) rfl (om_ki h (fun h => (om_gb (es := om_E157_122) rfl rfl (X := om_go 123 [some (om_r 46), some (om_i x1), none, none, none, none, none] [om_i (0)] M) rfl (om_D_nearest_b123_ok F d hd x1 (0) M _ rfl h hk))) (fun h => (om_gb (es := om_E157_118) rfl rfl (X := om_go 123 [some (om_r 46), some (om_i x1), none, none, none, none, none] [om_i (1)] M) rfl (om_D_nearest_b123_ok F d hd x1 (1) M _ rfl h hk)))))
def om_D_nearest_b66 (F : Nat) (x1 : Int32) (s0 : Int64) (M : om_M) : Option ((Int32 × Int32 × om_M) ⊕ ((om_M))) := (if 0 ≤ (lg_cmp ((((x1 : Int32).toInt64) * (((om_up M 46 23 ((s0 : Int64).toInt32)).1 46 24 : Int32).toInt64)) - ((((om_up M 46 23 ((s0 : Int64).toInt32)).1 46 23 : Int32).toInt64) * (9000))) (0)) then om_D_nearest_b105 F x1 ((((x1 : Int32).toInt64) * (((om_up M 46 23 ((s0 : Int64).toInt32)).1 46 24 : Int32).toInt64)) - ((((om_up M 46 23 ((s0 : Int64).toInt32)).1 46 23 : Int32).toInt64) * (9000))) (om_up M 46 23 ((s0 : Int64).toInt32)) else om_D_nearest_b105 F x1 (-((((x1 : Int32).toInt64) * (((om_up M 46 23 ((s0 : Int64).toInt32)).1 46 24 : Int32).toInt64)) - ((((om_up M 46 23 ((s0 : Int64).toInt32)).1 46 23 : Int32).toInt64) * (9000)))) (om_up M 46 23 ((s0 : Int64).toInt32)))
set_option maxRecDepth 20000 in
theorem om_D_nearest_b66_ok (F d : Nat) (hd : 0 ≤ d) {r : Option om_V} {Mf : om_M} (x1 : Int32) (s0 : Int64) (M : om_M) (L : om_L) (hL : om_tr [true, true, false, false, false, false, false] L = [some (om_r 46), some (om_i x1), none, none, none, none, none]) {e : (Int32 × Int32 × om_M) ⊕ ((om_M))} (h : om_D_nearest_b66 F x1 s0 M = some e) (hk : Sum.elim (om_D_nearest_L7_P d r Mf) (om_D_nearest_L7_Q d r Mf) e) : om_G (om_Sem d) 0 om_B157 66 L [om_l s0, om_r 46] M r Mf := (om_gb (es := om_E157_66) rfl hL (X := (if 0 ≤ (lg_cmp ((((x1 : Int32).toInt64) * (((om_up M 46 23 ((s0 : Int64).toInt32)).1 46 24 : Int32).toInt64)) - ((((om_up M 46 23 ((s0 : Int64).toInt32)).1 46 23 : Int32).toInt64) * (9000))) (0)) then om_go 103 [some (om_r 46), some (om_i x1), none, none, none, some (om_l ((((x1 : Int32).toInt64) * (((om_up M 46 23 ((s0 : Int64).toInt32)).1 46 24 : Int32).toInt64)) - ((((om_up M 46 23 ((s0 : Int64).toInt32)).1 46 23 : Int32).toInt64) * (9000)))), none] [] (om_up M 46 23 ((s0 : Int64).toInt32)) else om_go 97 [some (om_r 46), some (om_i x1), none, none, none, some (om_l ((((x1 : Int32).toInt64) * (((om_up M 46 23 ((s0 : Int64).toInt32)).1 46 24 : Int32).toInt64)) - ((((om_up M 46 23 ((s0 : Int64).toInt32)).1 46 23 : Int32).toInt64) * (9000)))), none] [] (om_up M 46 23 ((s0 : Int64).toInt32)))) rfl (om_ki h (fun h => (om_gb (es := om_E157_103) rfl rfl (X := om_go 105 [some (om_r 46), some (om_i x1), none, none, none, some (om_l ((((x1 : Int32).toInt64) * (((om_up M 46 23 ((s0 : Int64).toInt32)).1 46 24 : Int32).toInt64)) - ((((om_up M 46 23 ((s0 : Int64).toInt32)).1 46 23 : Int32).toInt64) * (9000)))), none] [om_l ((((x1 : Int32).toInt64) * (((om_up M 46 23 ((s0 : Int64).toInt32)).1 46 24 : Int32).toInt64)) - ((((om_up M 46 23 ((s0 : Int64).toInt32)).1 46 23 : Int32).toInt64) * (9000)))] (om_up M 46 23 ((s0 : Int64).toInt32))) rfl (om_D_nearest_b105_ok F d hd x1 ((((x1 : Int32).toInt64) * (((om_up M 46 23 ((s0 : Int64).toInt32)).1 46 24 : Int32).toInt64)) - ((((om_up M 46 23 ((s0 : Int64).toInt32)).1 46 23 : Int32).toInt64) * (9000))) (om_up M 46 23 ((s0 : Int64).toInt32)) _ rfl h hk))) (fun h => (om_gb (es := om_E157_97) rfl rfl (X := om_go 105 [some (om_r 46), some (om_i x1), none, none, none, some (om_l ((((x1 : Int32).toInt64) * (((om_up M 46 23 ((s0 : Int64).toInt32)).1 46 24 : Int32).toInt64)) - ((((om_up M 46 23 ((s0 : Int64).toInt32)).1 46 23 : Int32).toInt64) * (9000)))), none] [om_l (-((((x1 : Int32).toInt64) * (((om_up M 46 23 ((s0 : Int64).toInt32)).1 46 24 : Int32).toInt64)) - ((((om_up M 46 23 ((s0 : Int64).toInt32)).1 46 23 : Int32).toInt64) * (9000))))] (om_up M 46 23 ((s0 : Int64).toInt32))) rfl (om_D_nearest_b105_ok F d hd x1 (-((((x1 : Int32).toInt64) * (((om_up M 46 23 ((s0 : Int64).toInt32)).1 46 24 : Int32).toInt64)) - ((((om_up M 46 23 ((s0 : Int64).toInt32)).1 46 23 : Int32).toInt64) * (9000)))) (om_up M 46 23 ((s0 : Int64).toInt32)) _ rfl h hk)))))
def om_D_nearest_b7 (F : Nat) (x1 : Int32) (x2 : Int32) (M : om_M) : Option ((Int32 × Int32 × om_M) ⊕ ((om_M))) := (if x2 = 0 then (if (lg_cmp ((((2) * ((x1 : Int32).toInt64)) * (((om_up M 46 24 ((M.1 46 24) + (1))).1 46 24 : Int32).toInt64)) + (9000)) (0)) < 0 then (bif !decide ((18000) = 0) then om_D_nearest_b66 F x1 (-((((-((((2) * ((x1 : Int32).toInt64)) * (((om_up M 46 24 ((M.1 46 24) + (1))).1 46 24 : Int32).toInt64)) + (9000))) + (18000)) - (1)) / (18000))) (om_up M 46 24 ((M.1 46 24) + (1))) else none) else (bif !decide ((18000) = 0) then om_D_nearest_b66 F x1 (((((2) * ((x1 : Int32).toInt64)) * (((om_up M 46 24 ((M.1 46 24) + (1))).1 46 24 : Int32).toInt64)) + (9000)) / (18000)) (om_up M 46 24 ((M.1 46 24) + (1))) else none)) else some (.inr M))
set_option maxRecDepth 20000 in
theorem om_D_nearest_b7_ok (F d : Nat) (hd : 0 ≤ d) {r : Option om_V} {Mf : om_M} (x1 : Int32) (x2 : Int32) (M : om_M) (L : om_L) (hL : om_tr [true, true, true, false, false, false, false] L = [some (om_r 46), some (om_i x1), some (om_i x2), none, none, none, none]) {e : (Int32 × Int32 × om_M) ⊕ ((om_M))} (h : om_D_nearest_b7 F x1 x2 M = some e) (hk : Sum.elim (om_D_nearest_L7_P d r Mf) (om_D_nearest_L7_Q d r Mf) e) : om_G (om_Sem d) 0 om_B157 7 L [] M r Mf := (om_gb (es := om_E157_7) rfl hL (X := (if x2 = 0 then om_go 11 [some (om_r 46), some (om_i x1), some (om_i x2), none, none, none, none] [] M else om_go 127 [some (om_r 46), some (om_i x1), some (om_i x2), none, none, none, none] [] M)) rfl (om_ki h (fun h => (om_gb (es := om_E157_11) rfl rfl (X := (if (lg_cmp ((((2) * ((x1 : Int32).toInt64)) * (((om_up M 46 24 ((M.1 46 24) + (1))).1 46 24 : Int32).toInt64)) + (9000)) (0)) < 0 then om_go 53 [some (om_r 46), some (om_i x1), none, some (om_l ((((2) * ((x1 : Int32).toInt64)) * (((om_up M 46 24 ((M.1 46 24) + (1))).1 46 24 : Int32).toInt64)) + (9000))), none, none, none] [om_r 46] (om_up M 46 24 ((M.1 46 24) + (1))) else om_go 45 [some (om_r 46), some (om_i x1), none, some (om_l ((((2) * ((x1 : Int32).toInt64)) * (((om_up M 46 24 ((M.1 46 24) + (1))).1 46 24 : Int32).toInt64)) + (9000))), none, none, none] [om_r 46] (om_up M 46 24 ((M.1 46 24) + (1))))) rfl (om_ki h (fun h => (om_gb (es := om_E157_53) rfl rfl (X := (bif decide ((18000) = 0) then om_no else om_go 66 [some (om_r 46), some (om_i x1), none, some (om_l ((((2) * ((x1 : Int32).toInt64)) * (((om_up M 46 24 ((M.1 46 24) + (1))).1 46 24 : Int32).toInt64)) + (9000))), none, none, none] [om_l (-((((-((((2) * ((x1 : Int32).toInt64)) * (((om_up M 46 24 ((M.1 46 24) + (1))).1 46 24 : Int32).toInt64)) + (9000))) + (18000)) - (1)) / (18000))), om_r 46] (om_up M 46 24 ((M.1 46 24) + (1))))) rfl (om_kdv h fun h => (om_D_nearest_b66_ok F d hd x1 (-((((-((((2) * ((x1 : Int32).toInt64)) * (((om_up M 46 24 ((M.1 46 24) + (1))).1 46 24 : Int32).toInt64)) + (9000))) + (18000)) - (1)) / (18000))) (om_up M 46 24 ((M.1 46 24) + (1))) _ rfl h hk)))) (fun h => (om_gb (es := om_E157_45) rfl rfl (X := (bif decide ((18000) = 0) then om_no else om_go 66 [some (om_r 46), some (om_i x1), none, some (om_l ((((2) * ((x1 : Int32).toInt64)) * (((om_up M 46 24 ((M.1 46 24) + (1))).1 46 24 : Int32).toInt64)) + (9000))), none, none, none] [om_l (((((2) * ((x1 : Int32).toInt64)) * (((om_up M 46 24 ((M.1 46 24) + (1))).1 46 24 : Int32).toInt64)) + (9000)) / (18000)), om_r 46] (om_up M 46 24 ((M.1 46 24) + (1))))) rfl (om_kdv h fun h => (om_D_nearest_b66_ok F d hd x1 (((((2) * ((x1 : Int32).toInt64)) * (((om_up M 46 24 ((M.1 46 24) + (1))).1 46 24 : Int32).toInt64)) + (9000)) / (18000)) (om_up M 46 24 ((M.1 46 24) + (1))) _ rfl h hk))))))) (fun h => ((om_cir (y := M) h hk : om_D_nearest_L7_Q0 d r Mf M) _ rfl))))
def om_D_nearest_L7_body (F : Nat) (x : Int32 × Int32 × om_M) : Option ((Int32 × Int32 × om_M) ⊕ ((om_M))) := om_D_nearest_b7 F x.1 x.2.1 x.2.2
def om_D_nearest_L7 (F : Nat) (x : Int32 × Int32 × om_M) : Option ((om_M)) := om_it (om_D_nearest_L7_body F) F x
theorem om_D_nearest_L7_ok (F d : Nat) (hd : 0 ≤ d) (r : Option om_V) (Mf : om_M) (x : Int32 × Int32 × om_M) (e : (Int32 × Int32 × om_M) ⊕ ((om_M))) (h : om_D_nearest_L7_body F x = some e) (hk : Sum.elim (om_D_nearest_L7_P d r Mf) (om_D_nearest_L7_Q d r Mf) e) : om_D_nearest_L7_P d r Mf x := fun L hL => om_D_nearest_b7_ok F d hd x.1 x.2.1 x.2.2 L hL h hk
def om_D_nearest_b0 (F : Nat) (x1 : Int32) (M : om_M) : Option ((om_M)) := (om_D_nearest_L7 F (x1, (0), (om_up M 46 24 (0)))).bind fun z1 => some z1
set_option maxRecDepth 20000 in
theorem om_D_nearest_b0_ok (F d : Nat) (hd : 0 ≤ d) {r : Option om_V} {Mf : om_M} (x1 : Int32) (M : om_M) (L : om_L) (hL : om_tr [true, true, false, false, false, false, false] L = [some (om_r 46), some (om_i x1), none, none, none, none, none]) {e : (om_M)} (h : om_D_nearest_b0 F x1 M = some e) (hk : r = none ∧ Mf = e) : om_G (om_Sem d) 0 om_B157 0 L [] M r Mf := (om_gb (es := om_E157_0) rfl hL (X := om_go 7 [some (om_r 46), some (om_i x1), some (om_i (0)), none, none, none, none] [] (om_up M 46 24 (0))) rfl (om_kL (P := om_D_nearest_L7_P d r Mf) (Q := om_D_nearest_L7_Q d r Mf) h (om_D_nearest_L7_ok F d hd r Mf) (fun z1 hz1 => (fun Lz hLz => (om_gb (es := om_E157_127) rfl hLz (X := om_rt none z1) rfl (om_cmv hz1 hk)))) _ rfl))
def om_D_nearest (F : Nat) (x1 : Int32) (M : om_M) : Option (om_M) := om_D_nearest_b0 F x1 M
theorem om_D_nearest_ok (F d : Nat) (hd : 1 ≤ d) {x1 : Int32} {M : om_M} {q : om_M} (h : om_D_nearest F x1 M = some q) : om_Sem d 157 [om_r 46, om_i x1] M none q := om_ss hd rfl rfl rfl fun d hd => om_D_nearest_b0_ok F d hd x1 M _ rfl h ⟨rfl, rfl⟩
def om_D_divisor_L4_P (d : Nat) (r : Option om_V) (Mf : om_M) (x : Int32 × Int32 × om_M) : Prop := ∀ L, om_tr [false, false, true, true, false] L = [none, none, some (om_i x.1), some (om_i x.2.1), none] → om_G (om_Sem d) 0 om_B172 4 L [] x.2.2 r Mf
def om_D_divisor_L4_Q0 (d : Nat) (r : Option om_V) (Mf : om_M) (x : Int32 × om_M) : Prop := ∀ L, om_tr [false, false, true, false, false] L = [none, none, some (om_i x.1), none, none] → om_G (om_Sem d) 0 om_B172 21 L [] x.2 r Mf
abbrev om_D_divisor_L4_Q (d : Nat) (r : Option om_V) (Mf : om_M) : (Int32 × om_M) → Prop := om_D_divisor_L4_Q0 d r Mf
def om_D_divisor_b4 (F : Nat) (x2 : Int32) (x3 : Int32) (M : om_M) : Option ((Int32 × Int32 × om_M) ⊕ ((Int32 × om_M))) := (if x3 = 0 then some (.inr (x2, M)) else (bif !decide (x3 = 0) then some (.inl (x3, x2 - x2 / x3 * x3, M)) else none))
set_option maxRecDepth 20000 in
theorem om_D_divisor_b4_ok (F d : Nat) (hd : 0 ≤ d) {r : Option om_V} {Mf : om_M} (x2 : Int32) (x3 : Int32) (M : om_M) (L : om_L) (hL : om_tr [false, false, true, true, false] L = [none, none, some (om_i x2), some (om_i x3), none]) {e : (Int32 × Int32 × om_M) ⊕ ((Int32 × om_M))} (h : om_D_divisor_b4 F x2 x3 M = some e) (hk : Sum.elim (om_D_divisor_L4_P d r Mf) (om_D_divisor_L4_Q d r Mf) e) : om_G (om_Sem d) 0 om_B172 4 L [] M r Mf := (om_gb (es := om_E172_4) rfl hL (X := (if x3 = 0 then om_go 21 [none, none, some (om_i x2), some (om_i x3), none] [] M else om_go 8 [none, none, some (om_i x2), some (om_i x3), none] [] M)) rfl (om_ki h (fun h => ((om_cir (y := (x2, M)) h hk : om_D_divisor_L4_Q0 d r Mf (x2, M)) _ rfl)) (fun h => (om_gb (es := om_E172_8) rfl rfl (X := (bif decide (x3 = 0) then om_no else om_go 4 [none, none, some (om_i x3), some (om_i (x2 - x2 / x3 * x3)), some (om_i (x2 - x2 / x3 * x3))] [] M)) rfl (om_kdv h fun h => (om_cin h hk _ rfl))))))
def om_D_divisor_L4_body (F : Nat) (x : Int32 × Int32 × om_M) : Option ((Int32 × Int32 × om_M) ⊕ ((Int32 × om_M))) := om_D_divisor_b4 F x.1 x.2.1 x.2.2
def om_D_divisor_L4 (F : Nat) (x : Int32 × Int32 × om_M) : Option ((Int32 × om_M)) := om_it (om_D_divisor_L4_body F) F x
theorem om_D_divisor_L4_ok (F d : Nat) (hd : 0 ≤ d) (r : Option om_V) (Mf : om_M) (x : Int32 × Int32 × om_M) (e : (Int32 × Int32 × om_M) ⊕ ((Int32 × om_M))) (h : om_D_divisor_L4_body F x = some e) (hk : Sum.elim (om_D_divisor_L4_P d r Mf) (om_D_divisor_L4_Q d r Mf) e) : om_D_divisor_L4_P d r Mf x := fun L hL => om_D_divisor_b4_ok F d hd x.1 x.2.1 x.2.2 L hL h hk
def om_D_divisor_b0 (F : Nat) (x0 : Int32) (x1 : Int32) (M : om_M) : Option ((Int32 × om_M)) := (om_D_divisor_L4 F (x0, x1, M)).bind fun z1 => some (z1.1, z1.2)
set_option maxRecDepth 20000 in
theorem om_D_divisor_b0_ok (F d : Nat) (hd : 0 ≤ d) {r : Option om_V} {Mf : om_M} (x0 : Int32) (x1 : Int32) (M : om_M) (L : om_L) (hL : om_tr [true, true, false, false, false] L = [some (om_i x0), some (om_i x1), none, none, none]) {e : (Int32 × om_M)} (h : om_D_divisor_b0 F x0 x1 M = some e) (hk : r = some (om_i e.1) ∧ Mf = e.2) : om_G (om_Sem d) 0 om_B172 0 L [] M r Mf := (om_gb (es := om_E172_0) rfl hL (X := om_go 4 [some (om_i x0), some (om_i x1), some (om_i x0), some (om_i x1), none] [] M) rfl (om_kL (P := om_D_divisor_L4_P d r Mf) (Q := om_D_divisor_L4_Q d r Mf) h (om_D_divisor_L4_ok F d hd r Mf) (fun z1 hz1 => (fun Lz hLz => (om_gb (es := om_E172_21) rfl hLz (X := om_rt (some (om_i z1.1)) z1.2) rfl (om_cm hz1 hk)))) _ rfl))
def om_D_divisor (F : Nat) (x0 : Int32) (x1 : Int32) (M : om_M) : Option (Int32 × om_M) := om_D_divisor_b0 F x0 x1 M
theorem om_D_divisor_ok (F d : Nat) (hd : 1 ≤ d) {x0 : Int32} {x1 : Int32} {M : om_M} {q : Int32 × om_M} (h : om_D_divisor F x0 x1 M = some q) : om_Sem d 172 [om_i x0, om_i x1] M (some (om_i q.1)) q.2 := om_ss hd rfl rfl rfl fun d hd => om_D_divisor_b0_ok F d hd x0 x1 M _ rfl h ⟨rfl, rfl⟩
end
