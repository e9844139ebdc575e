section
-- ===== PART A: goes FIRST, ahead of the names: the tables' words, and 'selects' of the private methods out of them =====
/-- a private method of a class that the tables say can be made, by its rows of tables_1 -/
def lw_okq (q : MethodName × Nat) : Prop := (q.1.cls ≠ "java/lang/invoke/MethodHandle" ∧ q.1.cls ≠ "java/lang/invoke/VarHandle") ∧ Cond.instantiable q.1.cls q.2 ∈ tables_1 ∧ Cond.privateMethod q.1 ∈ tables_1 ∧ Cond.instanceMethod q.1 ∈ tables_1
theorem lw_p0 : lw_okq (⟨"ShrinkingCalls$TextReader", "advance", "()V"⟩, 8) := ⟨⟨by decide +kernel, by decide +kernel⟩, List.mem_of_getElem? (i := 29) (by decide +kernel), List.mem_of_getElem? (i := 306) (by decide +kernel), List.mem_of_getElem? (i := 307) (by decide +kernel)⟩
theorem lw_p1 : lw_okq (⟨"ShrinkingCalls$TextReader", "isLetter", "(I)Z"⟩, 8) := ⟨⟨by decide +kernel, by decide +kernel⟩, List.mem_of_getElem? (i := 29) (by decide +kernel), List.mem_of_getElem? (i := 310) (by decide +kernel), List.mem_of_getElem? (i := 311) (by decide +kernel)⟩
theorem lw_p2 : lw_okq (⟨"ShrinkingCalls$TextReader", "scanWord", "()V"⟩, 8) := ⟨⟨by decide +kernel, by decide +kernel⟩, List.mem_of_getElem? (i := 29) (by decide +kernel), List.mem_of_getElem? (i := 314) (by decide +kernel), List.mem_of_getElem? (i := 315) (by decide +kernel)⟩
theorem lw_p3 : lw_okq (⟨"ShrinkingCalls$TextReader", "isWord", "(Ljava/lang/String;)Z"⟩, 8) := ⟨⟨by decide +kernel, by decide +kernel⟩, List.mem_of_getElem? (i := 29) (by decide +kernel), List.mem_of_getElem? (i := 319) (by decide +kernel), List.mem_of_getElem? (i := 320) (by decide +kernel)⟩
theorem lw_p4 : lw_okq (⟨"ShrinkingCalls$TextReader", "isFigure", "(I)Z"⟩, 8) := ⟨⟨by decide +kernel, by decide +kernel⟩, List.mem_of_getElem? (i := 29) (by decide +kernel), List.mem_of_getElem? (i := 372) (by decide +kernel), List.mem_of_getElem? (i := 373) (by decide +kernel)⟩
theorem lw_p5 : lw_okq (⟨"ShrinkingCalls$TextReader", "scanNumber", "()V"⟩, 8) := ⟨⟨by decide +kernel, by decide +kernel⟩, List.mem_of_getElem? (i := 29) (by decide +kernel), List.mem_of_getElem? (i := 376) (by decide +kernel), List.mem_of_getElem? (i := 377) (by decide +kernel)⟩
theorem lw_p6 : lw_okq (⟨"ShrinkingCalls$TextReader", "scanSign", "(I)V"⟩, 8) := ⟨⟨by decide +kernel, by decide +kernel⟩, List.mem_of_getElem? (i := 29) (by decide +kernel), List.mem_of_getElem? (i := 380) (by decide +kernel), List.mem_of_getElem? (i := 381) (by decide +kernel)⟩
theorem lw_p7 : lw_okq (⟨"ShrinkingCalls$TextReader", "readAct", "(LShrinkingCalls$Book;)V"⟩, 8) := ⟨⟨by decide +kernel, by decide +kernel⟩, List.mem_of_getElem? (i := 29) (by decide +kernel), List.mem_of_getElem? (i := 384) (by decide +kernel), List.mem_of_getElem? (i := 385) (by decide +kernel)⟩
theorem lw_p8 : lw_okq (⟨"ShrinkingCalls$TextReader", "stands", "(Z)Z"⟩, 8) := ⟨⟨by decide +kernel, by decide +kernel⟩, List.mem_of_getElem? (i := 29) (by decide +kernel), List.mem_of_getElem? (i := 388) (by decide +kernel), List.mem_of_getElem? (i := 389) (by decide +kernel)⟩
theorem lw_p9 : lw_okq (⟨"ShrinkingCalls$TextReader", "readCall", "(LShrinkingCalls$Book;)V"⟩, 8) := ⟨⟨by decide +kernel, by decide +kernel⟩, List.mem_of_getElem? (i := 29) (by decide +kernel), List.mem_of_getElem? (i := 392) (by decide +kernel), List.mem_of_getElem? (i := 393) (by decide +kernel)⟩
theorem lw_p10 : lw_okq (⟨"ShrinkingCalls$TextReader", "readArc", "(LShrinkingCalls$Book;I)V"⟩, 8) := ⟨⟨by decide +kernel, by decide +kernel⟩, List.mem_of_getElem? (i := 29) (by decide +kernel), List.mem_of_getElem? (i := 400) (by decide +kernel), List.mem_of_getElem? (i := 401) (by decide +kernel)⟩
theorem lw_p11 : lw_okq (⟨"ShrinkingCalls", "forgetWhatFollows", "()V"⟩, 9) := ⟨⟨by decide +kernel, by decide +kernel⟩, List.mem_of_getElem? (i := 21) (by decide +kernel), List.mem_of_getElem? (i := 424) (by decide +kernel), List.mem_of_getElem? (i := 425) (by decide +kernel)⟩
theorem lw_p12 : lw_okq (⟨"ShrinkingCalls", "isLarge", "()Z"⟩, 9) := ⟨⟨by decide +kernel, by decide +kernel⟩, List.mem_of_getElem? (i := 21) (by decide +kernel), List.mem_of_getElem? (i := 470) (by decide +kernel), List.mem_of_getElem? (i := 471) (by decide +kernel)⟩
theorem lw_p13 : lw_okq (⟨"ShrinkingCalls$Closure", "prepare", "(II)V"⟩, 12) := ⟨⟨by decide +kernel, by decide +kernel⟩, List.mem_of_getElem? (i := 125) (by decide +kernel), List.mem_of_getElem? (i := 478) (by decide +kernel), List.mem_of_getElem? (i := 479) (by decide +kernel)⟩
theorem lw_p14 : lw_okq (⟨"ShrinkingCalls$Closure", "add", "(III)V"⟩, 12) := ⟨⟨by decide +kernel, by decide +kernel⟩, List.mem_of_getElem? (i := 125) (by decide +kernel), List.mem_of_getElem? (i := 488) (by decide +kernel), List.mem_of_getElem? (i := 489) (by decide +kernel)⟩
theorem lw_p15 : lw_okq (⟨"ShrinkingCalls$Closure", "freeSlotFor", "(I)I"⟩, 12) := ⟨⟨by decide +kernel, by decide +kernel⟩, List.mem_of_getElem? (i := 125) (by decide +kernel), List.mem_of_getElem? (i := 492) (by decide +kernel), List.mem_of_getElem? (i := 493) (by decide +kernel)⟩
def lw_privs_1 : List (MethodName × Nat) := [(⟨"ShrinkingCalls$TextReader", "advance", "()V"⟩, 8), (⟨"ShrinkingCalls$TextReader", "isLetter", "(I)Z"⟩, 8), (⟨"ShrinkingCalls$TextReader", "scanWord", "()V"⟩, 8), (⟨"ShrinkingCalls$TextReader", "isWord", "(Ljava/lang/String;)Z"⟩, 8), (⟨"ShrinkingCalls$TextReader", "isFigure", "(I)Z"⟩, 8), (⟨"ShrinkingCalls$TextReader", "scanNumber", "()V"⟩, 8), (⟨"ShrinkingCalls$TextReader", "scanSign", "(I)V"⟩, 8), (⟨"ShrinkingCalls$TextReader", "readAct", "(LShrinkingCalls$Book;)V"⟩, 8), (⟨"ShrinkingCalls$TextReader", "stands", "(Z)Z"⟩, 8), (⟨"ShrinkingCalls$TextReader", "readCall", "(LShrinkingCalls$Book;)V"⟩, 8), (⟨"ShrinkingCalls$TextReader", "readArc", "(LShrinkingCalls$Book;I)V"⟩, 8), (⟨"ShrinkingCalls", "forgetWhatFollows", "()V"⟩, 9), (⟨"ShrinkingCalls", "isLarge", "()Z"⟩, 9), (⟨"ShrinkingCalls$Closure", "prepare", "(II)V"⟩, 12), (⟨"ShrinkingCalls$Closure", "add", "(III)V"⟩, 12), (⟨"ShrinkingCalls$Closure", "freeSlotFor", "(I)I"⟩, 12)]
theorem lw_r1 : ∀ q ∈ lw_privs_1, lw_okq q := List.forall_mem_cons.mpr ⟨lw_p0, List.forall_mem_cons.mpr ⟨lw_p1, List.forall_mem_cons.mpr ⟨lw_p2, List.forall_mem_cons.mpr ⟨lw_p3, List.forall_mem_cons.mpr ⟨lw_p4, List.forall_mem_cons.mpr ⟨lw_p5, List.forall_mem_cons.mpr ⟨lw_p6, List.forall_mem_cons.mpr ⟨lw_p7, List.forall_mem_cons.mpr ⟨lw_p8, List.forall_mem_cons.mpr ⟨lw_p9, List.forall_mem_cons.mpr ⟨lw_p10, List.forall_mem_cons.mpr ⟨lw_p11, List.forall_mem_cons.mpr ⟨lw_p12, List.forall_mem_cons.mpr ⟨lw_p13, List.forall_mem_cons.mpr ⟨lw_p14, List.forall_mem_cons.mpr ⟨lw_p15, fun _ h => absurd h List.not_mem_nil⟩⟩⟩⟩⟩⟩⟩⟩⟩⟩⟩⟩⟩⟩⟩⟩
theorem lw_p16 : lw_okq (⟨"ShrinkingCalls$Closure", "noteBad", "(I)V"⟩, 12) := ⟨⟨by decide +kernel, by decide +kernel⟩, List.mem_of_getElem? (i := 125) (by decide +kernel), List.mem_of_getElem? (i := 518) (by decide +kernel), List.mem_of_getElem? (i := 519) (by decide +kernel)⟩
theorem lw_p17 : lw_okq (⟨"ShrinkingCalls$Closure", "goOnFrom", "(ILShrinkingCalls$Book;I)V"⟩, 12) := ⟨⟨by decide +kernel, by decide +kernel⟩, List.mem_of_getElem? (i := 125) (by decide +kernel), List.mem_of_getElem? (i := 523) (by decide +kernel), List.mem_of_getElem? (i := 524) (by decide +kernel)⟩
theorem lw_p18 : lw_okq (⟨"ShrinkingCalls$Closure", "joinedWithCall", "(II)I"⟩, 12) := ⟨⟨by decide +kernel, by decide +kernel⟩, List.mem_of_getElem? (i := 125) (by decide +kernel), List.mem_of_getElem? (i := 528) (by decide +kernel), List.mem_of_getElem? (i := 529) (by decide +kernel)⟩
theorem lw_p19 : lw_okq (⟨"ShrinkingCalls$Closure", "sortByGap", "(I)V"⟩, 12) := ⟨⟨by decide +kernel, by decide +kernel⟩, List.mem_of_getElem? (i := 125) (by decide +kernel), List.mem_of_getElem? (i := 544) (by decide +kernel), List.mem_of_getElem? (i := 545) (by decide +kernel)⟩
theorem lw_p20 : lw_okq (⟨"ShrinkingCalls$Mending", "mends", "(LShrinkingCalls$Book;I)Z"⟩, 8) := ⟨⟨by decide +kernel, by decide +kernel⟩, List.mem_of_getElem? (i := 177) (by decide +kernel), List.mem_of_getElem? (i := 658) (by decide +kernel), List.mem_of_getElem? (i := 659) (by decide +kernel)⟩
theorem lw_p21 : lw_okq (⟨"ShrinkingCalls$Mending", "tryKept", "(LShrinkingCalls$Book;I)V"⟩, 8) := ⟨⟨by decide +kernel, by decide +kernel⟩, List.mem_of_getElem? (i := 177) (by decide +kernel), List.mem_of_getElem? (i := 676) (by decide +kernel), List.mem_of_getElem? (i := 677) (by decide +kernel)⟩
theorem lw_p22 : lw_okq (⟨"ShrinkingCalls$Runs", "fits", "(IZ)Z"⟩, 6) := ⟨⟨by decide +kernel, by decide +kernel⟩, List.mem_of_getElem? (i := 211) (by decide +kernel), List.mem_of_getElem? (i := 699) (by decide +kernel), List.mem_of_getElem? (i := 700) (by decide +kernel)⟩
theorem lw_p23 : lw_okq (⟨"ShrinkingCalls$Runs", "openState", "(I)V"⟩, 6) := ⟨⟨by decide +kernel, by decide +kernel⟩, List.mem_of_getElem? (i := 211) (by decide +kernel), List.mem_of_getElem? (i := 708) (by decide +kernel), List.mem_of_getElem? (i := 709) (by decide +kernel)⟩
theorem lw_p24 : lw_okq (⟨"ShrinkingCalls$Runs", "closeState", "(I)V"⟩, 6) := ⟨⟨by decide +kernel, by decide +kernel⟩, List.mem_of_getElem? (i := 211) (by decide +kernel), List.mem_of_getElem? (i := 713) (by decide +kernel), List.mem_of_getElem? (i := 714) (by decide +kernel)⟩
theorem lw_p25 : lw_okq (⟨"ShrinkingCalls$Runs", "lengthen", "(II)V"⟩, 6) := ⟨⟨by decide +kernel, by decide +kernel⟩, List.mem_of_getElem? (i := 211) (by decide +kernel), List.mem_of_getElem? (i := 717) (by decide +kernel), List.mem_of_getElem? (i := 718) (by decide +kernel)⟩
theorem lw_p26 : lw_okq (⟨"ShrinkingCalls$Runs", "goesBy", "(LShrinkingCalls$Book;II)Z"⟩, 6) := ⟨⟨by decide +kernel, by decide +kernel⟩, List.mem_of_getElem? (i := 211) (by decide +kernel), List.mem_of_getElem? (i := 722) (by decide +kernel), List.mem_of_getElem? (i := 723) (by decide +kernel)⟩
theorem lw_p27 : lw_okq (⟨"ShrinkingCalls$Runs", "greatestAfter", "(LShrinkingCalls$Book;II)I"⟩, 6) := ⟨⟨by decide +kernel, by decide +kernel⟩, List.mem_of_getElem? (i := 211) (by decide +kernel), List.mem_of_getElem? (i := 726) (by decide +kernel), List.mem_of_getElem? (i := 727) (by decide +kernel)⟩
theorem lw_p28 : lw_okq (⟨"ShrinkingCalls$Runs", "greatestAt", "(III)I"⟩, 6) := ⟨⟨by decide +kernel, by decide +kernel⟩, List.mem_of_getElem? (i := 211) (by decide +kernel), List.mem_of_getElem? (i := 730) (by decide +kernel), List.mem_of_getElem? (i := 731) (by decide +kernel)⟩
theorem lw_p29 : lw_okq (⟨"ShrinkingCalls$Runs", "markUpTo", "(I)I"⟩, 6) := ⟨⟨by decide +kernel, by decide +kernel⟩, List.mem_of_getElem? (i := 211) (by decide +kernel), List.mem_of_getElem? (i := 746) (by decide +kernel), List.mem_of_getElem? (i := 747) (by decide +kernel)⟩
theorem lw_p30 : lw_okq (⟨"ShrinkingCallsModel", "readAll", "()I"⟩, 34) := ⟨⟨by decide +kernel, by decide +kernel⟩, List.mem_of_getElem? (i := 807) (by decide +kernel), List.mem_of_getElem? (i := 935) (by decide +kernel), List.mem_of_getElem? (i := 936) (by decide +kernel)⟩
theorem lw_p31 : lw_okq (⟨"ShrinkingCallsModel", "token", "()I"⟩, 34) := ⟨⟨by decide +kernel, by decide +kernel⟩, List.mem_of_getElem? (i := 807) (by decide +kernel), List.mem_of_getElem? (i := 939) (by decide +kernel), List.mem_of_getElem? (i := 940) (by decide +kernel)⟩
def lw_privs_2 : List (MethodName × Nat) := [(⟨"ShrinkingCalls$Closure", "noteBad", "(I)V"⟩, 12), (⟨"ShrinkingCalls$Closure", "goOnFrom", "(ILShrinkingCalls$Book;I)V"⟩, 12), (⟨"ShrinkingCalls$Closure", "joinedWithCall", "(II)I"⟩, 12), (⟨"ShrinkingCalls$Closure", "sortByGap", "(I)V"⟩, 12), (⟨"ShrinkingCalls$Mending", "mends", "(LShrinkingCalls$Book;I)Z"⟩, 8), (⟨"ShrinkingCalls$Mending", "tryKept", "(LShrinkingCalls$Book;I)V"⟩, 8), (⟨"ShrinkingCalls$Runs", "fits", "(IZ)Z"⟩, 6), (⟨"ShrinkingCalls$Runs", "openState", "(I)V"⟩, 6), (⟨"ShrinkingCalls$Runs", "closeState", "(I)V"⟩, 6), (⟨"ShrinkingCalls$Runs", "lengthen", "(II)V"⟩, 6), (⟨"ShrinkingCalls$Runs", "goesBy", "(LShrinkingCalls$Book;II)Z"⟩, 6), (⟨"ShrinkingCalls$Runs", "greatestAfter", "(LShrinkingCalls$Book;II)I"⟩, 6), (⟨"ShrinkingCalls$Runs", "greatestAt", "(III)I"⟩, 6), (⟨"ShrinkingCalls$Runs", "markUpTo", "(I)I"⟩, 6), (⟨"ShrinkingCallsModel", "readAll", "()I"⟩, 34), (⟨"ShrinkingCallsModel", "token", "()I"⟩, 34)]
theorem lw_r2 : ∀ q ∈ lw_privs_2, lw_okq q := List.forall_mem_cons.mpr ⟨lw_p16, List.forall_mem_cons.mpr ⟨lw_p17, List.forall_mem_cons.mpr ⟨lw_p18, List.forall_mem_cons.mpr ⟨lw_p19, List.forall_mem_cons.mpr ⟨lw_p20, List.forall_mem_cons.mpr ⟨lw_p21, List.forall_mem_cons.mpr ⟨lw_p22, List.forall_mem_cons.mpr ⟨lw_p23, List.forall_mem_cons.mpr ⟨lw_p24, List.forall_mem_cons.mpr ⟨lw_p25, List.forall_mem_cons.mpr ⟨lw_p26, List.forall_mem_cons.mpr ⟨lw_p27, List.forall_mem_cons.mpr ⟨lw_p28, List.forall_mem_cons.mpr ⟨lw_p29, List.forall_mem_cons.mpr ⟨lw_p30, List.forall_mem_cons.mpr ⟨lw_p31, fun _ h => absurd h List.not_mem_nil⟩⟩⟩⟩⟩⟩⟩⟩⟩⟩⟩⟩⟩⟩⟩⟩
theorem lw_p32 : lw_okq (⟨"ShrinkingCallsModel", "byteAt", "(I)I"⟩, 34) := ⟨⟨by decide +kernel, by decide +kernel⟩, List.mem_of_getElem? (i := 807) (by decide +kernel), List.mem_of_getElem? (i := 943) (by decide +kernel), List.mem_of_getElem? (i := 944) (by decide +kernel)⟩
theorem lw_p33 : lw_okq (⟨"ShrinkingCallsModel", "isWord", "(IIIII)Z"⟩, 34) := ⟨⟨by decide +kernel, by decide +kernel⟩, List.mem_of_getElem? (i := 807) (by decide +kernel), List.mem_of_getElem? (i := 953) (by decide +kernel), List.mem_of_getElem? (i := 954) (by decide +kernel)⟩
theorem lw_p34 : lw_okq (⟨"ShrinkingCallsModel", "actItem", "()Z"⟩, 34) := ⟨⟨by decide +kernel, by decide +kernel⟩, List.mem_of_getElem? (i := 807) (by decide +kernel), List.mem_of_getElem? (i := 957) (by decide +kernel), List.mem_of_getElem? (i := 958) (by decide +kernel)⟩
theorem lw_p35 : lw_okq (⟨"ShrinkingCallsModel", "number", "(I)Z"⟩, 34) := ⟨⟨by decide +kernel, by decide +kernel⟩, List.mem_of_getElem? (i := 807) (by decide +kernel), List.mem_of_getElem? (i := 961) (by decide +kernel), List.mem_of_getElem? (i := 962) (by decide +kernel)⟩
theorem lw_p36 : lw_okq (⟨"ShrinkingCallsModel", "sign", "(I)Z"⟩, 34) := ⟨⟨by decide +kernel, by decide +kernel⟩, List.mem_of_getElem? (i := 807) (by decide +kernel), List.mem_of_getElem? (i := 965) (by decide +kernel), List.mem_of_getElem? (i := 966) (by decide +kernel)⟩
theorem lw_p37 : lw_okq (⟨"ShrinkingCallsModel", "callItem", "()Z"⟩, 34) := ⟨⟨by decide +kernel, by decide +kernel⟩, List.mem_of_getElem? (i := 807) (by decide +kernel), List.mem_of_getElem? (i := 969) (by decide +kernel), List.mem_of_getElem? (i := 970) (by decide +kernel)⟩
theorem lw_p38 : lw_okq (⟨"ShrinkingCallsModel", "isCall", "(I)Z"⟩, 34) := ⟨⟨by decide +kernel, by decide +kernel⟩, List.mem_of_getElem? (i := 807) (by decide +kernel), List.mem_of_getElem? (i := 985) (by decide +kernel), List.mem_of_getElem? (i := 986) (by decide +kernel)⟩
theorem lw_p39 : lw_okq (⟨"ShrinkingCallsModel", "numberOf", "(I)I"⟩, 34) := ⟨⟨by decide +kernel, by decide +kernel⟩, List.mem_of_getElem? (i := 807) (by decide +kernel), List.mem_of_getElem? (i := 990) (by decide +kernel), List.mem_of_getElem? (i := 991) (by decide +kernel)⟩
theorem lw_p40 : lw_okq (⟨"ShrinkingCallsModel", "isArc", "(III)Z"⟩, 34) := ⟨⟨by decide +kernel, by decide +kernel⟩, List.mem_of_getElem? (i := 807) (by decide +kernel), List.mem_of_getElem? (i := 998) (by decide +kernel), List.mem_of_getElem? (i := 999) (by decide +kernel)⟩
theorem lw_p41 : lw_okq (⟨"ShrinkingCallsModel", "put2", "(II)I"⟩, 34) := ⟨⟨by decide +kernel, by decide +kernel⟩, List.mem_of_getElem? (i := 807) (by decide +kernel), List.mem_of_getElem? (i := 1011) (by decide +kernel), List.mem_of_getElem? (i := 1012) (by decide +kernel)⟩
theorem lw_p42 : lw_okq (⟨"ShrinkingCallsModel", "digit", "(III)I"⟩, 34) := ⟨⟨by decide +kernel, by decide +kernel⟩, List.mem_of_getElem? (i := 807) (by decide +kernel), List.mem_of_getElem? (i := 1015) (by decide +kernel), List.mem_of_getElem? (i := 1016) (by decide +kernel)⟩
theorem lw_p43 : lw_okq (⟨"ShrinkingCallsModel", "layGraphs", "(I)Z"⟩, 34) := ⟨⟨by decide +kernel, by decide +kernel⟩, List.mem_of_getElem? (i := 807) (by decide +kernel), List.mem_of_getElem? (i := 1023) (by decide +kernel), List.mem_of_getElem? (i := 1024) (by decide +kernel)⟩
theorem lw_p44 : lw_okq (⟨"ShrinkingCallsModel", "note", "(III)Z"⟩, 34) := ⟨⟨by decide +kernel, by decide +kernel⟩, List.mem_of_getElem? (i := 807) (by decide +kernel), List.mem_of_getElem? (i := 1031) (by decide +kernel), List.mem_of_getElem? (i := 1032) (by decide +kernel)⟩
theorem lw_p45 : lw_okq (⟨"ShrinkingCallsModel", "orderOf", "(I)I"⟩, 34) := ⟨⟨by decide +kernel, by decide +kernel⟩, List.mem_of_getElem? (i := 807) (by decide +kernel), List.mem_of_getElem? (i := 1043) (by decide +kernel), List.mem_of_getElem? (i := 1044) (by decide +kernel)⟩
theorem lw_p46 : lw_okq (⟨"ShrinkingCallsModel", "isRound", "(I)Z"⟩, 34) := ⟨⟨by decide +kernel, by decide +kernel⟩, List.mem_of_getElem? (i := 807) (by decide +kernel), List.mem_of_getElem? (i := 1047) (by decide +kernel), List.mem_of_getElem? (i := 1048) (by decide +kernel)⟩
theorem lw_p47 : lw_okq (⟨"ShrinkingCallsModel", "isBad", "(I)Z"⟩, 34) := ⟨⟨by decide +kernel, by decide +kernel⟩, List.mem_of_getElem? (i := 807) (by decide +kernel), List.mem_of_getElem? (i := 1051) (by decide +kernel), List.mem_of_getElem? (i := 1052) (by decide +kernel)⟩
def lw_privs_3 : List (MethodName × Nat) := [(⟨"ShrinkingCallsModel", "byteAt", "(I)I"⟩, 34), (⟨"ShrinkingCallsModel", "isWord", "(IIIII)Z"⟩, 34), (⟨"ShrinkingCallsModel", "actItem", "()Z"⟩, 34), (⟨"ShrinkingCallsModel", "number", "(I)Z"⟩, 34), (⟨"ShrinkingCallsModel", "sign", "(I)Z"⟩, 34), (⟨"ShrinkingCallsModel", "callItem", "()Z"⟩, 34), (⟨"ShrinkingCallsModel", "isCall", "(I)Z"⟩, 34), (⟨"ShrinkingCallsModel", "numberOf", "(I)I"⟩, 34), (⟨"ShrinkingCallsModel", "isArc", "(III)Z"⟩, 34), (⟨"ShrinkingCallsModel", "put2", "(II)I"⟩, 34), (⟨"ShrinkingCallsModel", "digit", "(III)I"⟩, 34), (⟨"ShrinkingCallsModel", "layGraphs", "(I)Z"⟩, 34), (⟨"ShrinkingCallsModel", "note", "(III)Z"⟩, 34), (⟨"ShrinkingCallsModel", "orderOf", "(I)I"⟩, 34), (⟨"ShrinkingCallsModel", "isRound", "(I)Z"⟩, 34), (⟨"ShrinkingCallsModel", "isBad", "(I)Z"⟩, 34)]
theorem lw_r3 : ∀ q ∈ lw_privs_3, lw_okq q := List.forall_mem_cons.mpr ⟨lw_p32, List.forall_mem_cons.mpr ⟨lw_p33, List.forall_mem_cons.mpr ⟨lw_p34, List.forall_mem_cons.mpr ⟨lw_p35, List.forall_mem_cons.mpr ⟨lw_p36, List.forall_mem_cons.mpr ⟨lw_p37, List.forall_mem_cons.mpr ⟨lw_p38, List.forall_mem_cons.mpr ⟨lw_p39, List.forall_mem_cons.mpr ⟨lw_p40, List.forall_mem_cons.mpr ⟨lw_p41, List.forall_mem_cons.mpr ⟨lw_p42, List.forall_mem_cons.mpr ⟨lw_p43, List.forall_mem_cons.mpr ⟨lw_p44, List.forall_mem_cons.mpr ⟨lw_p45, List.forall_mem_cons.mpr ⟨lw_p46, List.forall_mem_cons.mpr ⟨lw_p47, fun _ h => absurd h List.not_mem_nil⟩⟩⟩⟩⟩⟩⟩⟩⟩⟩⟩⟩⟩⟩⟩⟩
theorem lw_p48 : lw_okq (⟨"ShrinkingCallsModel", "noneBad", "(I)Z"⟩, 34) := ⟨⟨by decide +kernel, by decide +kernel⟩, List.mem_of_getElem? (i := 807) (by decide +kernel), List.mem_of_getElem? (i := 1060) (by decide +kernel), List.mem_of_getElem? (i := 1061) (by decide +kernel)⟩
theorem lw_p49 : lw_okq (⟨"ShrinkingCallsModel", "layShortest", "()I"⟩, 34) := ⟨⟨by decide +kernel, by decide +kernel⟩, List.mem_of_getElem? (i := 807) (by decide +kernel), List.mem_of_getElem? (i := 1068) (by decide +kernel), List.mem_of_getElem? (i := 1069) (by decide +kernel)⟩
theorem lw_p50 : lw_okq (⟨"ShrinkingCallsModel", "threadsOf", "(I)I"⟩, 34) := ⟨⟨by decide +kernel, by decide +kernel⟩, List.mem_of_getElem? (i := 807) (by decide +kernel), List.mem_of_getElem? (i := 1084) (by decide +kernel), List.mem_of_getElem? (i := 1085) (by decide +kernel)⟩
theorem lw_p51 : lw_okq (⟨"ShrinkingCallsModel", "falls", "(I)Z"⟩, 34) := ⟨⟨by decide +kernel, by decide +kernel⟩, List.mem_of_getElem? (i := 807) (by decide +kernel), List.mem_of_getElem? (i := 1088) (by decide +kernel), List.mem_of_getElem? (i := 1089) (by decide +kernel)⟩
theorem lw_p52 : lw_okq (⟨"ShrinkingCallsModel", "isSlow", "(II)Z"⟩, 34) := ⟨⟨by decide +kernel, by decide +kernel⟩, List.mem_of_getElem? (i := 807) (by decide +kernel), List.mem_of_getElem? (i := 1096) (by decide +kernel), List.mem_of_getElem? (i := 1097) (by decide +kernel)⟩
theorem lw_p53 : lw_okq (⟨"ShrinkingCallsModel", "fallsBy", "(II)Z"⟩, 34) := ⟨⟨by decide +kernel, by decide +kernel⟩, List.mem_of_getElem? (i := 807) (by decide +kernel), List.mem_of_getElem? (i := 1100) (by decide +kernel), List.mem_of_getElem? (i := 1101) (by decide +kernel)⟩
theorem lw_p54 : lw_okq (⟨"ShrinkingCallsModel", "stateOf", "(IIII)I"⟩, 34) := ⟨⟨by decide +kernel, by decide +kernel⟩, List.mem_of_getElem? (i := 807) (by decide +kernel), List.mem_of_getElem? (i := 1123) (by decide +kernel), List.mem_of_getElem? (i := 1124) (by decide +kernel)⟩
theorem lw_p55 : lw_okq (⟨"ShrinkingCallsModel", "isState", "(I)Z"⟩, 34) := ⟨⟨by decide +kernel, by decide +kernel⟩, List.mem_of_getElem? (i := 807) (by decide +kernel), List.mem_of_getElem? (i := 1127) (by decide +kernel), List.mem_of_getElem? (i := 1128) (by decide +kernel)⟩
theorem lw_p56 : lw_okq (⟨"ShrinkingCallsModel", "goesTo", "(II)Z"⟩, 34) := ⟨⟨by decide +kernel, by decide +kernel⟩, List.mem_of_getElem? (i := 807) (by decide +kernel), List.mem_of_getElem? (i := 1134) (by decide +kernel), List.mem_of_getElem? (i := 1135) (by decide +kernel)⟩
theorem lw_p57 : lw_okq (⟨"ShrinkingCallsModel", "leads", "(III)Z"⟩, 34) := ⟨⟨by decide +kernel, by decide +kernel⟩, List.mem_of_getElem? (i := 807) (by decide +kernel), List.mem_of_getElem? (i := 1138) (by decide +kernel), List.mem_of_getElem? (i := 1139) (by decide +kernel)⟩
theorem lw_p58 : lw_okq (⟨"ShrinkingCallsModel", "plainWeight", "(I)I"⟩, 34) := ⟨⟨by decide +kernel, by decide +kernel⟩, List.mem_of_getElem? (i := 807) (by decide +kernel), List.mem_of_getElem? (i := 1150) (by decide +kernel), List.mem_of_getElem? (i := 1151) (by decide +kernel)⟩
theorem lw_p59 : lw_okq (⟨"ShrinkingCallsModel", "arcsOf", "(II)I"⟩, 34) := ⟨⟨by decide +kernel, by decide +kernel⟩, List.mem_of_getElem? (i := 807) (by decide +kernel), List.mem_of_getElem? (i := 1154) (by decide +kernel), List.mem_of_getElem? (i := 1155) (by decide +kernel)⟩
theorem lw_p60 : lw_okq (⟨"ShrinkingCallsModel", "selfWeight", "(I)I"⟩, 34) := ⟨⟨by decide +kernel, by decide +kernel⟩, List.mem_of_getElem? (i := 807) (by decide +kernel), List.mem_of_getElem? (i := 1158) (by decide +kernel), List.mem_of_getElem? (i := 1159) (by decide +kernel)⟩
theorem lw_p61 : lw_okq (⟨"ShrinkingCallsModel", "otherWeight", "(I)I"⟩, 34) := ⟨⟨by decide +kernel, by decide +kernel⟩, List.mem_of_getElem? (i := 807) (by decide +kernel), List.mem_of_getElem? (i := 1163) (by decide +kernel), List.mem_of_getElem? (i := 1164) (by decide +kernel)⟩
def lw_privs_4 : List (MethodName × Nat) := [(⟨"ShrinkingCallsModel", "noneBad", "(I)Z"⟩, 34), (⟨"ShrinkingCallsModel", "layShortest", "()I"⟩, 34), (⟨"ShrinkingCallsModel", "threadsOf", "(I)I"⟩, 34), (⟨"ShrinkingCallsModel", "falls", "(I)Z"⟩, 34), (⟨"ShrinkingCallsModel", "isSlow", "(II)Z"⟩, 34), (⟨"ShrinkingCallsModel", "fallsBy", "(II)Z"⟩, 34), (⟨"ShrinkingCallsModel", "stateOf", "(IIII)I"⟩, 34), (⟨"ShrinkingCallsModel", "isState", "(I)Z"⟩, 34), (⟨"ShrinkingCallsModel", "goesTo", "(II)Z"⟩, 34), (⟨"ShrinkingCallsModel", "leads", "(III)Z"⟩, 34), (⟨"ShrinkingCallsModel", "plainWeight", "(I)I"⟩, 34), (⟨"ShrinkingCallsModel", "arcsOf", "(II)I"⟩, 34), (⟨"ShrinkingCallsModel", "selfWeight", "(I)I"⟩, 34), (⟨"ShrinkingCallsModel", "otherWeight", "(I)I"⟩, 34)]
theorem lw_r4 : ∀ q ∈ lw_privs_4, lw_okq q := List.forall_mem_cons.mpr ⟨lw_p48, List.forall_mem_cons.mpr ⟨lw_p49, List.forall_mem_cons.mpr ⟨lw_p50, List.forall_mem_cons.mpr ⟨lw_p51, List.forall_mem_cons.mpr ⟨lw_p52, List.forall_mem_cons.mpr ⟨lw_p53, List.forall_mem_cons.mpr ⟨lw_p54, List.forall_mem_cons.mpr ⟨lw_p55, List.forall_mem_cons.mpr ⟨lw_p56, List.forall_mem_cons.mpr ⟨lw_p57, List.forall_mem_cons.mpr ⟨lw_p58, List.forall_mem_cons.mpr ⟨lw_p59, List.forall_mem_cons.mpr ⟨lw_p60, List.forall_mem_cons.mpr ⟨lw_p61, fun _ h => absurd h List.not_mem_nil⟩⟩⟩⟩⟩⟩⟩⟩⟩⟩⟩⟩⟩⟩
def lw_privs : List (MethodName × Nat) := lw_privs_1 ++ (lw_privs_2 ++ (lw_privs_3 ++ (lw_privs_4)))
def lw_tbl : List Cond := k2_sels lw_privs ++ tables_1
theorem lw_privs_ok : ∀ q ∈ lw_privs, lw_okq q := by
  show ∀ q ∈ lw_privs_1 ++ (lw_privs_2 ++ (lw_privs_3 ++ (lw_privs_4))), lw_okq q
  exact List.forall_mem_append.mpr ⟨lw_r1, List.forall_mem_append.mpr ⟨lw_r2, List.forall_mem_append.mpr ⟨lw_r3, lw_r4⟩⟩⟩
end
section
def RX0 : String := "ShrinkingCalls$Arcs"
def TX0 : u_T := fun k => match k with
  | _ => ("", "", "", false)
def tyX0 : Nat → FieldType := fun k => match k with
  | _ => .int
abbrev wsX00 : List Cond := u_ws RX0 TX0 0
theorem nmX0 : ∀ a, a < 0 → ∀ b, b < 0 → a ≠ b → (TX0 a).2.1 ≠ (TX0 b).2.1 := by decide +kernel
theorem tyX0_ok : ∀ k, k < 0 → parseFieldDescriptor (TX0 k).2.2.1 = some (tyX0 k) := by decide +kernel
abbrev cX0_isNumber : ByteArray := prog_2_method_2_code
def yX0_isNumber : MethodName := ⟨RX0, "isNumber", "(I)Z"⟩
abbrev cX0_at : ByteArray := prog_2_method_3_code
def yX0_at : MethodName := ⟨RX0, "at", "(III)I"⟩
abbrev cX0_with : ByteArray := prog_2_method_4_code
def yX0_with : MethodName := ⟨RX0, "with", "(IIII)I"⟩
abbrev cX0_row : ByteArray := prog_2_method_5_code
def yX0_row : MethodName := ⟨RX0, "row", "(II)I"⟩
abbrev cX0_toNumber : ByteArray := prog_2_method_6_code
def yX0_toNumber : MethodName := ⟨RX0, "toNumber", "(I)I"⟩
abbrev cX0_fromNumber : ByteArray := prog_2_method_7_code
def yX0_fromNumber : MethodName := ⟨RX0, "fromNumber", "(I)I"⟩
abbrev cX0_joinRow : ByteArray := prog_2_method_8_code
def yX0_joinRow : MethodName := ⟨RX0, "joinRow", "(II)I"⟩
abbrev cX0_join : ByteArray := prog_2_method_9_code
def yX0_join : MethodName := ⟨RX0, "join", "(II)I"⟩
abbrev cX0_hasLessToItself : ByteArray := prog_2_method_10_code
def yX0_hasLessToItself : MethodName := ⟨RX0, "hasLessToItself", "(I)Z"⟩
abbrev cX0_howMany : ByteArray := prog_2_method_11_code
def yX0_howMany : MethodName := ⟨RX0, "howMany", "(II)I"⟩
abbrev cX0_howManyToThemselves : ByteArray := prog_2_method_12_code
def yX0_howManyToThemselves : MethodName := ⟨RX0, "howManyToThemselves", "(I)I"⟩
abbrev cX0_threads : ByteArray := prog_2_method_13_code
def yX0_threads : MethodName := ⟨RX0, "threads", "(I)I"⟩
abbrev cX0_leadsTo : ByteArray := prog_2_method_14_code
def yX0_leadsTo : MethodName := ⟨RX0, "leadsTo", "(III)Z"⟩
abbrev cX0_falls : ByteArray := prog_2_method_15_code
def yX0_falls : MethodName := ⟨RX0, "falls", "(I)Z"⟩
def RX1 : String := "ShrinkingCalls$Book"
def TX1 : u_T := fun k => match k with
  | 0 => ("ShrinkingCalls$Book", "placesOf", "[I", true)
  | 1 => ("ShrinkingCalls$Book", "from", "[I", true)
  | 2 => ("ShrinkingCalls$Book", "to", "[I", true)
  | 3 => ("ShrinkingCalls$Book", "arcs", "[I", true)
  | _ => ("ShrinkingCalls$Book", "size", "I", false)
def tyX1 : Nat → FieldType := fun k => match k with
  | 0 => .array .int
  | 1 => .array .int
  | 2 => .array .int
  | 3 => .array .int
  | _ => .int
abbrev wsX10 : List Cond := u_ws RX1 TX1 5
theorem nmX1 : ∀ a, a < 5 → ∀ b, b < 5 → a ≠ b → (TX1 a).2.1 ≠ (TX1 b).2.1 := by decide +kernel
theorem tyX1_ok : ∀ k, k < 5 → parseFieldDescriptor (TX1 k).2.2.1 = some (tyX1 k) := by decide +kernel
abbrev cX1_init : ByteArray := prog_3_method_1_code
def yX1_init : MethodName := ⟨RX1, "<init>", "()V"⟩
abbrev cX1_wipe : ByteArray := prog_3_method_2_code
def yX1_wipe : MethodName := ⟨RX1, "wipe", "()V"⟩
abbrev cX1_copyFrom : ByteArray := prog_3_method_3_code
def yX1_copyFrom : MethodName := ⟨RX1, "copyFrom", "(LShrinkingCalls$Book;)V"⟩
abbrev cX1_hasCall : ByteArray := prog_3_method_4_code
def yX1_hasCall : MethodName := ⟨RX1, "hasCall", "(I)Z"⟩
abbrev cX1_hasPair : ByteArray := prog_3_method_5_code
def yX1_hasPair : MethodName := ⟨RX1, "hasPair", "(III)Z"⟩
abbrev cX1_add : ByteArray := prog_3_method_6_code
def yX1_add : MethodName := ⟨RX1, "add", "(II)V"⟩
abbrev cX1_placesOfAll : ByteArray := prog_3_method_7_code
def yX1_placesOfAll : MethodName := ⟨RX1, "placesOfAll", "()I"⟩
abbrev cX1_arcsOfAll : ByteArray := prog_3_method_8_code
def yX1_arcsOfAll : MethodName := ⟨RX1, "arcsOfAll", "()I"⟩
def RX2 : String := "ShrinkingCalls$Closure"
def TX2 : u_T := fun k => match k with
  | 0 => ("ShrinkingCalls$Closure", "keys", "[I", true)
  | 1 => ("ShrinkingCalls$Closure", "before", "[I", true)
  | 2 => ("ShrinkingCalls$Closure", "lastCall", "[I", true)
  | 3 => ("ShrinkingCalls$Closure", "slots", "[I", true)
  | 4 => ("ShrinkingCalls$Closure", "keysInOrder", "[I", true)
  | 5 => ("ShrinkingCalls$Closure", "joinedRows", "[I", true)
  | 6 => ("ShrinkingCalls$Closure", "joinedFor", "[I", true)
  | 7 => ("ShrinkingCalls$Closure", "size", "I", false)
  | 8 => ("ShrinkingCalls$Closure", "large", "Z", false)
  | 9 => ("ShrinkingCalls$Closure", "inOrder", "Z", false)
  | 10 => ("ShrinkingCalls$Closure", "firstBad", "I", false)
  | _ => ("ShrinkingCalls$Closure", "badActs", "I", false)
def tyX2 : Nat → FieldType := fun k => match k with
  | 0 => .array .int
  | 1 => .array .int
  | 2 => .array .int
  | 3 => .array .int
  | 4 => .array .int
  | 5 => .array .int
  | 6 => .array .int
  | 7 => .int
  | 8 => .boolean
  | 9 => .boolean
  | 10 => .int
  | _ => .int
abbrev wsX20 : List Cond := u_ws RX2 TX2 12
theorem nmX2 : ∀ a, a < 12 → ∀ b, b < 12 → a ≠ b → (TX2 a).2.1 ≠ (TX2 b).2.1 := by decide +kernel
theorem tyX2_ok : ∀ k, k < 12 → parseFieldDescriptor (TX2 k).2.2.1 = some (tyX2 k) := by decide +kernel
abbrev cX2_init : ByteArray := prog_4_method_1_code
def yX2_init : MethodName := ⟨RX2, "<init>", "()V"⟩
abbrev cX2_grow : ByteArray := prog_4_method_2_code
def yX2_grow : MethodName := ⟨RX2, "grow", "(LShrinkingCalls$Book;IZ)V"⟩
abbrev cX2_noteBad : ByteArray := prog_4_method_3_code
def yX2_noteBad : MethodName := ⟨RX2, "noteBad", "(I)V"⟩
abbrev cX2_prepare : ByteArray := prog_4_method_4_code
def yX2_prepare : MethodName := ⟨RX2, "prepare", "(II)V"⟩
abbrev cX2_goOnFrom : ByteArray := prog_4_method_5_code
def yX2_goOnFrom : MethodName := ⟨RX2, "goOnFrom", "(ILShrinkingCalls$Book;I)V"⟩
abbrev cX2_joinedWithCall : ByteArray := prog_4_method_6_code
def yX2_joinedWithCall : MethodName := ⟨RX2, "joinedWithCall", "(II)I"⟩
abbrev cX2_add : ByteArray := prog_4_method_7_code
def yX2_add : MethodName := ⟨RX2, "add", "(III)V"⟩
abbrev cX2_freeSlotFor : ByteArray := prog_4_method_8_code
def yX2_freeSlotFor : MethodName := ⟨RX2, "freeSlotFor", "(I)I"⟩
abbrev cX2_wayLength : ByteArray := prog_4_method_9_code
def yX2_wayLength : MethodName := ⟨RX2, "wayLength", "(I)I"⟩
abbrev cX2_callOnWay : ByteArray := prog_4_method_10_code
def yX2_callOnWay : MethodName := ⟨RX2, "callOnWay", "(II)I"⟩
abbrev cX2_callsOnWay : ByteArray := prog_4_method_11_code
def yX2_callsOnWay : MethodName := ⟨RX2, "callsOnWay", "(I)I"⟩
abbrev cX2_keyInOrder : ByteArray := prog_4_method_12_code
def yX2_keyInOrder : MethodName := ⟨RX2, "keyInOrder", "(I)I"⟩
abbrev cX2_sortByGap : ByteArray := prog_4_method_13_code
def yX2_sortByGap : MethodName := ⟨RX2, "sortByGap", "(I)V"⟩
abbrev cX2_fallsBy : ByteArray := prog_4_method_14_code
def yX2_fallsBy : MethodName := ⟨RX2, "fallsBy", "(II)Z"⟩
abbrev cX2_fallsByOrder : ByteArray := prog_4_method_15_code
def yX2_fallsByOrder : MethodName := ⟨RX2, "fallsByOrder", "(II)Z"⟩
def RX3 : String := "ShrinkingCalls$Keys"
def TX3 : u_T := fun k => match k with
  | _ => ("", "", "", false)
def tyX3 : Nat → FieldType := fun k => match k with
  | _ => .int
abbrev wsX30 : List Cond := u_ws RX3 TX3 0
theorem nmX3 : ∀ a, a < 0 → ∀ b, b < 0 → a ≠ b → (TX3 a).2.1 ≠ (TX3 b).2.1 := by decide +kernel
theorem tyX3_ok : ∀ k, k < 0 → parseFieldDescriptor (TX3 k).2.2.1 = some (tyX3 k) := by decide +kernel
abbrev cX3_of : ByteArray := prog_5_method_2_code
def yX3_of : MethodName := ⟨RX3, "of", "(III)I"⟩
abbrev cX3_from : ByteArray := prog_5_method_3_code
def yX3_from : MethodName := ⟨RX3, "from", "(I)I"⟩
abbrev cX3_to : ByteArray := prog_5_method_4_code
def yX3_to : MethodName := ⟨RX3, "to", "(I)I"⟩
abbrev cX3_arcs : ByteArray := prog_5_method_5_code
def yX3_arcs : MethodName := ⟨RX3, "arcs", "(I)I"⟩
abbrev cX3_isRound : ByteArray := prog_5_method_6_code
def yX3_isRound : MethodName := ⟨RX3, "isRound", "(I)Z"⟩
abbrev cX3_isBad : ByteArray := prog_5_method_7_code
def yX3_isBad : MethodName := ⟨RX3, "isBad", "(I)Z"⟩
def RX4 : String := "ShrinkingCalls$Mending"
def TX4 : u_T := fun k => match k with
  | 0 => ("ShrinkingCalls$Mending", "trial", "LShrinkingCalls$Closure;", true)
  | 1 => ("ShrinkingCalls$Mending", "badWays", "[I", true)
  | 2 => ("ShrinkingCalls$Mending", "badWaysSize", "I", false)
  | 3 => ("ShrinkingCalls$Mending", "set", "I", false)
  | 4 => ("ShrinkingCalls$Mending", "needed", "[I", true)
  | 5 => ("ShrinkingCalls$Mending", "neededSize", "I", false)
  | 6 => ("ShrinkingCalls$Mending", "neededTried", "Z", false)
  | _ => ("ShrinkingCalls$Mending", "neededFound", "Z", false)
def tyX4 : Nat → FieldType := fun k => match k with
  | 0 => .object "ShrinkingCalls$Closure"
  | 1 => .array .int
  | 2 => .int
  | 3 => .int
  | 4 => .array .int
  | 5 => .int
  | 6 => .boolean
  | _ => .boolean
abbrev wsX40 : List Cond := u_ws RX4 TX4 8
theorem nmX4 : ∀ a, a < 8 → ∀ b, b < 8 → a ≠ b → (TX4 a).2.1 ≠ (TX4 b).2.1 := by decide +kernel
theorem tyX4_ok : ∀ k, k < 8 → parseFieldDescriptor (TX4 k).2.2.1 = some (tyX4 k) := by decide +kernel
abbrev cX4_init : ByteArray := prog_6_method_1_code
def yX4_init : MethodName := ⟨RX4, "<init>", "()V"⟩
abbrev cX4_forget : ByteArray := prog_6_method_2_code
def yX4_forget : MethodName := ⟨RX4, "forget", "()V"⟩
abbrev cX4_leastSet : ByteArray := prog_6_method_3_code
def yX4_leastSet : MethodName := ⟨RX4, "leastSet", "(LShrinkingCalls$Book;)I"⟩
abbrev cX4_mends : ByteArray := prog_6_method_4_code
def yX4_mends : MethodName := ⟨RX4, "mends", "(LShrinkingCalls$Book;I)Z"⟩
abbrev cX4_findsNeeded : ByteArray := prog_6_method_5_code
def yX4_findsNeeded : MethodName := ⟨RX4, "findsNeeded", "(LShrinkingCalls$Book;)Z"⟩
abbrev cX4_tryKept : ByteArray := prog_6_method_6_code
def yX4_tryKept : MethodName := ⟨RX4, "tryKept", "(LShrinkingCalls$Book;I)V"⟩
abbrev cX4_neededAt : ByteArray := prog_6_method_7_code
def yX4_neededAt : MethodName := ⟨RX4, "neededAt", "(I)I"⟩
def RX5 : String := "ShrinkingCalls$RoundTrip"
def TX5 : u_T := fun k => match k with
  | 0 => ("ShrinkingCalls$RoundTrip", "calls", "[I", true)
  | _ => ("ShrinkingCalls$RoundTrip", "size", "I", false)
def tyX5 : Nat → FieldType := fun k => match k with
  | 0 => .array .int
  | _ => .int
abbrev wsX50 : List Cond := u_ws RX5 TX5 2
theorem nmX5 : ∀ a, a < 2 → ∀ b, b < 2 → a ≠ b → (TX5 a).2.1 ≠ (TX5 b).2.1 := by decide +kernel
theorem tyX5_ok : ∀ k, k < 2 → parseFieldDescriptor (TX5 k).2.2.1 = some (tyX5 k) := by decide +kernel
abbrev cX5_init : ByteArray := prog_7_method_1_code
def yX5_init : MethodName := ⟨RX5, "<init>", "()V"⟩
abbrev cX5_goesOnBy : ByteArray := prog_7_method_2_code
def yX5_goesOnBy : MethodName := ⟨RX5, "goesOnBy", "(LShrinkingCalls$Book;I)Z"⟩
abbrev cX5_take : ByteArray := prog_7_method_3_code
def yX5_take : MethodName := ⟨RX5, "take", "(I)Z"⟩
abbrev cX5_empty : ByteArray := prog_7_method_4_code
def yX5_empty : MethodName := ⟨RX5, "empty", "()I"⟩
abbrev cX5_comesBack : ByteArray := prog_7_method_5_code
def yX5_comesBack : MethodName := ⟨RX5, "comesBack", "(LShrinkingCalls$Book;)Z"⟩
abbrev cX5_arcsOfAll : ByteArray := prog_7_method_6_code
def yX5_arcsOfAll : MethodName := ⟨RX5, "arcsOfAll", "(LShrinkingCalls$Book;)I"⟩
def RX6 : String := "ShrinkingCalls$Runs"
def TX6 : u_T := fun k => match k with
  | 0 => ("ShrinkingCalls$Runs", "most", "I", false)
  | 1 => ("ShrinkingCalls$Runs", "mark", "[I", true)
  | 2 => ("ShrinkingCalls$Runs", "open", "[I", true)
  | 3 => ("ShrinkingCalls$Runs", "nextCall", "[I", true)
  | 4 => ("ShrinkingCalls$Runs", "longestOf", "[I", true)
  | _ => ("ShrinkingCalls$Runs", "depth", "I", false)
def tyX6 : Nat → FieldType := fun k => match k with
  | 0 => .int
  | 1 => .array .int
  | 2 => .array .int
  | 3 => .array .int
  | 4 => .array .int
  | _ => .int
abbrev wsX60 : List Cond := u_ws RX6 TX6 6
theorem nmX6 : ∀ a, a < 6 → ∀ b, b < 6 → a ≠ b → (TX6 a).2.1 ≠ (TX6 b).2.1 := by decide +kernel
theorem tyX6_ok : ∀ k, k < 6 → parseFieldDescriptor (TX6 k).2.2.1 = some (tyX6 k) := by decide +kernel
abbrev cX6_init : ByteArray := prog_8_method_1_code
def yX6_init : MethodName := ⟨RX6, "<init>", "()V"⟩
abbrev cX6_stateOf : ByteArray := prog_8_method_2_code
def yX6_stateOf : MethodName := ⟨RX6, "stateOf", "(LShrinkingCalls$Book;IIII)I"⟩
abbrev cX6_fits : ByteArray := prog_8_method_3_code
def yX6_fits : MethodName := ⟨RX6, "fits", "(IZ)Z"⟩
abbrev cX6_greatestAfter : ByteArray := prog_8_method_4_code
def yX6_greatestAfter : MethodName := ⟨RX6, "greatestAfter", "(LShrinkingCalls$Book;II)I"⟩
abbrev cX6_greatestAt : ByteArray := prog_8_method_5_code
def yX6_greatestAt : MethodName := ⟨RX6, "greatestAt", "(III)I"⟩
abbrev cX6_longestFrom : ByteArray := prog_8_method_6_code
def yX6_longestFrom : MethodName := ⟨RX6, "longestFrom", "(LShrinkingCalls$Book;I)I"⟩
abbrev cX6_openState : ByteArray := prog_8_method_7_code
def yX6_openState : MethodName := ⟨RX6, "openState", "(I)V"⟩
abbrev cX6_closeState : ByteArray := prog_8_method_8_code
def yX6_closeState : MethodName := ⟨RX6, "closeState", "(I)V"⟩
abbrev cX6_lengthen : ByteArray := prog_8_method_9_code
def yX6_lengthen : MethodName := ⟨RX6, "lengthen", "(II)V"⟩
abbrev cX6_goesBy : ByteArray := prog_8_method_10_code
def yX6_goesBy : MethodName := ⟨RX6, "goesBy", "(LShrinkingCalls$Book;II)Z"⟩
abbrev cX6_statesAfter : ByteArray := prog_8_method_11_code
def yX6_statesAfter : MethodName := ⟨RX6, "statesAfter", "(LShrinkingCalls$Book;I)I"⟩
abbrev cX6_markUpTo : ByteArray := prog_8_method_12_code
def yX6_markUpTo : MethodName := ⟨RX6, "markUpTo", "(I)I"⟩
abbrev cX6_isWithin : ByteArray := prog_8_method_13_code
def yX6_isWithin : MethodName := ⟨RX6, "isWithin", "(II)Z"⟩
def RX7 : String := "ShrinkingCalls$TextReader"
def TX7 : u_T := fun k => match k with
  | 0 => ("ShrinkingCalls$TextReader", "bytes", "[I", true)
  | 1 => ("ShrinkingCalls$TextReader", "size", "I", false)
  | 2 => ("ShrinkingCalls$TextReader", "start", "I", false)
  | 3 => ("ShrinkingCalls$TextReader", "token", "I", false)
  | 4 => ("ShrinkingCalls$TextReader", "value", "I", false)
  | 5 => ("ShrinkingCalls$TextReader", "behind", "I", false)
  | 6 => ("ShrinkingCalls$TextReader", "toldActs", "I", false)
  | _ => ("ShrinkingCalls$TextReader", "fault", "I", false)
def tyX7 : Nat → FieldType := fun k => match k with
  | 0 => .array .int
  | 1 => .int
  | 2 => .int
  | 3 => .int
  | 4 => .int
  | 5 => .int
  | 6 => .int
  | _ => .int
abbrev wsX70 : List Cond := u_ws RX7 TX7 8
theorem nmX7 : ∀ a, a < 8 → ∀ b, b < 8 → a ≠ b → (TX7 a).2.1 ≠ (TX7 b).2.1 := by decide +kernel
theorem tyX7_ok : ∀ k, k < 8 → parseFieldDescriptor (TX7 k).2.2.1 = some (tyX7 k) := by decide +kernel
abbrev cX7_init : ByteArray := prog_9_method_1_code
def yX7_init : MethodName := ⟨RX7, "<init>", "()V"⟩
abbrev cX7_take : ByteArray := prog_9_method_2_code
def yX7_take : MethodName := ⟨RX7, "take", "(JI)Z"⟩
abbrev cX7_empty : ByteArray := prog_9_method_3_code
def yX7_empty : MethodName := ⟨RX7, "empty", "()I"⟩
abbrev cX7_readInto : ByteArray := prog_9_method_4_code
def yX7_readInto : MethodName := ⟨RX7, "readInto", "(LShrinkingCalls$Book;)I"⟩
abbrev cX7_readAct : ByteArray := prog_9_method_5_code
def yX7_readAct : MethodName := ⟨RX7, "readAct", "(LShrinkingCalls$Book;)V"⟩
abbrev cX7_readCall : ByteArray := prog_9_method_6_code
def yX7_readCall : MethodName := ⟨RX7, "readCall", "(LShrinkingCalls$Book;)V"⟩
abbrev cX7_readArc : ByteArray := prog_9_method_7_code
def yX7_readArc : MethodName := ⟨RX7, "readArc", "(LShrinkingCalls$Book;I)V"⟩
abbrev cX7_stands : ByteArray := prog_9_method_8_code
def yX7_stands : MethodName := ⟨RX7, "stands", "(Z)Z"⟩
abbrev cX7_advance : ByteArray := prog_9_method_9_code
def yX7_advance : MethodName := ⟨RX7, "advance", "()V"⟩
abbrev cX7_scanSign : ByteArray := prog_9_method_10_code
def yX7_scanSign : MethodName := ⟨RX7, "scanSign", "(I)V"⟩
abbrev cX7_scanWord : ByteArray := prog_9_method_11_code
def yX7_scanWord : MethodName := ⟨RX7, "scanWord", "()V"⟩
abbrev cX7_scanNumber : ByteArray := prog_9_method_12_code
def yX7_scanNumber : MethodName := ⟨RX7, "scanNumber", "()V"⟩
abbrev cX7_isLetter : ByteArray := prog_9_method_13_code
def yX7_isLetter : MethodName := ⟨RX7, "isLetter", "(I)Z"⟩
abbrev cX7_isFigure : ByteArray := prog_9_method_14_code
def yX7_isFigure : MethodName := ⟨RX7, "isFigure", "(I)Z"⟩
abbrev cX7_isWord : ByteArray := prog_9_method_15_code
def yX7_isWord : MethodName := ⟨RX7, "isWord", "(Ljava/lang/String;)Z"⟩
def RX8 : String := "ShrinkingCalls$Weights"
def TX8 : u_T := fun k => match k with
  | _ => ("ShrinkingCalls$Weights", "asked", "J", false)
def tyX8 : Nat → FieldType := fun k => match k with
  | _ => .long
abbrev wsX80 : List Cond := u_ws RX8 TX8 1
theorem nmX8 : ∀ a, a < 1 → ∀ b, b < 1 → a ≠ b → (TX8 a).2.1 ≠ (TX8 b).2.1 := by decide +kernel
theorem tyX8_ok : ∀ k, k < 1 → parseFieldDescriptor (TX8 k).2.2.1 = some (tyX8 k) := by decide +kernel
abbrev cX8_init : ByteArray := prog_10_method_1_code
def yX8_init : MethodName := ⟨RX8, "<init>", "()V"⟩
abbrev cX8_ofCall : ByteArray := prog_10_method_2_code
def yX8_ofCall : MethodName := ⟨RX8, "ofCall", "(LShrinkingCalls$Book;I)I"⟩
abbrev cX8_ofSelf : ByteArray := prog_10_method_3_code
def yX8_ofSelf : MethodName := ⟨RX8, "ofSelf", "(LShrinkingCalls$Book;I)I"⟩
abbrev cX8_ofOther : ByteArray := prog_10_method_4_code
def yX8_ofOther : MethodName := ⟨RX8, "ofOther", "(LShrinkingCalls$Book;I)I"⟩
abbrev cX8_ofPlain : ByteArray := prog_10_method_5_code
def yX8_ofPlain : MethodName := ⟨RX8, "ofPlain", "(LShrinkingCalls$Book;I)I"⟩
abbrev cX8_ofFar : ByteArray := prog_10_method_6_code
def yX8_ofFar : MethodName := ⟨RX8, "ofFar", "(LShrinkingCalls$Book;I)I"⟩
def RX9 : String := "ShrinkingCalls"
def TX9 : u_T := fun k => match k with
  | 0 => ("ShrinkingCalls", "reader", "LShrinkingCalls$TextReader;", true)
  | 1 => ("ShrinkingCalls", "book", "LShrinkingCalls$Book;", true)
  | 2 => ("ShrinkingCalls", "draft", "LShrinkingCalls$Book;", true)
  | 3 => ("ShrinkingCalls", "round", "LShrinkingCalls$RoundTrip;", true)
  | 4 => ("ShrinkingCalls", "closure", "LShrinkingCalls$Closure;", true)
  | 5 => ("ShrinkingCalls", "mending", "LShrinkingCalls$Mending;", true)
  | 6 => ("ShrinkingCalls", "runs", "LShrinkingCalls$Runs;", true)
  | 7 => ("ShrinkingCalls", "weights", "LShrinkingCalls$Weights;", true)
  | _ => ("ShrinkingCalls", "closureFits", "Z", false)
def tyX9 : Nat → FieldType := fun k => match k with
  | 0 => .object "ShrinkingCalls$TextReader"
  | 1 => .object "ShrinkingCalls$Book"
  | 2 => .object "ShrinkingCalls$Book"
  | 3 => .object "ShrinkingCalls$RoundTrip"
  | 4 => .object "ShrinkingCalls$Closure"
  | 5 => .object "ShrinkingCalls$Mending"
  | 6 => .object "ShrinkingCalls$Runs"
  | 7 => .object "ShrinkingCalls$Weights"
  | _ => .boolean
abbrev wsX90 : List Cond := u_ws RX9 TX9 9
theorem nmX9 : ∀ a, a < 9 → ∀ b, b < 9 → a ≠ b → (TX9 a).2.1 ≠ (TX9 b).2.1 := by decide +kernel
theorem tyX9_ok : ∀ k, k < 9 → parseFieldDescriptor (TX9 k).2.2.1 = some (tyX9 k) := by decide +kernel
abbrev cX9_init : ByteArray := prog_1_method_1_code
def yX9_init : MethodName := ⟨RX9, "<init>", "()V"⟩
abbrev cX9_type : ByteArray := prog_1_method_2_code
def yX9_type : MethodName := ⟨RX9, "type", "(JI)I"⟩
abbrev cX9_clear : ByteArray := prog_1_method_3_code
def yX9_clear : MethodName := ⟨RX9, "clear", "()I"⟩
abbrev cX9_read : ByteArray := prog_1_method_4_code
def yX9_read : MethodName := ⟨RX9, "read", "()I"⟩
abbrev cX9_places : ByteArray := prog_1_method_5_code
def yX9_places : MethodName := ⟨RX9, "places", "(I)I"⟩
abbrev cX9_call : ByteArray := prog_1_method_6_code
def yX9_call : MethodName := ⟨RX9, "call", "(II)I"⟩
abbrev cX9_arc : ByteArray := prog_1_method_7_code
def yX9_arc : MethodName := ⟨RX9, "arc", "(III)I"⟩
abbrev cX9_put : ByteArray := prog_1_method_8_code
def yX9_put : MethodName := ⟨RX9, "put", "(IIII)I"⟩
abbrev cX9_graphs : ByteArray := prog_1_method_9_code
def yX9_graphs : MethodName := ⟨RX9, "graphs", "()I"⟩
abbrev cX9_graph : ByteArray := prog_1_method_10_code
def yX9_graph : MethodName := ⟨RX9, "graph", "(II)I"⟩
abbrev cX9_together : ByteArray := prog_1_method_11_code
def yX9_together : MethodName := ⟨RX9, "together", "(II)I"⟩
abbrev cX9_ends : ByteArray := prog_1_method_12_code
def yX9_ends : MethodName := ⟨RX9, "ends", "(I)I"⟩
abbrev cX9_shortest : ByteArray := prog_1_method_13_code
def yX9_shortest : MethodName := ⟨RX9, "shortest", "(I)I"⟩
abbrev cX9_go : ByteArray := prog_1_method_14_code
def yX9_go : MethodName := ⟨RX9, "go", "(I)I"⟩
abbrev cX9_anew : ByteArray := prog_1_method_15_code
def yX9_anew : MethodName := ⟨RX9, "anew", "()I"⟩
abbrev cX9_trip : ByteArray := prog_1_method_16_code
def yX9_trip : MethodName := ⟨RX9, "trip", "(I)I"⟩
abbrev cX9_slow : ByteArray := prog_1_method_17_code
def yX9_slow : MethodName := ⟨RX9, "slow", "(I)I"⟩
abbrev cX9_mended : ByteArray := prog_1_method_18_code
def yX9_mended : MethodName := ⟨RX9, "mended", "(I)I"⟩
abbrev cX9_needed : ByteArray := prog_1_method_19_code
def yX9_needed : MethodName := ⟨RX9, "needed", "(I)I"⟩
abbrev cX9_most : ByteArray := prog_1_method_20_code
def yX9_most : MethodName := ⟨RX9, "most", "(I)I"⟩
abbrev cX9_longest : ByteArray := prog_1_method_21_code
def yX9_longest : MethodName := ⟨RX9, "longest", "(IIII)I"⟩
abbrev cX9_next : ByteArray := prog_1_method_22_code
def yX9_next : MethodName := ⟨RX9, "next", "(IIII)I"⟩
abbrev cX9_weight : ByteArray := prog_1_method_23_code
def yX9_weight : MethodName := ⟨RX9, "weight", "(II)I"⟩
abbrev cX9_count : ByteArray := prog_1_method_24_code
def yX9_count : MethodName := ⟨RX9, "count", "(I)I"⟩
abbrev cX9_trace : ByteArray := prog_1_method_25_code
def yX9_trace : MethodName := ⟨RX9, "trace", "()J"⟩
abbrev cX9_isAct : ByteArray := prog_1_method_26_code
def yX9_isAct : MethodName := ⟨RX9, "isAct", "(I)Z"⟩
abbrev cX9_isOrderOf : ByteArray := prog_1_method_27_code
def yX9_isOrderOf : MethodName := ⟨RX9, "isOrderOf", "(II)Z"⟩
abbrev cX9_forgetWhatFollows : ByteArray := prog_1_method_28_code
def yX9_forgetWhatFollows : MethodName := ⟨RX9, "forgetWhatFollows", "()V"⟩
abbrev cX9_isLarge : ByteArray := prog_1_method_29_code
def yX9_isLarge : MethodName := ⟨RX9, "isLarge", "()Z"⟩
def RX10 : String := "ShrinkingCallsModel"
def TX10 : u_T := fun k => match k with
  | 0 => ("ShrinkingCallsModel", "length", "I", false)
  | 1 => ("ShrinkingCallsModel", "text", "[I", true)
  | 2 => ("ShrinkingCallsModel", "placesOf", "[I", true)
  | 3 => ("ShrinkingCallsModel", "callMany", "I", false)
  | 4 => ("ShrinkingCallsModel", "from", "[I", true)
  | 5 => ("ShrinkingCallsModel", "to", "[I", true)
  | 6 => ("ShrinkingCallsModel", "arcs", "[I", true)
  | 7 => ("ShrinkingCallsModel", "tripMany", "I", false)
  | 8 => ("ShrinkingCallsModel", "trip", "[I", true)
  | 9 => ("ShrinkingCallsModel", "sizes", "I", false)
  | 10 => ("ShrinkingCallsModel", "trace", "J", false)
  | 11 => ("ShrinkingCallsModel", "power", "[I", true)
  | 12 => ("ShrinkingCallsModel", "place", "I", false)
  | 13 => ("ShrinkingCallsModel", "begins", "I", false)
  | 14 => ("ShrinkingCallsModel", "worth", "I", false)
  | 15 => ("ShrinkingCallsModel", "readPlaces", "[I", true)
  | 16 => ("ShrinkingCallsModel", "readTold", "[Z", true)
  | 17 => ("ShrinkingCallsModel", "readCalls", "I", false)
  | 18 => ("ShrinkingCallsModel", "readFrom", "[I", true)
  | 19 => ("ShrinkingCallsModel", "readTo", "[I", true)
  | 20 => ("ShrinkingCallsModel", "readArcs", "[I", true)
  | 21 => ("ShrinkingCallsModel", "readItems", "I", false)
  | 22 => ("ShrinkingCallsModel", "many", "I", false)
  | 23 => ("ShrinkingCallsModel", "graphFrom", "[I", true)
  | 24 => ("ShrinkingCallsModel", "graphTo", "[I", true)
  | 25 => ("ShrinkingCallsModel", "graph", "[I", true)
  | 26 => ("ShrinkingCallsModel", "stamp", "I", false)
  | 27 => ("ShrinkingCallsModel", "stamps", "[I", true)
  | 28 => ("ShrinkingCallsModel", "index", "[I", true)
  | 29 => ("ShrinkingCallsModel", "words", "[I", true)
  | 30 => ("ShrinkingCallsModel", "nextWords", "[I", true)
  | 31 => ("ShrinkingCallsModel", "bestWord", "I", false)
  | 32 => ("ShrinkingCallsModel", "order", "[I", true)
  | _ => ("ShrinkingCallsModel", "longs", "[I", true)
def tyX10 : Nat → FieldType := fun k => match k with
  | 0 => .int
  | 1 => .array .int
  | 2 => .array .int
  | 3 => .int
  | 4 => .array .int
  | 5 => .array .int
  | 6 => .array .int
  | 7 => .int
  | 8 => .array .int
  | 9 => .int
  | 10 => .long
  | 11 => .array .int
  | 12 => .int
  | 13 => .int
  | 14 => .int
  | 15 => .array .int
  | 16 => .array .boolean
  | 17 => .int
  | 18 => .array .int
  | 19 => .array .int
  | 20 => .array .int
  | 21 => .int
  | 22 => .int
  | 23 => .array .int
  | 24 => .array .int
  | 25 => .array .int
  | 26 => .int
  | 27 => .array .int
  | 28 => .array .int
  | 29 => .array .int
  | 30 => .array .int
  | 31 => .int
  | 32 => .array .int
  | _ => .array .int
abbrev wsX100 : List Cond := u_ws RX10 TX10 34
theorem nmX10 : ∀ a, a < 34 → ∀ b, b < 34 → a ≠ b → (TX10 a).2.1 ≠ (TX10 b).2.1 := by decide +kernel
theorem tyX10_ok : ∀ k, k < 34 → parseFieldDescriptor (TX10 k).2.2.1 = some (tyX10 k) := by decide +kernel
abbrev cX10_init : ByteArray := prog_12_method_1_code
def yX10_init : MethodName := ⟨RX10, "<init>", "()V"⟩
abbrev cX10_in : ByteArray := prog_12_method_2_code
def yX10_in : MethodName := ⟨RX10, "in", "(JJJ)Z"⟩
abbrev cX10_type : ByteArray := prog_12_method_3_code
def yX10_type : MethodName := ⟨RX10, "type", "(JI)I"⟩
abbrev cX10_clear : ByteArray := prog_12_method_4_code
def yX10_clear : MethodName := ⟨RX10, "clear", "()I"⟩
abbrev cX10_byteAt : ByteArray := prog_12_method_5_code
def yX10_byteAt : MethodName := ⟨RX10, "byteAt", "(I)I"⟩
abbrev cX10_isWord : ByteArray := prog_12_method_6_code
def yX10_isWord : MethodName := ⟨RX10, "isWord", "(IIIII)Z"⟩
abbrev cX10_token : ByteArray := prog_12_method_7_code
def yX10_token : MethodName := ⟨RX10, "token", "()I"⟩
abbrev cX10_number : ByteArray := prog_12_method_8_code
def yX10_number : MethodName := ⟨RX10, "number", "(I)Z"⟩
abbrev cX10_sign : ByteArray := prog_12_method_9_code
def yX10_sign : MethodName := ⟨RX10, "sign", "(I)Z"⟩
abbrev cX10_actItem : ByteArray := prog_12_method_10_code
def yX10_actItem : MethodName := ⟨RX10, "actItem", "()Z"⟩
abbrev cX10_callItem : ByteArray := prog_12_method_11_code
def yX10_callItem : MethodName := ⟨RX10, "callItem", "()Z"⟩
abbrev cX10_readAll : ByteArray := prog_12_method_12_code
def yX10_readAll : MethodName := ⟨RX10, "readAll", "()I"⟩
abbrev cX10_read : ByteArray := prog_12_method_13_code
def yX10_read : MethodName := ⟨RX10, "read", "()I"⟩
abbrev cX10_isAct : ByteArray := prog_12_method_14_code
def yX10_isAct : MethodName := ⟨RX10, "isAct", "(I)Z"⟩
abbrev cX10_isCall : ByteArray := prog_12_method_15_code
def yX10_isCall : MethodName := ⟨RX10, "isCall", "(I)Z"⟩
abbrev cX10_places : ByteArray := prog_12_method_16_code
def yX10_places : MethodName := ⟨RX10, "places", "(I)I"⟩
abbrev cX10_numberOf : ByteArray := prog_12_method_17_code
def yX10_numberOf : MethodName := ⟨RX10, "numberOf", "(I)I"⟩
abbrev cX10_call : ByteArray := prog_12_method_18_code
def yX10_call : MethodName := ⟨RX10, "call", "(II)I"⟩
abbrev cX10_isArc : ByteArray := prog_12_method_19_code
def yX10_isArc : MethodName := ⟨RX10, "isArc", "(III)Z"⟩
abbrev cX10_arc : ByteArray := prog_12_method_20_code
def yX10_arc : MethodName := ⟨RX10, "arc", "(III)I"⟩
abbrev cX10_put : ByteArray := prog_12_method_21_code
def yX10_put : MethodName := ⟨RX10, "put", "(IIII)I"⟩
abbrev cX10_digit : ByteArray := prog_12_method_22_code
def yX10_digit : MethodName := ⟨RX10, "digit", "(III)I"⟩
abbrev cX10_put2 : ByteArray := prog_12_method_23_code
def yX10_put2 : MethodName := ⟨RX10, "put2", "(II)I"⟩
abbrev cX10_together : ByteArray := prog_12_method_24_code
def yX10_together : MethodName := ⟨RX10, "together", "(II)I"⟩
abbrev cX10_codeOf : ByteArray := prog_12_method_25_code
def yX10_codeOf : MethodName := ⟨RX10, "codeOf", "(III)I"⟩
abbrev cX10_note : ByteArray := prog_12_method_26_code
def yX10_note : MethodName := ⟨RX10, "note", "(III)Z"⟩
abbrev cX10_has : ByteArray := prog_12_method_27_code
def yX10_has : MethodName := ⟨RX10, "has", "(II)Z"⟩
abbrev cX10_layGraphs : ByteArray := prog_12_method_28_code
def yX10_layGraphs : MethodName := ⟨RX10, "layGraphs", "(I)Z"⟩
abbrev cX10_isRound : ByteArray := prog_12_method_29_code
def yX10_isRound : MethodName := ⟨RX10, "isRound", "(I)Z"⟩
abbrev cX10_isBad : ByteArray := prog_12_method_30_code
def yX10_isBad : MethodName := ⟨RX10, "isBad", "(I)Z"⟩
abbrev cX10_noneBad : ByteArray := prog_12_method_31_code
def yX10_noneBad : MethodName := ⟨RX10, "noneBad", "(I)Z"⟩
abbrev cX10_graphs : ByteArray := prog_12_method_32_code
def yX10_graphs : MethodName := ⟨RX10, "graphs", "()I"⟩
abbrev cX10_orderOf : ByteArray := prog_12_method_33_code
def yX10_orderOf : MethodName := ⟨RX10, "orderOf", "(I)I"⟩
abbrev cX10_graph : ByteArray := prog_12_method_34_code
def yX10_graph : MethodName := ⟨RX10, "graph", "(II)I"⟩
abbrev cX10_ends : ByteArray := prog_12_method_35_code
def yX10_ends : MethodName := ⟨RX10, "ends", "(I)I"⟩
abbrev cX10_layShortest : ByteArray := prog_12_method_36_code
def yX10_layShortest : MethodName := ⟨RX10, "layShortest", "()I"⟩
abbrev cX10_shortest : ByteArray := prog_12_method_37_code
def yX10_shortest : MethodName := ⟨RX10, "shortest", "(I)I"⟩
abbrev cX10_go : ByteArray := prog_12_method_38_code
def yX10_go : MethodName := ⟨RX10, "go", "(I)I"⟩
abbrev cX10_anew : ByteArray := prog_12_method_39_code
def yX10_anew : MethodName := ⟨RX10, "anew", "()I"⟩
abbrev cX10_threadsOf : ByteArray := prog_12_method_40_code
def yX10_threadsOf : MethodName := ⟨RX10, "threadsOf", "(I)I"⟩
abbrev cX10_falls : ByteArray := prog_12_method_41_code
def yX10_falls : MethodName := ⟨RX10, "falls", "(I)Z"⟩
abbrev cX10_trip : ByteArray := prog_12_method_42_code
def yX10_trip : MethodName := ⟨RX10, "trip", "(I)I"⟩
abbrev cX10_fallsBy : ByteArray := prog_12_method_43_code
def yX10_fallsBy : MethodName := ⟨RX10, "fallsBy", "(II)Z"⟩
abbrev cX10_isSlow : ByteArray := prog_12_method_44_code
def yX10_isSlow : MethodName := ⟨RX10, "isSlow", "(II)Z"⟩
abbrev cX10_slow : ByteArray := prog_12_method_45_code
def yX10_slow : MethodName := ⟨RX10, "slow", "(I)I"⟩
abbrev cX10_bits : ByteArray := prog_12_method_46_code
def yX10_bits : MethodName := ⟨RX10, "bits", "(I)I"⟩
abbrev cX10_mended : ByteArray := prog_12_method_47_code
def yX10_mended : MethodName := ⟨RX10, "mended", "(I)I"⟩
abbrev cX10_needed : ByteArray := prog_12_method_48_code
def yX10_needed : MethodName := ⟨RX10, "needed", "(I)I"⟩
abbrev cX10_most : ByteArray := prog_12_method_49_code
def yX10_most : MethodName := ⟨RX10, "most", "(I)I"⟩
abbrev cX10_size : ByteArray := prog_12_method_50_code
def yX10_size : MethodName := ⟨RX10, "size", "(II)I"⟩
abbrev cX10_isState : ByteArray := prog_12_method_51_code
def yX10_isState : MethodName := ⟨RX10, "isState", "(I)Z"⟩
abbrev cX10_leads : ByteArray := prog_12_method_52_code
def yX10_leads : MethodName := ⟨RX10, "leads", "(III)Z"⟩
abbrev cX10_goesTo : ByteArray := prog_12_method_53_code
def yX10_goesTo : MethodName := ⟨RX10, "goesTo", "(II)Z"⟩
abbrev cX10_stateOf : ByteArray := prog_12_method_54_code
def yX10_stateOf : MethodName := ⟨RX10, "stateOf", "(IIII)I"⟩
abbrev cX10_longest : ByteArray := prog_12_method_55_code
def yX10_longest : MethodName := ⟨RX10, "longest", "(IIII)I"⟩
abbrev cX10_next : ByteArray := prog_12_method_56_code
def yX10_next : MethodName := ⟨RX10, "next", "(IIII)I"⟩
abbrev cX10_arcsOf : ByteArray := prog_12_method_57_code
def yX10_arcsOf : MethodName := ⟨RX10, "arcsOf", "(II)I"⟩
abbrev cX10_plainWeight : ByteArray := prog_12_method_58_code
def yX10_plainWeight : MethodName := ⟨RX10, "plainWeight", "(I)I"⟩
abbrev cX10_selfWeight : ByteArray := prog_12_method_59_code
def yX10_selfWeight : MethodName := ⟨RX10, "selfWeight", "(I)I"⟩
abbrev cX10_otherWeight : ByteArray := prog_12_method_60_code
def yX10_otherWeight : MethodName := ⟨RX10, "otherWeight", "(I)I"⟩
abbrev cX10_weight : ByteArray := prog_12_method_61_code
def yX10_weight : MethodName := ⟨RX10, "weight", "(II)I"⟩
abbrev cX10_count : ByteArray := prog_12_method_62_code
def yX10_count : MethodName := ⟨RX10, "count", "(I)I"⟩
abbrev cX10_trace : ByteArray := prog_12_method_63_code
def yX10_trace : MethodName := ⟨RX10, "trace", "()J"⟩
def RJ6 : String := "java/lang/Integer"
def TJ6 : u_T := fun k => match k with
  | _ => ("", "", "", false)
def tyJ6 : Nat → FieldType := fun k => match k with
  | _ => .int
abbrev wsJ60 : List Cond := u_ws RJ6 TJ6 0
theorem nmJ6 : ∀ a, a < 0 → ∀ b, b < 0 → a ≠ b → (TJ6 a).2.1 ≠ (TJ6 b).2.1 := by decide +kernel
theorem tyJ6_ok : ∀ k, k < 0 → parseFieldDescriptor (TJ6 k).2.2.1 = some (tyJ6 k) := by decide +kernel
abbrev cJ6_bitCount_0f7a4 : ByteArray := prog_13_method_49_code
def yJ6_bitCount_0f7a4 : MethodName := ⟨RJ6, "bitCount", "(I)I"⟩
def RJ9 : String := "java/lang/Math"
def TJ9 : u_T := fun k => match k with
  | _ => ("", "", "", false)
def tyJ9 : Nat → FieldType := fun k => match k with
  | _ => .int
abbrev wsJ90 : List Cond := u_ws RJ9 TJ9 0
theorem nmJ9 : ∀ a, a < 0 → ∀ b, b < 0 → a ≠ b → (TJ9 a).2.1 ≠ (TJ9 b).2.1 := by decide +kernel
theorem tyJ9_ok : ∀ k, k < 0 → parseFieldDescriptor (TJ9 k).2.2.1 = some (tyJ9 k) := by decide +kernel
abbrev cJ9_max_7cf53 : ByteArray := prog_14_method_65_code
def yJ9_max_7cf53 : MethodName := ⟨RJ9, "max", "(II)I"⟩
abbrev cJ9_min_7cf53 : ByteArray := prog_14_method_69_code
def yJ9_min_7cf53 : MethodName := ⟨RJ9, "min", "(II)I"⟩
def RJ0 : String := "java/lang/String"
def TJ0 : u_T := fun k => match k with
  | _ => ("", "", "", false)
def tyJ0 : Nat → FieldType := fun k => match k with
  | _ => .int
abbrev wsJ00 : List Cond := u_ws RJ0 TJ0 0
theorem nmJ0 : ∀ a, a < 0 → ∀ b, b < 0 → a ≠ b → (TJ0 a).2.1 ≠ (TJ0 b).2.1 := by decide +kernel
theorem tyJ0_ok : ∀ k, k < 0 → parseFieldDescriptor (TJ0 k).2.2.1 = some (tyJ0 k) := by decide +kernel
abbrev cJ0_length_8abf5 : ByteArray := prog_15_method_54_code
def yJ0_length_8abf5 : MethodName := ⟨RJ0, "length", "()I"⟩
abbrev cJ0_charAt_5068e : ByteArray := prog_15_method_56_code
def yJ0_charAt_5068e : MethodName := ⟨RJ0, "charAt", "(I)C"⟩
abbrev cJ0_coder_7d493 : ByteArray := prog_15_method_152_code
def yJ0_coder_7d493 : MethodName := ⟨RJ0, "coder", "()B"⟩
abbrev cJ0_isLatin1_aae02 : ByteArray := prog_15_method_154_code
def yJ0_isLatin1_aae02 : MethodName := ⟨RJ0, "isLatin1", "()Z"⟩
abbrev cJ0_checkIndex_df160 : ByteArray := prog_15_method_155_code
def yJ0_checkIndex_df160 : MethodName := ⟨RJ0, "checkIndex", "(II)V"⟩
def RJ1 : String := "java/lang/StringLatin1"
def TJ1 : u_T := fun k => match k with
  | _ => ("", "", "", false)
def tyJ1 : Nat → FieldType := fun k => match k with
  | _ => .int
abbrev wsJ10 : List Cond := u_ws RJ1 TJ1 0
theorem nmJ1 : ∀ a, a < 0 → ∀ b, b < 0 → a ≠ b → (TJ1 a).2.1 ≠ (TJ1 b).2.1 := by decide +kernel
theorem tyJ1_ok : ∀ k, k < 0 → parseFieldDescriptor (TJ1 k).2.2.1 = some (tyJ1 k) := by decide +kernel
abbrev cJ1_charAt_3b067 : ByteArray := prog_16_method_2_code
def yJ1_charAt_3b067 : MethodName := ⟨RJ1, "charAt", "([BI)C"⟩
def RJ2 : String := "java/lang/StringUTF16"
def TJ2 : u_T := fun k => match k with
  | _ => ("", "", "", false)
def tyJ2 : Nat → FieldType := fun k => match k with
  | _ => .int
abbrev wsJ20 : List Cond := u_ws RJ2 TJ2 0
theorem nmJ2 : ∀ a, a < 0 → ∀ b, b < 0 → a ≠ b → (TJ2 a).2.1 ≠ (TJ2 b).2.1 := by decide +kernel
theorem tyJ2_ok : ∀ k, k < 0 → parseFieldDescriptor (TJ2 k).2.2.1 = some (tyJ2 k) := by decide +kernel
abbrev cJ2_getChar_3b067 : ByteArray := prog_17_method_5_code
def yJ2_getChar_3b067 : MethodName := ⟨RJ2, "getChar", "([BI)C"⟩
abbrev cJ2_length_9d52b : ByteArray := prog_17_method_6_code
def yJ2_length_9d52b : MethodName := ⟨RJ2, "length", "([B)I"⟩
abbrev cJ2_charAt_3b067 : ByteArray := prog_17_method_83_code
def yJ2_charAt_3b067 : MethodName := ⟨RJ2, "charAt", "([BI)C"⟩
abbrev cJ2_checkIndex_2214a : ByteArray := prog_17_method_91_code
def yJ2_checkIndex_2214a : MethodName := ⟨RJ2, "checkIndex", "(I[B)V"⟩
def RJ10 : String := "java/lang/System"
def TJ10 : u_T := fun k => match k with
  | _ => ("", "", "", false)
def tyJ10 : Nat → FieldType := fun k => match k with
  | _ => .int
abbrev wsJ100 : List Cond := u_ws RJ10 TJ10 0
theorem nmJ10 : ∀ a, a < 0 → ∀ b, b < 0 → a ≠ b → (TJ10 a).2.1 ≠ (TJ10 b).2.1 := by decide +kernel
theorem tyJ10_ok : ∀ k, k < 0 → parseFieldDescriptor (TJ10 k).2.2.1 = some (tyJ10 k) := by decide +kernel
def RJ7 : String := "java/util/Arrays"
def TJ7 : u_T := fun k => match k with
  | _ => ("", "", "", false)
def tyJ7 : Nat → FieldType := fun k => match k with
  | _ => .int
abbrev wsJ70 : List Cond := u_ws RJ7 TJ7 0
theorem nmJ7 : ∀ a, a < 0 → ∀ b, b < 0 → a ≠ b → (TJ7 a).2.1 ≠ (TJ7 b).2.1 := by decide +kernel
theorem tyJ7_ok : ∀ k, k < 0 → parseFieldDescriptor (TJ7 k).2.2.1 = some (tyJ7 k) := by decide +kernel
abbrev cJ7_fill_53178 : ByteArray := prog_19_method_103_code
def yJ7_fill_53178 : MethodName := ⟨RJ7, "fill", "([II)V"⟩
def RJ3 : String := "jdk/internal/util/Preconditions"
def TJ3 : u_T := fun k => match k with
  | _ => ("", "", "", false)
def tyJ3 : Nat → FieldType := fun k => match k with
  | _ => .int
abbrev wsJ30 : List Cond := u_ws RJ3 TJ3 0
theorem nmJ3 : ∀ a, a < 0 → ∀ b, b < 0 → a ≠ b → (TJ3 a).2.1 ≠ (TJ3 b).2.1 := by decide +kernel
theorem tyJ3_ok : ∀ k, k < 0 → parseFieldDescriptor (TJ3 k).2.2.1 = some (tyJ3 k) := by decide +kernel
abbrev cJ3_checkIndex_8e157 : ByteArray := prog_20_method_11_code
def yJ3_checkIndex_8e157 : MethodName := ⟨RJ3, "checkIndex", "(IILjava/util/function/BiFunction;)I"⟩
def RL : String := "ShrinkingCallsLaw"
abbrev cL_law : ByteArray := code
def yL_law : MethodName := ⟨RL, "law", "([I)Z"⟩
def wsL_law_r1 : List Cond := [Cond.classLink RL 7 RX9, Cond.instantiable RX9 9, Cond.initialized RX9, Cond.classLink RL 10 RX10, Cond.instantiable RX10 34, Cond.initialized RX10, Cond.constantLong RL 13 (4294967295), Cond.methodLink RL 9 yX9_init, Cond.instanceMethod yX9_init, Cond.code yX9_init cX9_init 1 none, Cond.methodLink RX9 1 objectInit, Cond.instanceMethod objectInit, Cond.code objectInit ⟨#[0xb1]⟩ 1 none, Cond.classLink RX9 7 RX7, Cond.instantiable RX7 8, Cond.initialized RX7, Cond.fieldLink RX9 10 "ShrinkingCalls" "reader" "LShrinkingCalls$TextReader;", Cond.classLink RX9 16 RX1, Cond.instantiable RX1 5, Cond.initialized RX1, Cond.fieldLink RX9 19 "ShrinkingCalls" "book" "LShrinkingCalls$Book;", Cond.fieldLink RX9 23 "ShrinkingCalls" "draft" "LShrinkingCalls$Book;", Cond.classLink RX9 26 RX5, Cond.instantiable RX5 2]
def wsL_law_r2 : List Cond := [Cond.initialized RX5, Cond.fieldLink RX9 29 "ShrinkingCalls" "round" "LShrinkingCalls$RoundTrip;", Cond.classLink RX9 33 RX2, Cond.instantiable RX2 12, Cond.initialized RX2, Cond.fieldLink RX9 36 "ShrinkingCalls" "closure" "LShrinkingCalls$Closure;", Cond.classLink RX9 40 RX4, Cond.instantiable RX4 8, Cond.initialized RX4, Cond.fieldLink RX9 43 "ShrinkingCalls" "mending" "LShrinkingCalls$Mending;", Cond.classLink RX9 47 RX6, Cond.instantiable RX6 6, Cond.initialized RX6, Cond.fieldLink RX9 50 "ShrinkingCalls" "runs" "LShrinkingCalls$Runs;", Cond.classLink RX9 54 RX8, Cond.instantiable RX8 1, Cond.initialized RX8, Cond.fieldLink RX9 57 "ShrinkingCalls" "weights" "LShrinkingCalls$Weights;", Cond.fieldLink RX9 61 "ShrinkingCalls" "closureFits" "Z", Cond.instanceMethod yX7_init, Cond.code yX7_init cX7_init 1 none, Cond.methodLink RX7 3 objectInit, Cond.arrayClass .int, Cond.fieldLink RX7 11 "ShrinkingCalls$TextReader" "bytes" "[I"]
def wsL_law_r3 : List Cond := [Cond.instanceMethod yX1_init, Cond.code yX1_init cX1_init 1 none, Cond.methodLink RX1 3 objectInit, Cond.fieldLink RX1 9 "ShrinkingCalls$Book" "placesOf" "[I", Cond.fieldLink RX1 15 "ShrinkingCalls$Book" "from" "[I", Cond.fieldLink RX1 18 "ShrinkingCalls$Book" "to" "[I", Cond.fieldLink RX1 21 "ShrinkingCalls$Book" "arcs" "[I", Cond.instanceMethod yX5_init, Cond.code yX5_init cX5_init 1 none, Cond.methodLink RX5 1 objectInit, Cond.fieldLink RX5 9 "ShrinkingCalls$RoundTrip" "calls" "[I", Cond.methodLink RX9 35 yX2_init, Cond.instanceMethod yX2_init, Cond.code yX2_init cX2_init 1 none, Cond.methodLink RX2 3 objectInit, Cond.fieldLink RX2 11 "ShrinkingCalls$Closure" "keys" "[I", Cond.fieldLink RX2 15 "ShrinkingCalls$Closure" "before" "[I", Cond.fieldLink RX2 18 "ShrinkingCalls$Closure" "lastCall" "[I", Cond.fieldLink RX2 21 "ShrinkingCalls$Closure" "slots" "[I", Cond.fieldLink RX2 24 "ShrinkingCalls$Closure" "keysInOrder" "[I", Cond.fieldLink RX2 29 "ShrinkingCalls$Closure" "joinedRows" "[I", Cond.fieldLink RX2 32 "ShrinkingCalls$Closure" "joinedFor" "[I", Cond.fieldLink RX2 35 "ShrinkingCalls$Closure" "firstBad" "I", Cond.methodLink RX2 39 yJ7_fill_53178]
def wsL_law_r4 : List Cond := [Cond.static yJ7_fill_53178, Cond.initialized RJ7, Cond.code yJ7_fill_53178 cJ7_fill_53178 4 none, Cond.instanceMethod yX4_init, Cond.code yX4_init cX4_init 1 none, Cond.methodLink RX4 3 objectInit, Cond.classLink RX4 9 RX2, Cond.fieldLink RX4 12 "ShrinkingCalls$Mending" "trial" "LShrinkingCalls$Closure;", Cond.fieldLink RX4 18 "ShrinkingCalls$Mending" "badWays" "[I", Cond.fieldLink RX4 22 "ShrinkingCalls$Mending" "set" "I", Cond.fieldLink RX4 28 "ShrinkingCalls$Mending" "needed" "[I", Cond.methodLink RX4 11 yX2_init, Cond.instanceMethod yX6_init, Cond.code yX6_init cX6_init 1 none, Cond.methodLink RX6 5 objectInit, Cond.fieldLink RX6 11 "ShrinkingCalls$Runs" "most" "I", Cond.fieldLink RX6 15 "ShrinkingCalls$Runs" "mark" "[I", Cond.fieldLink RX6 19 "ShrinkingCalls$Runs" "open" "[I", Cond.fieldLink RX6 22 "ShrinkingCalls$Runs" "nextCall" "[I", Cond.fieldLink RX6 25 "ShrinkingCalls$Runs" "longestOf" "[I", Cond.instanceMethod yX8_init, Cond.code yX8_init cX8_init 1 none, Cond.methodLink RX8 3 objectInit, Cond.methodLink RL 12 yX10_init]
def wsL_law_r5 : List Cond := [Cond.instanceMethod yX10_init, Cond.code yX10_init cX10_init 2 none, Cond.methodLink RX10 1 objectInit, Cond.fieldLink RX10 7 "ShrinkingCallsModel" "text" "[I", Cond.fieldLink RX10 13 "ShrinkingCallsModel" "placesOf" "[I", Cond.fieldLink RX10 16 "ShrinkingCallsModel" "from" "[I", Cond.fieldLink RX10 19 "ShrinkingCallsModel" "to" "[I", Cond.fieldLink RX10 22 "ShrinkingCallsModel" "arcs" "[I", Cond.fieldLink RX10 25 "ShrinkingCallsModel" "trip" "[I", Cond.fieldLink RX10 28 "ShrinkingCallsModel" "sizes" "I", Cond.fieldLink RX10 32 "ShrinkingCallsModel" "power" "[I", Cond.fieldLink RX10 35 "ShrinkingCallsModel" "readPlaces" "[I", Cond.arrayClass .boolean, Cond.fieldLink RX10 38 "ShrinkingCallsModel" "readTold" "[Z", Cond.fieldLink RX10 42 "ShrinkingCallsModel" "readFrom" "[I", Cond.fieldLink RX10 45 "ShrinkingCallsModel" "readTo" "[I", Cond.fieldLink RX10 48 "ShrinkingCallsModel" "readArcs" "[I", Cond.fieldLink RX10 51 "ShrinkingCallsModel" "graphFrom" "[I", Cond.fieldLink RX10 54 "ShrinkingCallsModel" "graphTo" "[I", Cond.fieldLink RX10 57 "ShrinkingCallsModel" "graph" "[I", Cond.constant RX10 60 (314928), Cond.fieldLink RX10 61 "ShrinkingCallsModel" "stamps" "[I", Cond.fieldLink RX10 64 "ShrinkingCallsModel" "index" "[I", Cond.fieldLink RX10 67 "ShrinkingCallsModel" "words" "[I"]
def wsL_law_r6 : List Cond := [Cond.fieldLink RX10 70 "ShrinkingCallsModel" "nextWords" "[I", Cond.fieldLink RX10 73 "ShrinkingCallsModel" "order" "[I", Cond.fieldLink RX10 76 "ShrinkingCallsModel" "longs" "[I", Cond.methodLink RL 15 yX9_type, Cond.instanceMethod yX9_type, Cond.selects RX9 yX9_type yX9_type, Cond.code yX9_type cX9_type 4 (some .int), Cond.fieldLink RX9 69 "ShrinkingCalls$TextReader" "size" "I", Cond.methodLink RX9 65 yX7_take, Cond.instanceMethod yX7_take, Cond.selects RX7 yX7_take yX7_take, Cond.code yX7_take cX7_take 5 (some .boolean), Cond.fieldLink RX7 15 "ShrinkingCalls$TextReader" "size" "I", Cond.constantLong RX7 19 (255), Cond.methodLink RL 19 yX10_type, Cond.instanceMethod yX10_type, Cond.selects RX10 yX10_type yX10_type, Cond.code yX10_type cX10_type 5 (some .int), Cond.constantLong RX10 79 (8), Cond.fieldLink RX10 85 "ShrinkingCallsModel" "length" "I", Cond.constantLong RX10 88 (255), Cond.methodLink RX10 81 yX10_in, Cond.static yX10_in, Cond.code yX10_in cX10_in 6 (some .boolean)]
def wsL_law_r7 : List Cond := [Cond.methodLink RL 20 yX9_clear, Cond.instanceMethod yX9_clear, Cond.selects RX9 yX9_clear yX9_clear, Cond.code yX9_clear cX9_clear 1 (some .int), Cond.methodLink RX9 73 yX7_empty, Cond.instanceMethod yX7_empty, Cond.selects RX7 yX7_empty yX7_empty, Cond.code yX7_empty cX7_empty 2 (some .int), Cond.methodLink RL 24 yX10_clear, Cond.instanceMethod yX10_clear, Cond.selects RX10 yX10_clear yX10_clear, Cond.code yX10_clear cX10_clear 2 (some .int), Cond.methodLink RL 25 yX9_read, Cond.instanceMethod yX9_read, Cond.selects RX9 yX9_read yX9_read, Cond.code yX9_read cX9_read 2 (some .int), Cond.methodLink RX9 77 yX7_readInto, Cond.instanceMethod yX7_readInto, Cond.selects RX7 yX7_readInto yX7_readInto, Cond.code yX7_readInto cX7_readInto 3 (some .int), Cond.fieldLink RX7 26 "ShrinkingCalls$TextReader" "toldActs" "I", Cond.fieldLink RX7 29 "ShrinkingCalls$TextReader" "fault" "I", Cond.fieldLink RX7 32 "ShrinkingCalls$TextReader" "behind" "I", Cond.fieldLink RX7 38 "ShrinkingCalls$TextReader" "token" "I"]
def wsL_law_r8 : List Cond := [Cond.fieldLink RX7 41 "ShrinkingCalls$Book" "size" "I", Cond.fieldLink RX7 49 "ShrinkingCalls$TextReader" "start" "I", Cond.methodLink RX7 21 yX1_wipe, Cond.instanceMethod yX1_wipe, Cond.selects RX1 yX1_wipe yX1_wipe, Cond.code yX1_wipe cX1_wipe 1 none, Cond.fieldLink RX1 30 "ShrinkingCalls$Book" "size" "I", Cond.methodLink RX1 24 yJ7_fill_53178, Cond.methodLink RX7 35 yX7_advance, Cond.instanceMethod yX7_advance, Cond.selects RX7 yX7_advance yX7_advance, Cond.code yX7_advance cX7_advance 1 none, Cond.fieldLink RX7 52 "ShrinkingCalls$TextReader" "value" "I", Cond.methodLink RX7 95 yX7_isLetter, Cond.instanceMethod yX7_isLetter, Cond.selects RX7 yX7_isLetter yX7_isLetter, Cond.code yX7_isLetter cX7_isLetter 2 (some .boolean), Cond.methodLink RX7 99 yX7_scanWord, Cond.instanceMethod yX7_scanWord, Cond.selects RX7 yX7_scanWord yX7_scanWord, Cond.code yX7_scanWord cX7_scanWord 1 none, Cond.methodLink RX7 114 yX7_isWord, Cond.instanceMethod yX7_isWord, Cond.selects RX7 yX7_isWord yX7_isWord]
def wsL_law_r9 : List Cond := [Cond.code yX7_isWord cX7_isWord 3 (some .boolean), Cond.methodLink RX7 120 yJ0_length_8abf5, Cond.instanceMethod yJ0_length_8abf5, Cond.selects RJ0 yJ0_length_8abf5 yJ0_length_8abf5, Cond.initialized RJ0, Cond.code yJ0_length_8abf5 cJ0_length_8abf5 1 (some .int), Cond.fieldLink RJ0 9 "java/lang/String" "value" "[B", Cond.methodLink RJ0 335 yJ0_coder_7d493, Cond.instanceMethod yJ0_coder_7d493, Cond.selects RJ0 yJ0_coder_7d493 yJ0_coder_7d493, Cond.code yJ0_coder_7d493 cJ0_coder_7d493 1 (some .byte), Cond.fieldLink RJ0 38 "java/lang/String" "COMPACT_STRINGS" "Z", Cond.fieldLink RJ0 15 "java/lang/String" "coder" "B", Cond.methodLink RX7 126 yJ0_charAt_5068e, Cond.instanceMethod yJ0_charAt_5068e, Cond.selects RJ0 yJ0_charAt_5068e yJ0_charAt_5068e, Cond.code yJ0_charAt_5068e cJ0_charAt_5068e 2 (some .char), Cond.methodLink RJ0 492 yJ0_isLatin1_aae02, Cond.instanceMethod yJ0_isLatin1_aae02, Cond.selects RJ0 yJ0_isLatin1_aae02 yJ0_isLatin1_aae02, Cond.code yJ0_isLatin1_aae02 cJ0_isLatin1_aae02 1 (some .boolean), Cond.methodLink RJ0 495 yJ1_charAt_3b067, Cond.static yJ1_charAt_3b067, Cond.initialized RJ1]
def wsL_law_r10 : List Cond := [Cond.code yJ1_charAt_3b067 cJ1_charAt_3b067 2 (some .char), Cond.methodLink RJ1 9 yJ0_checkIndex_df160, Cond.static yJ0_checkIndex_df160, Cond.code yJ0_checkIndex_df160 cJ0_checkIndex_df160 2 none, Cond.fieldLink RJ0 1053 "jdk/internal/util/Preconditions" "SIOOBE_FORMATTER" "Ljava/util/function/BiFunction;", Cond.methodLink RJ0 1059 yJ3_checkIndex_8e157, Cond.static yJ3_checkIndex_8e157, Cond.initialized RJ3, Cond.code yJ3_checkIndex_8e157 cJ3_checkIndex_8e157 3 (some .int), Cond.methodLink RJ0 498 yJ2_charAt_3b067, Cond.static yJ2_charAt_3b067, Cond.initialized RJ2, Cond.code yJ2_charAt_3b067 cJ2_charAt_3b067 2 (some .char), Cond.methodLink RJ2 67 yJ2_checkIndex_2214a, Cond.static yJ2_checkIndex_2214a, Cond.code yJ2_checkIndex_2214a cJ2_checkIndex_2214a 2 none, Cond.methodLink RJ2 48 yJ2_length_9d52b, Cond.static yJ2_length_9d52b, Cond.code yJ2_length_9d52b cJ2_length_9d52b 1 (some .int), Cond.methodLink RJ2 414 yJ0_checkIndex_df160, Cond.methodLink RJ2 71 yJ2_getChar_3b067, Cond.static yJ2_getChar_3b067, Cond.code yJ2_getChar_3b067 cJ2_getChar_3b067 2 (some .char), Cond.fieldLink RJ2 44 "java/lang/StringUTF16" "$assertionsDisabled" "Z"]
def wsL_law_r11 : List Cond := [Cond.fieldLink RJ2 59 "java/lang/StringUTF16" "HI_BYTE_SHIFT" "I", Cond.fieldLink RJ2 63 "java/lang/StringUTF16" "LO_BYTE_SHIFT" "I", Cond.methodLink RX7 102 yX7_isFigure, Cond.instanceMethod yX7_isFigure, Cond.selects RX7 yX7_isFigure yX7_isFigure, Cond.code yX7_isFigure cX7_isFigure 2 (some .boolean), Cond.methodLink RX7 105 yX7_scanNumber, Cond.instanceMethod yX7_scanNumber, Cond.selects RX7 yX7_scanNumber yX7_scanNumber, Cond.code yX7_scanNumber cX7_scanNumber 1 none, Cond.methodLink RX7 108 yX7_scanSign, Cond.instanceMethod yX7_scanSign, Cond.selects RX7 yX7_scanSign yX7_scanSign, Cond.code yX7_scanSign cX7_scanSign 2 none, Cond.methodLink RX7 42 yX7_readAct, Cond.instanceMethod yX7_readAct, Cond.selects RX7 yX7_readAct yX7_readAct, Cond.code yX7_readAct cX7_readAct 3 none, Cond.fieldLink RX7 59 "ShrinkingCalls$Book" "placesOf" "[I", Cond.methodLink RX7 55 yX7_stands, Cond.instanceMethod yX7_stands, Cond.selects RX7 yX7_stands yX7_stands, Cond.code yX7_stands cX7_stands 2 (some .boolean), Cond.methodLink RX7 46 yX7_readCall]
def wsL_law_r12 : List Cond := [Cond.instanceMethod yX7_readCall, Cond.selects RX7 yX7_readCall yX7_readCall, Cond.code yX7_readCall cX7_readCall 6 none, Cond.methodLink RX7 62 yX1_add, Cond.instanceMethod yX1_add, Cond.selects RX1 yX1_add yX1_add, Cond.code yX1_add cX1_add 3 none, Cond.methodLink RX7 66 yX7_readArc, Cond.instanceMethod yX7_readArc, Cond.selects RX7 yX7_readArc yX7_readArc, Cond.code yX7_readArc cX7_readArc 7 none, Cond.fieldLink RX7 70 "ShrinkingCalls$Book" "from" "[I", Cond.fieldLink RX7 73 "ShrinkingCalls$Book" "to" "[I", Cond.fieldLink RX7 76 "ShrinkingCalls$Book" "arcs" "[I", Cond.methodLink RX7 85 Lib.Math.max.name, Cond.static Lib.Math.max.name, Cond.initialized "java/lang/Math", Cond.code Lib.Math.max.name Lib.Math.max.code 2 (some .int), Cond.methodLink RX7 79 yX0_at, Cond.static yX0_at, Cond.initialized RX0, Cond.code yX0_at cX0_at 3 (some .int), Cond.methodLink RX7 91 yX0_with, Cond.static yX0_with]
def wsL_law_r13 : List Cond := [Cond.code yX0_with cX0_with 5 (some .int), Cond.methodLink RX9 81 yX1_copyFrom, Cond.instanceMethod yX1_copyFrom, Cond.selects RX1 yX1_copyFrom yX1_copyFrom, Cond.code yX1_copyFrom cX1_copyFrom 2 none, Cond.methodLink RX1 34 arraycopyName, Cond.native arraycopyName, Cond.static arraycopyName, Cond.initialized "java/lang/System", Cond.methodLink RX9 85 yX5_empty, Cond.instanceMethod yX5_empty, Cond.selects RX5 yX5_empty yX5_empty, Cond.code yX5_empty cX5_empty 2 (some .int), Cond.fieldLink RX5 13 "ShrinkingCalls$RoundTrip" "size" "I", Cond.methodLink RX9 86 yX9_forgetWhatFollows, Cond.instanceMethod yX9_forgetWhatFollows, Cond.selects RX9 yX9_forgetWhatFollows yX9_forgetWhatFollows, Cond.code yX9_forgetWhatFollows cX9_forgetWhatFollows 1 none, Cond.methodLink RX9 257 yX4_forget, Cond.instanceMethod yX4_forget, Cond.selects RX4 yX4_forget yX4_forget, Cond.code yX4_forget cX4_forget 1 none, Cond.fieldLink RX4 31 "ShrinkingCalls$Mending" "neededTried" "Z", Cond.methodLink RL 28 yX10_read]
def wsL_law_r14 : List Cond := [Cond.instanceMethod yX10_read, Cond.selects RX10 yX10_read yX10_read, Cond.code yX10_read cX10_read 3 (some .int), Cond.fieldLink RX10 130 "ShrinkingCallsModel" "readCalls" "I", Cond.fieldLink RX10 146 "ShrinkingCallsModel" "callMany" "I", Cond.fieldLink RX10 149 "ShrinkingCallsModel" "tripMany" "I", Cond.fieldLink RX10 133 "ShrinkingCallsModel" "readItems" "I", Cond.methodLink RX10 143 yX10_readAll, Cond.instanceMethod yX10_readAll, Cond.selects RX10 yX10_readAll yX10_readAll, Cond.code yX10_readAll cX10_readAll 3 (some .int), Cond.fieldLink RX10 97 "ShrinkingCallsModel" "place" "I", Cond.fieldLink RX10 90 "ShrinkingCallsModel" "begins" "I", Cond.methodLink RX10 119 yX10_token, Cond.instanceMethod yX10_token, Cond.selects RX10 yX10_token yX10_token, Cond.code yX10_token cX10_token 3 (some .int), Cond.fieldLink RX10 100 "ShrinkingCallsModel" "worth" "I", Cond.constantLong RX10 103 (65), Cond.constantLong RX10 105 (68), Cond.constantLong RX10 107 (48), Cond.constantLong RX10 109 (57), Cond.constantLong RX10 111 (97), Cond.constantLong RX10 113 (122)]
def wsL_law_r15 : List Cond := [Cond.methodLink RX10 93 yX10_byteAt, Cond.instanceMethod yX10_byteAt, Cond.selects RX10 yX10_byteAt yX10_byteAt, Cond.code yX10_byteAt cX10_byteAt 2 (some .int), Cond.methodLink RX10 115 yX10_isWord, Cond.instanceMethod yX10_isWord, Cond.selects RX10 yX10_isWord yX10_isWord, Cond.code yX10_isWord cX10_isWord 7 (some .boolean), Cond.methodLink RX10 136 yX10_actItem, Cond.instanceMethod yX10_actItem, Cond.selects RX10 yX10_actItem yX10_actItem, Cond.code yX10_actItem cX10_actItem 2 (some .boolean), Cond.methodLink RX10 123 yX10_number, Cond.instanceMethod yX10_number, Cond.selects RX10 yX10_number yX10_number, Cond.code yX10_number cX10_number 2 (some .boolean), Cond.methodLink RX10 127 yX10_sign, Cond.instanceMethod yX10_sign, Cond.selects RX10 yX10_sign yX10_sign, Cond.code yX10_sign cX10_sign 2 (some .boolean), Cond.methodLink RX10 140 yX10_callItem, Cond.instanceMethod yX10_callItem, Cond.selects RX10 yX10_callItem yX10_callItem, Cond.code yX10_callItem cX10_callItem 8 (some .boolean)]
def wsL_law_r16 : List Cond := [Cond.methodLink RL 29 yX9_places, Cond.instanceMethod yX9_places, Cond.selects RX9 yX9_places yX9_places, Cond.code yX9_places cX9_places 2 (some .int), Cond.fieldLink RX9 93 "ShrinkingCalls$Book" "placesOf" "[I", Cond.methodLink RX9 89 yX9_isAct, Cond.static yX9_isAct, Cond.code yX9_isAct cX9_isAct 1 (some .boolean), Cond.methodLink RL 33 yX10_places, Cond.instanceMethod yX10_places, Cond.selects RX10 yX10_places yX10_places, Cond.code yX10_places cX10_places 2 (some .int), Cond.methodLink RX10 154 yX10_isAct, Cond.static yX10_isAct, Cond.code yX10_isAct cX10_isAct 1 (some .boolean), Cond.constantLong RX10 152 (3), Cond.methodLink RL 34 yX9_call, Cond.instanceMethod yX9_call, Cond.selects RX9 yX9_call yX9_call, Cond.code yX9_call cX9_call 3 (some .int), Cond.fieldLink RX9 100 "ShrinkingCalls$Book" "from" "[I", Cond.fieldLink RX9 103 "ShrinkingCalls$Book" "to" "[I", Cond.fieldLink RX9 106 "ShrinkingCalls$Book" "arcs" "[I", Cond.methodLink RX9 97 yX1_hasCall]
def wsL_law_r17 : List Cond := [Cond.instanceMethod yX1_hasCall, Cond.selects RX1 yX1_hasCall yX1_hasCall, Cond.code yX1_hasCall cX1_hasCall 2 (some .boolean), Cond.methodLink RX9 109 yX0_toNumber, Cond.static yX0_toNumber, Cond.code yX0_toNumber cX0_toNumber 3 (some .int), Cond.methodLink RL 38 yX10_call, Cond.instanceMethod yX10_call, Cond.selects RX10 yX10_call yX10_call, Cond.code yX10_call cX10_call 3 (some .int), Cond.constantLong RX10 160 (2), Cond.methodLink RX10 157 yX10_isCall, Cond.instanceMethod yX10_isCall, Cond.selects RX10 yX10_isCall yX10_isCall, Cond.code yX10_isCall cX10_isCall 2 (some .boolean), Cond.methodLink RX10 162 yX10_numberOf, Cond.instanceMethod yX10_numberOf, Cond.selects RX10 yX10_numberOf yX10_numberOf, Cond.code yX10_numberOf cX10_numberOf 4 (some .int), Cond.methodLink RL 39 yX9_arc, Cond.instanceMethod yX9_arc, Cond.selects RX9 yX9_arc yX9_arc, Cond.code yX9_arc cX9_arc 4 (some .int), Cond.methodLink RX9 115 yX1_hasPair]
def wsL_law_r18 : List Cond := [Cond.instanceMethod yX1_hasPair, Cond.selects RX1 yX1_hasPair yX1_hasPair, Cond.code yX1_hasPair cX1_hasPair 4 (some .boolean), Cond.methodLink RX1 40 yX1_hasCall, Cond.methodLink RX9 119 yX0_at, Cond.methodLink RL 43 yX10_arc, Cond.instanceMethod yX10_arc, Cond.selects RX10 yX10_arc yX10_arc, Cond.code yX10_arc cX10_arc 4 (some .int), Cond.methodLink RX10 165 yX10_isArc, Cond.instanceMethod yX10_isArc, Cond.selects RX10 yX10_isArc yX10_isArc, Cond.code yX10_isArc cX10_isArc 4 (some .boolean), Cond.methodLink RL 44 yX9_put, Cond.instanceMethod yX9_put, Cond.selects RX9 yX9_put yX9_put, Cond.code yX9_put cX9_put 6 (some .int), Cond.methodLink RX9 123 yX0_with, Cond.methodLink RL 48 yX10_put, Cond.instanceMethod yX10_put, Cond.selects RX10 yX10_put yX10_put, Cond.code yX10_put cX10_put 6 (some .int), Cond.methodLink RL 49 yX9_graphs, Cond.instanceMethod yX9_graphs]
def wsL_law_r19 : List Cond := [Cond.selects RX9 yX9_graphs yX9_graphs, Cond.code yX9_graphs cX9_graphs 1 (some .int), Cond.fieldLink RX9 131 "ShrinkingCalls$Closure" "size" "I", Cond.methodLink RX9 127 yX9_isLarge, Cond.instanceMethod yX9_isLarge, Cond.selects RX9 yX9_isLarge yX9_isLarge, Cond.code yX9_isLarge cX9_isLarge 1 (some .boolean), Cond.fieldLink RX9 264 "ShrinkingCalls$Closure" "large" "Z", Cond.methodLink RX9 260 yX2_grow, Cond.instanceMethod yX2_grow, Cond.selects RX2 yX2_grow yX2_grow, Cond.code yX2_grow cX2_grow 5 none, Cond.fieldLink RX2 45 "ShrinkingCalls$Closure" "size" "I", Cond.fieldLink RX2 48 "ShrinkingCalls$Closure" "large" "Z", Cond.fieldLink RX2 52 "ShrinkingCalls$Closure" "inOrder" "Z", Cond.fieldLink RX2 55 "ShrinkingCalls$Closure" "badActs" "I", Cond.fieldLink RX2 58 "ShrinkingCalls$Book" "size" "I", Cond.fieldLink RX2 61 "ShrinkingCalls$Book" "arcs" "[I", Cond.fieldLink RX2 68 "ShrinkingCalls$Book" "from" "[I", Cond.fieldLink RX2 71 "ShrinkingCalls$Book" "to" "[I", Cond.methodLink RX2 64 yX2_prepare, Cond.instanceMethod yX2_prepare, Cond.selects RX2 yX2_prepare yX2_prepare, Cond.code yX2_prepare cX2_prepare 4 none]
def wsL_law_r20 : List Cond := [Cond.methodLink RX2 99 yX0_joinRow, Cond.static yX0_joinRow, Cond.code yX0_joinRow cX0_joinRow 6 (some .int), Cond.methodLink RX2 74 yX3_of, Cond.static yX3_of, Cond.initialized RX3, Cond.code yX3_of cX3_of 3 (some .int), Cond.methodLink RX2 80 yX2_add, Cond.instanceMethod yX2_add, Cond.selects RX2 yX2_add yX2_add, Cond.code yX2_add cX2_add 5 none, Cond.methodLink RX2 111 yX2_freeSlotFor, Cond.instanceMethod yX2_freeSlotFor, Cond.selects RX2 yX2_freeSlotFor yX2_freeSlotFor, Cond.code yX2_freeSlotFor cX2_freeSlotFor 5 (some .int), Cond.constant RX2 114 (-1640531535), Cond.methodLink RX2 84 yX3_isBad, Cond.static yX3_isBad, Cond.code yX3_isBad cX3_isBad 2 (some .boolean), Cond.constant RX3 9 (262143), Cond.methodLink RX3 10 yX3_from, Cond.static yX3_from, Cond.code yX3_from cX3_from 1 (some .int), Cond.methodLink RX3 14 yX3_to]
def wsL_law_r21 : List Cond := [Cond.static yX3_to, Cond.code yX3_to cX3_to 1 (some .int), Cond.methodLink RX3 23 yX0_hasLessToItself, Cond.static yX0_hasLessToItself, Cond.code yX0_hasLessToItself cX0_hasLessToItself 1 (some .boolean), Cond.constant RX0 18 (131586), Cond.methodLink RX3 17 yX0_join, Cond.static yX0_join, Cond.code yX0_join cX0_join 4 (some .int), Cond.methodLink RX0 11 yX0_row, Cond.static yX0_row, Cond.code yX0_row cX0_row 2 (some .int), Cond.methodLink RX0 15 yX0_joinRow, Cond.methodLink RX2 88 yX2_noteBad, Cond.instanceMethod yX2_noteBad, Cond.selects RX2 yX2_noteBad yX2_noteBad, Cond.code yX2_noteBad cX2_noteBad 2 none, Cond.methodLink RX2 96 yX3_from, Cond.methodLink RX2 92 yX2_goOnFrom, Cond.instanceMethod yX2_goOnFrom, Cond.selects RX2 yX2_goOnFrom yX2_goOnFrom, Cond.code yX2_goOnFrom cX2_goOnFrom 8 none, Cond.methodLink RX2 103 yX3_to, Cond.methodLink RX2 105 yX2_joinedWithCall]
def wsL_law_r22 : List Cond := [Cond.instanceMethod yX2_joinedWithCall, Cond.selects RX2 yX2_joinedWithCall yX2_joinedWithCall, Cond.code yX2_joinedWithCall cX2_joinedWithCall 4 (some .int), Cond.methodLink RX2 108 yX0_row, Cond.methodLink RL 52 yX10_graphs, Cond.instanceMethod yX10_graphs, Cond.selects RX10 yX10_graphs yX10_graphs, Cond.code yX10_graphs cX10_graphs 1 (some .int), Cond.fieldLink RX10 185 "ShrinkingCallsModel" "many" "I", Cond.methodLink RX10 202 yX10_layGraphs, Cond.instanceMethod yX10_layGraphs, Cond.selects RX10 yX10_layGraphs yX10_layGraphs, Cond.code yX10_layGraphs cX10_layGraphs 5 (some .boolean), Cond.fieldLink RX10 182 "ShrinkingCallsModel" "stamp" "I", Cond.constant RX10 188 (2000000000), Cond.methodLink RX10 189 yX10_has, Cond.static yX10_has, Cond.code yX10_has cX10_has 2 (some .boolean), Cond.methodLink RX10 193 yX10_note, Cond.instanceMethod yX10_note, Cond.selects RX10 yX10_note yX10_note, Cond.code yX10_note cX10_note 5 (some .boolean), Cond.methodLink RX10 179 yX10_codeOf, Cond.static yX10_codeOf]
def wsL_law_r23 : List Cond := [Cond.code yX10_codeOf cX10_codeOf 3 (some .int), Cond.methodLink RX10 175 yX10_put2, Cond.instanceMethod yX10_put2, Cond.selects RX10 yX10_put2 yX10_put2, Cond.code yX10_put2 cX10_put2 10 (some .int), Cond.methodLink RX10 169 yX10_digit, Cond.instanceMethod yX10_digit, Cond.selects RX10 yX10_digit yX10_digit, Cond.code yX10_digit cX10_digit 4 (some .int), Cond.methodLink RL 53 yX9_graph, Cond.instanceMethod yX9_graph, Cond.selects RX9 yX9_graph yX9_graph, Cond.code yX9_graph cX9_graph 4 (some .int), Cond.methodLink RX9 132 yX2_keyInOrder, Cond.instanceMethod yX2_keyInOrder, Cond.selects RX2 yX2_keyInOrder yX2_keyInOrder, Cond.code yX2_keyInOrder cX2_keyInOrder 3 (some .int), Cond.methodLink RX2 118 arraycopyName, Cond.fieldLink RX2 124 "ShrinkingCalls$Closure" "GAPS" "[I", Cond.methodLink RX2 127 yX2_sortByGap, Cond.instanceMethod yX2_sortByGap, Cond.selects RX2 yX2_sortByGap yX2_sortByGap, Cond.code yX2_sortByGap cX2_sortByGap 5 none, Cond.methodLink RX9 135 yX3_from]
def wsL_law_r24 : List Cond := [Cond.methodLink RX9 139 yX3_to, Cond.methodLink RX9 141 yX3_arcs, Cond.static yX3_arcs, Cond.code yX3_arcs cX3_arcs 1 (some .int), Cond.methodLink RX9 143 yX3_isRound, Cond.static yX3_isRound, Cond.code yX3_isRound cX3_isRound 2 (some .boolean), Cond.methodLink RX9 146 yX3_isBad, Cond.methodLink RL 56 yX10_graph, Cond.instanceMethod yX10_graph, Cond.selects RX10 yX10_graph yX10_graph, Cond.code yX10_graph cX10_graph 6 (some .int), Cond.constantLong RX10 205 (4), Cond.methodLink RX10 207 yX10_orderOf, Cond.instanceMethod yX10_orderOf, Cond.selects RX10 yX10_orderOf yX10_orderOf, Cond.code yX10_orderOf cX10_orderOf 2 (some .int), Cond.methodLink RX10 196 yX10_isRound, Cond.instanceMethod yX10_isRound, Cond.selects RX10 yX10_isRound yX10_isRound, Cond.code yX10_isRound cX10_isRound 2 (some .boolean), Cond.methodLink RX10 199 yX10_isBad, Cond.instanceMethod yX10_isBad, Cond.selects RX10 yX10_isBad yX10_isBad]
def wsL_law_r25 : List Cond := [Cond.code yX10_isBad cX10_isBad 4 (some .boolean), Cond.methodLink RL 57 yX9_together, Cond.instanceMethod yX9_together, Cond.selects RX9 yX9_together yX9_together, Cond.code yX9_together cX9_together 3 (some .int), Cond.methodLink RX9 149 yX0_isNumber, Cond.static yX0_isNumber, Cond.code yX0_isNumber cX0_isNumber 1 (some .boolean), Cond.methodLink RX9 152 yX0_fromNumber, Cond.static yX0_fromNumber, Cond.code yX0_fromNumber cX0_fromNumber 4 (some .int), Cond.methodLink RX9 155 yX0_join, Cond.methodLink RL 60 yX10_together, Cond.instanceMethod yX10_together, Cond.selects RX10 yX10_together yX10_together, Cond.code yX10_together cX10_together 3 (some .int), Cond.constantLong RX10 173 (19682), Cond.methodLink RL 61 yX9_ends, Cond.instanceMethod yX9_ends, Cond.selects RX9 yX9_ends yX9_ends, Cond.code yX9_ends cX9_ends 3 (some .int), Cond.fieldLink RX9 159 "ShrinkingCalls$Closure" "badActs" "I", Cond.methodLink RL 64 yX10_ends, Cond.instanceMethod yX10_ends]
def wsL_law_r26 : List Cond := [Cond.selects RX10 yX10_ends yX10_ends, Cond.code yX10_ends cX10_ends 2 (some .int), Cond.constantLong RX10 210 (-1), Cond.methodLink RX10 212 yX10_noneBad, Cond.instanceMethod yX10_noneBad, Cond.selects RX10 yX10_noneBad yX10_noneBad, Cond.code yX10_noneBad cX10_noneBad 4 (some .boolean), Cond.methodLink RL 65 yX9_shortest, Cond.instanceMethod yX9_shortest, Cond.selects RX9 yX9_shortest yX9_shortest, Cond.code yX9_shortest cX9_shortest 3 (some .int), Cond.fieldLink RX9 162 "ShrinkingCalls$Closure" "firstBad" "I", Cond.methodLink RX9 165 yX2_wayLength, Cond.instanceMethod yX2_wayLength, Cond.selects RX2 yX2_wayLength yX2_wayLength, Cond.code yX2_wayLength cX2_wayLength 4 (some .int), Cond.methodLink RX9 168 yX2_callOnWay, Cond.instanceMethod yX2_callOnWay, Cond.selects RX2 yX2_callOnWay yX2_callOnWay, Cond.code yX2_callOnWay cX2_callOnWay 5 (some .int), Cond.methodLink RX2 115 yX2_wayLength, Cond.methodLink RL 68 yX10_shortest, Cond.instanceMethod yX10_shortest, Cond.selects RX10 yX10_shortest yX10_shortest]
def wsL_law_r27 : List Cond := [Cond.code yX10_shortest cX10_shortest 3 (some .int), Cond.fieldLink RX10 215 "ShrinkingCallsModel" "bestWord" "I", Cond.methodLink RX10 218 yX10_layShortest, Cond.instanceMethod yX10_layShortest, Cond.selects RX10 yX10_layShortest yX10_layShortest, Cond.code yX10_layShortest cX10_layShortest 6 (some .int), Cond.methodLink RL 69 yX9_go, Cond.instanceMethod yX9_go, Cond.selects RX9 yX9_go yX9_go, Cond.code yX9_go cX9_go 2 (some .int), Cond.fieldLink RX9 177 "ShrinkingCalls$RoundTrip" "size" "I", Cond.methodLink RX9 171 yX5_goesOnBy, Cond.instanceMethod yX5_goesOnBy, Cond.selects RX5 yX5_goesOnBy yX5_goesOnBy, Cond.code yX5_goesOnBy cX5_goesOnBy 3 (some .boolean), Cond.fieldLink RX5 17 "ShrinkingCalls$Book" "to" "[I", Cond.fieldLink RX5 22 "ShrinkingCalls$Book" "from" "[I", Cond.methodLink RX9 175 yX5_take, Cond.instanceMethod yX5_take, Cond.selects RX5 yX5_take yX5_take, Cond.code yX5_take cX5_take 2 (some .boolean), Cond.methodLink RL 72 yX10_go, Cond.instanceMethod yX10_go, Cond.selects RX10 yX10_go yX10_go]
def wsL_law_r28 : List Cond := [Cond.code yX10_go cX10_go 2 (some .int), Cond.methodLink RL 73 yX9_anew, Cond.instanceMethod yX9_anew, Cond.selects RX9 yX9_anew yX9_anew, Cond.code yX9_anew cX9_anew 1 (some .int), Cond.methodLink RL 76 yX10_anew, Cond.instanceMethod yX10_anew, Cond.selects RX10 yX10_anew yX10_anew, Cond.code yX10_anew cX10_anew 2 (some .int), Cond.methodLink RL 77 yX9_trip, Cond.instanceMethod yX9_trip, Cond.selects RX9 yX9_trip yX9_trip, Cond.code yX9_trip cX9_trip 3 (some .int), Cond.methodLink RX9 178 yX5_comesBack, Cond.instanceMethod yX5_comesBack, Cond.selects RX5 yX5_comesBack yX5_comesBack, Cond.code yX5_comesBack cX5_comesBack 2 (some .boolean), Cond.methodLink RX9 182 yX5_arcsOfAll, Cond.instanceMethod yX5_arcsOfAll, Cond.selects RX5 yX5_arcsOfAll yX5_arcsOfAll, Cond.code yX5_arcsOfAll cX5_arcsOfAll 4 (some .int), Cond.fieldLink RX5 25 "ShrinkingCalls$Book" "arcs" "[I", Cond.methodLink RX5 28 yX0_join, Cond.methodLink RX9 185 yX0_threads]
def wsL_law_r29 : List Cond := [Cond.static yX0_threads, Cond.code yX0_threads cX0_threads 5 (some .int), Cond.methodLink RX0 23 yX0_leadsTo, Cond.static yX0_leadsTo, Cond.code yX0_leadsTo cX0_leadsTo 4 (some .boolean), Cond.methodLink RX0 19 yX0_at, Cond.methodLink RX9 188 yX0_falls, Cond.static yX0_falls, Cond.code yX0_falls cX0_falls 2 (some .boolean), Cond.methodLink RX0 27 yX0_join, Cond.methodLink RX0 30 yX0_hasLessToItself, Cond.methodLink RL 80 yX10_trip, Cond.instanceMethod yX10_trip, Cond.selects RX10 yX10_trip yX10_trip, Cond.code yX10_trip cX10_trip 4 (some .int), Cond.methodLink RX10 221 yX10_threadsOf, Cond.instanceMethod yX10_threadsOf, Cond.selects RX10 yX10_threadsOf yX10_threadsOf, Cond.code yX10_threadsOf cX10_threadsOf 8 (some .int), Cond.methodLink RX10 224 yX10_falls, Cond.instanceMethod yX10_falls, Cond.selects RX10 yX10_falls yX10_falls, Cond.code yX10_falls cX10_falls 6 (some .boolean), Cond.methodLink RL 81 yX9_slow]
def wsL_law_r30 : List Cond := [Cond.instanceMethod yX9_slow, Cond.selects RX9 yX9_slow yX9_slow, Cond.code yX9_slow cX9_slow 3 (some .int), Cond.fieldLink RX9 191 "ShrinkingCalls" "ORDERS" "[I", Cond.methodLink RX9 194 yX9_isOrderOf, Cond.static yX9_isOrderOf, Cond.code yX9_isOrderOf cX9_isOrderOf 3 (some .boolean), Cond.methodLink RX9 198 yX2_fallsBy, Cond.instanceMethod yX2_fallsBy, Cond.selects RX2 yX2_fallsBy yX2_fallsBy, Cond.code yX2_fallsBy cX2_fallsBy 5 (some .boolean), Cond.methodLink RX2 130 yX3_arcs, Cond.methodLink RX2 132 yX2_fallsByOrder, Cond.static yX2_fallsByOrder, Cond.code yX2_fallsByOrder cX2_fallsByOrder 5 (some .boolean), Cond.methodLink RX2 136 yX0_at, Cond.methodLink RL 84 yX10_slow, Cond.instanceMethod yX10_slow, Cond.selects RX10 yX10_slow yX10_slow, Cond.code yX10_slow cX10_slow 9 (some .int), Cond.methodLink RX10 230 yX10_isSlow, Cond.instanceMethod yX10_isSlow, Cond.selects RX10 yX10_isSlow yX10_isSlow, Cond.code yX10_isSlow cX10_isSlow 5 (some .boolean)]
def wsL_law_r31 : List Cond := [Cond.methodLink RX10 227 yX10_fallsBy, Cond.instanceMethod yX10_fallsBy, Cond.selects RX10 yX10_fallsBy yX10_fallsBy, Cond.code yX10_fallsBy cX10_fallsBy 5 (some .boolean), Cond.methodLink RL 85 yX9_mended, Cond.instanceMethod yX9_mended, Cond.selects RX9 yX9_mended yX9_mended, Cond.code yX9_mended cX9_mended 3 (some .int), Cond.methodLink RX9 201 yX4_leastSet, Cond.instanceMethod yX4_leastSet, Cond.selects RX4 yX4_leastSet yX4_leastSet, Cond.code yX4_leastSet cX4_leastSet 5 (some .int), Cond.fieldLink RX4 35 "ShrinkingCalls$Mending" "badWaysSize" "I", Cond.fieldLink RX4 38 "ShrinkingCalls$Book" "size" "I", Cond.methodLink RX4 43 yJ6_bitCount_0f7a4, Cond.static yJ6_bitCount_0f7a4, Cond.initialized RJ6, Cond.code yJ6_bitCount_0f7a4 cJ6_bitCount_0f7a4 1 (some .int), Cond.constant RJ6 265 (1431655765), Cond.constant RJ6 266 (858993459), Cond.constant RJ6 267 (252645135), Cond.methodLink RX4 49 yX4_mends, Cond.instanceMethod yX4_mends, Cond.selects RX4 yX4_mends yX4_mends]
def wsL_law_r32 : List Cond := [Cond.code yX4_mends cX4_mends 4 (some .boolean), Cond.fieldLink RX4 57 "ShrinkingCalls$Closure" "firstBad" "I", Cond.methodLink RX4 53 yX2_grow, Cond.methodLink RX4 60 yX2_callsOnWay, Cond.instanceMethod yX2_callsOnWay, Cond.selects RX2 yX2_callsOnWay yX2_callsOnWay, Cond.code yX2_callsOnWay cX2_callsOnWay 5 (some .int), Cond.methodLink RX9 204 yJ6_bitCount_0f7a4, Cond.methodLink RL 88 yX10_mended, Cond.instanceMethod yX10_mended, Cond.selects RX10 yX10_mended yX10_mended, Cond.code yX10_mended cX10_mended 4 (some .int), Cond.methodLink RX10 233 yX10_bits, Cond.static yX10_bits, Cond.code yX10_bits cX10_bits 3 (some .int), Cond.methodLink RL 89 yX9_needed, Cond.instanceMethod yX9_needed, Cond.selects RX9 yX9_needed yX9_needed, Cond.code yX9_needed cX9_needed 2 (some .int), Cond.fieldLink RX9 212 "ShrinkingCalls$Mending" "neededSize" "I", Cond.methodLink RX9 209 yX4_findsNeeded, Cond.instanceMethod yX4_findsNeeded, Cond.selects RX4 yX4_findsNeeded yX4_findsNeeded, Cond.code yX4_findsNeeded cX4_findsNeeded 3 (some .boolean)]
def wsL_law_r33 : List Cond := [Cond.fieldLink RX4 63 "ShrinkingCalls$Mending" "neededSize" "I", Cond.fieldLink RX4 66 "ShrinkingCalls$Mending" "neededFound" "Z", Cond.methodLink RX4 69 yX4_tryKept, Cond.instanceMethod yX4_tryKept, Cond.selects RX4 yX4_tryKept yX4_tryKept, Cond.code yX4_tryKept cX4_tryKept 7 none, Cond.fieldLink RX4 77 "ShrinkingCalls$Book" "arcs" "[I", Cond.fieldLink RX4 88 "ShrinkingCalls$Closure" "large" "Z", Cond.methodLink RX4 73 yX1_hasPair, Cond.methodLink RX4 80 yX0_at, Cond.methodLink RX4 84 yX0_with, Cond.methodLink RX9 215 yX4_neededAt, Cond.instanceMethod yX4_neededAt, Cond.selects RX4 yX4_neededAt yX4_neededAt, Cond.code yX4_neededAt cX4_neededAt 2 (some .int), Cond.methodLink RL 92 yX10_needed, Cond.instanceMethod yX10_needed, Cond.selects RX10 yX10_needed yX10_needed, Cond.code yX10_needed cX10_needed 6 (some .int), Cond.methodLink RL 93 yX9_most, Cond.instanceMethod yX9_most, Cond.selects RX9 yX9_most yX9_most, Cond.code yX9_most cX9_most 3 (some .int), Cond.fieldLink RX9 218 "ShrinkingCalls$Runs" "most" "I"]
def wsL_law_r34 : List Cond := [Cond.methodLink RL 96 yX10_most, Cond.instanceMethod yX10_most, Cond.selects RX10 yX10_most yX10_most, Cond.code yX10_most cX10_most 3 (some .int), Cond.methodLink RL 97 yX9_longest, Cond.instanceMethod yX9_longest, Cond.selects RX9 yX9_longest yX9_longest, Cond.code yX9_longest cX9_longest 6 (some .int), Cond.methodLink RX9 221 yX6_stateOf, Cond.instanceMethod yX6_stateOf, Cond.selects RX6 yX6_stateOf yX6_stateOf, Cond.code yX6_stateOf cX6_stateOf 7 (some .int), Cond.fieldLink RX6 28 "ShrinkingCalls$Book" "placesOf" "[I", Cond.methodLink RX6 33 yX6_fits, Cond.instanceMethod yX6_fits, Cond.selects RX6 yX6_fits yX6_fits, Cond.code yX6_fits cX6_fits 3 (some .boolean), Cond.methodLink RX9 225 yX6_longestFrom, Cond.instanceMethod yX6_longestFrom, Cond.selects RX6 yX6_longestFrom yX6_longestFrom, Cond.code yX6_longestFrom cX6_longestFrom 6 (some .int), Cond.fieldLink RX6 64 "ShrinkingCalls$Runs" "depth" "I", Cond.fieldLink RX6 78 "ShrinkingCalls$Book" "from" "[I", Cond.methodLink RX6 58 yJ7_fill_53178]
def wsL_law_r35 : List Cond := [Cond.methodLink RX6 67 yX6_openState, Cond.instanceMethod yX6_openState, Cond.selects RX6 yX6_openState yX6_openState, Cond.code yX6_openState cX6_openState 2 none, Cond.methodLink RX6 71 yX1_hasCall, Cond.methodLink RX6 75 yX6_closeState, Cond.instanceMethod yX6_closeState, Cond.selects RX6 yX6_closeState yX6_closeState, Cond.code yX6_closeState cX6_closeState 2 none, Cond.methodLink RX6 85 yX6_lengthen, Cond.instanceMethod yX6_lengthen, Cond.selects RX6 yX6_lengthen yX6_lengthen, Cond.code yX6_lengthen cX6_lengthen 3 none, Cond.methodLink RX6 89 Lib.Math.max.name, Cond.methodLink RX6 81 yX6_goesBy, Cond.instanceMethod yX6_goesBy, Cond.selects RX6 yX6_goesBy yX6_goesBy, Cond.code yX6_goesBy cX6_goesBy 5 (some .boolean), Cond.methodLink RX6 92 yX6_greatestAfter, Cond.instanceMethod yX6_greatestAfter, Cond.selects RX6 yX6_greatestAfter yX6_greatestAfter, Cond.code yX6_greatestAfter cX6_greatestAfter 8 (some .int), Cond.fieldLink RX6 37 "ShrinkingCalls$Book" "to" "[I", Cond.fieldLink RX6 40 "ShrinkingCalls$Book" "arcs" "[I"]
def wsL_law_r36 : List Cond := [Cond.methodLink RX6 43 yX6_greatestAt, Cond.instanceMethod yX6_greatestAt, Cond.selects RX6 yX6_greatestAt yX6_greatestAt, Cond.code yX6_greatestAt cX6_greatestAt 8 (some .int), Cond.methodLink RX6 52 Lib.Math.min.name, Cond.static Lib.Math.min.name, Cond.code Lib.Math.min.name Lib.Math.min.code 2 (some .int), Cond.methodLink RX6 47 yX0_at, Cond.methodLink RL 100 yX10_longest, Cond.instanceMethod yX10_longest, Cond.selects RX10 yX10_longest yX10_longest, Cond.code yX10_longest cX10_longest 10 (some .int), Cond.methodLink RX10 245 yX10_stateOf, Cond.instanceMethod yX10_stateOf, Cond.selects RX10 yX10_stateOf yX10_stateOf, Cond.code yX10_stateOf cX10_stateOf 6 (some .int), Cond.methodLink RX10 242 yX10_isState, Cond.instanceMethod yX10_isState, Cond.selects RX10 yX10_isState yX10_isState, Cond.code yX10_isState cX10_isState 5 (some .boolean), Cond.methodLink RX10 236 yX10_size, Cond.static yX10_size, Cond.code yX10_size cX10_size 2 (some .int), Cond.methodLink RX10 249 yX10_goesTo]
def wsL_law_r37 : List Cond := [Cond.instanceMethod yX10_goesTo, Cond.selects RX10 yX10_goesTo yX10_goesTo, Cond.code yX10_goesTo cX10_goesTo 5 (some .boolean), Cond.methodLink RX10 239 yX10_leads, Cond.instanceMethod yX10_leads, Cond.selects RX10 yX10_leads yX10_leads, Cond.code yX10_leads cX10_leads 8 (some .boolean), Cond.methodLink RL 101 yX9_next, Cond.instanceMethod yX9_next, Cond.selects RX9 yX9_next yX9_next, Cond.code yX9_next cX9_next 6 (some .int), Cond.methodLink RX9 229 yX6_statesAfter, Cond.instanceMethod yX6_statesAfter, Cond.selects RX6 yX6_statesAfter yX6_statesAfter, Cond.code yX6_statesAfter cX6_statesAfter 5 (some .int), Cond.fieldLink RX6 96 "ShrinkingCalls$Book" "size" "I", Cond.methodLink RX6 99 yX6_markUpTo, Cond.instanceMethod yX6_markUpTo, Cond.selects RX6 yX6_markUpTo yX6_markUpTo, Cond.code yX6_markUpTo cX6_markUpTo 5 (some .int), Cond.methodLink RX6 103 yX6_isWithin, Cond.static yX6_isWithin, Cond.code yX6_isWithin cX6_isWithin 2 (some .boolean), Cond.methodLink RL 104 yX10_next]
def wsL_law_r38 : List Cond := [Cond.instanceMethod yX10_next, Cond.selects RX10 yX10_next yX10_next, Cond.code yX10_next cX10_next 8 (some .int), Cond.methodLink RL 105 yX9_weight, Cond.instanceMethod yX9_weight, Cond.selects RX9 yX9_weight yX9_weight, Cond.code yX9_weight cX9_weight 3 (some .int), Cond.methodLink RX9 232 yX8_ofCall, Cond.instanceMethod yX8_ofCall, Cond.selects RX8 yX8_ofCall yX8_ofCall, Cond.code yX8_ofCall cX8_ofCall 3 (some .int), Cond.fieldLink RX8 9 "ShrinkingCalls$Weights" "asked" "J", Cond.fieldLink RX8 15 "ShrinkingCalls$Book" "arcs" "[I", Cond.methodLink RX8 21 yX0_howMany, Cond.static yX0_howMany, Cond.code yX0_howMany cX0_howMany 4 (some .int), Cond.methodLink RX9 235 yX8_ofSelf, Cond.instanceMethod yX8_ofSelf, Cond.selects RX8 yX8_ofSelf yX8_ofSelf, Cond.code yX8_ofSelf cX8_ofSelf 3 (some .int), Cond.constantLong RX8 27 (10), Cond.methodLink RX8 29 yX8_ofCall, Cond.methodLink RX9 238 yX8_ofOther, Cond.instanceMethod yX8_ofOther]
def wsL_law_r39 : List Cond := [Cond.selects RX8 yX8_ofOther yX8_ofOther, Cond.code yX8_ofOther cX8_ofOther 3 (some .int), Cond.constantLong RX8 33 (100), Cond.methodLink RX9 241 yX8_ofPlain, Cond.instanceMethod yX8_ofPlain, Cond.selects RX8 yX8_ofPlain yX8_ofPlain, Cond.code yX8_ofPlain cX8_ofPlain 3 (some .int), Cond.constantLong RX8 35 (1000), Cond.methodLink RX8 37 yX8_ofSelf, Cond.methodLink RX8 40 yX0_howManyToThemselves, Cond.static yX0_howManyToThemselves, Cond.code yX0_howManyToThemselves cX0_howManyToThemselves 3 (some .int), Cond.methodLink RX9 244 yX8_ofFar, Cond.instanceMethod yX8_ofFar, Cond.selects RX8 yX8_ofFar yX8_ofFar, Cond.code yX8_ofFar cX8_ofFar 3 (some .int), Cond.constantLong RX8 44 (10000), Cond.fieldLink RX8 49 "ShrinkingCalls$Book" "placesOf" "[I", Cond.fieldLink RX8 52 "ShrinkingCalls$Book" "to" "[I", Cond.methodLink RX8 46 yX8_ofOther, Cond.methodLink RL 108 yX10_weight, Cond.instanceMethod yX10_weight, Cond.selects RX10 yX10_weight yX10_weight, Cond.code yX10_weight cX10_weight 3 (some .int)]
def wsL_law_r40 : List Cond := [Cond.fieldLink RX10 252 "ShrinkingCallsModel" "trace" "J", Cond.constantLong RX10 272 (1000), Cond.constantLong RX10 274 (10000), Cond.methodLink RX10 261 yX10_plainWeight, Cond.instanceMethod yX10_plainWeight, Cond.selects RX10 yX10_plainWeight yX10_plainWeight, Cond.code yX10_plainWeight cX10_plainWeight 2 (some .int), Cond.methodLink RX10 256 yX10_arcsOf, Cond.instanceMethod yX10_arcsOf, Cond.selects RX10 yX10_arcsOf yX10_arcsOf, Cond.code yX10_arcsOf cX10_arcsOf 5 (some .int), Cond.methodLink RX10 266 yX10_selfWeight, Cond.instanceMethod yX10_selfWeight, Cond.selects RX10 yX10_selfWeight yX10_selfWeight, Cond.code yX10_selfWeight cX10_selfWeight 2 (some .int), Cond.constantLong RX10 259 (10), Cond.methodLink RX10 269 yX10_otherWeight, Cond.instanceMethod yX10_otherWeight, Cond.selects RX10 yX10_otherWeight yX10_otherWeight, Cond.code yX10_otherWeight cX10_otherWeight 2 (some .int), Cond.constantLong RX10 264 (100), Cond.methodLink RL 109 yX9_count, Cond.instanceMethod yX9_count, Cond.selects RX9 yX9_count yX9_count]
def wsL_law_r41 : List Cond := [Cond.code yX9_count cX9_count 2 (some .int), Cond.fieldLink RX9 247 "ShrinkingCalls$Book" "size" "I", Cond.methodLink RX9 248 yX1_placesOfAll, Cond.instanceMethod yX1_placesOfAll, Cond.selects RX1 yX1_placesOfAll yX1_placesOfAll, Cond.code yX1_placesOfAll cX1_placesOfAll 3 (some .int), Cond.methodLink RX9 251 yX1_arcsOfAll, Cond.instanceMethod yX1_arcsOfAll, Cond.selects RX1 yX1_arcsOfAll yX1_arcsOfAll, Cond.code yX1_arcsOfAll cX1_arcsOfAll 3 (some .int), Cond.methodLink RX1 44 yX0_howMany, Cond.methodLink RL 112 yX10_count, Cond.instanceMethod yX10_count, Cond.selects RX10 yX10_count yX10_count, Cond.code yX10_count cX10_count 4 (some .int), Cond.methodLink RL 113 yX9_trace, Cond.instanceMethod yX9_trace, Cond.selects RX9 yX9_trace yX9_trace, Cond.code yX9_trace cX9_trace 1 (some .long), Cond.fieldLink RX9 253 "ShrinkingCalls$Weights" "asked" "J", Cond.methodLink RL 117 yX10_trace, Cond.instanceMethod yX10_trace, Cond.selects RX10 yX10_trace yX10_trace, Cond.code yX10_trace cX10_trace 1 (some .long)]
def wsL_law : List Cond := (wsL_law_r1 ++ (wsL_law_r2 ++ (wsL_law_r3 ++ (wsL_law_r4 ++ (wsL_law_r5 ++ (wsL_law_r6 ++ (wsL_law_r7 ++ (wsL_law_r8 ++ (wsL_law_r9 ++ (wsL_law_r10 ++ (wsL_law_r11 ++ (wsL_law_r12 ++ (wsL_law_r13 ++ (wsL_law_r14 ++ (wsL_law_r15 ++ (wsL_law_r16 ++ (wsL_law_r17 ++ (wsL_law_r18 ++ (wsL_law_r19 ++ (wsL_law_r20 ++ (wsL_law_r21 ++ (wsL_law_r22 ++ (wsL_law_r23 ++ (wsL_law_r24 ++ (wsL_law_r25 ++ (wsL_law_r26 ++ (wsL_law_r27 ++ (wsL_law_r28 ++ (wsL_law_r29 ++ (wsL_law_r30 ++ (wsL_law_r31 ++ (wsL_law_r32 ++ (wsL_law_r33 ++ (wsL_law_r34 ++ (wsL_law_r35 ++ (wsL_law_r36 ++ (wsL_law_r37 ++ (wsL_law_r38 ++ (wsL_law_r39 ++ (wsL_law_r40 ++ wsL_law_r41)))))))))))))))))))))))))))))))))))))))) ++ wsX90 ++ wsX100 ++ wsX70 ++ wsX10 ++ wsX50 ++ wsX20 ++ wsX40 ++ wsX60 ++ wsX80 ++ ([] : List Cond)
abbrev vwCl : List vw_C := [(RX1, TX1, 5), (RX2, TX2, 12), (RX4, TX4, 8), (RX5, TX5, 2), (RX6, TX6, 6), (RX7, TX7, 8), (RX8, TX8, 1), (RX9, TX9, 9), (RX10, TX10, 34)]
end
section
theorem mm0 {α : Type} {Ts : List α} {w : α} (i : Nat) (h : Ts[i]? = some w) : w ∈ Ts := List.mem_of_getElem? h
set_option maxRecDepth 20000 in
theorem wwGood : wsL_law.all goodWord = true := by decide +kernel
def wwA : List Cond := (wsL_law_r1 ++ (wsL_law_r2 ++ (wsL_law_r3 ++ (wsL_law_r4 ++ (wsL_law_r5 ++ (wsL_law_r6 ++ (wsL_law_r7 ++ (wsL_law_r8 ++ (wsL_law_r9 ++ (wsL_law_r10 ++ (wsL_law_r11 ++ (wsL_law_r12 ++ (wsL_law_r13 ++ (wsL_law_r14 ++ (wsL_law_r15 ++ (wsL_law_r16 ++ (wsL_law_r17 ++ (wsL_law_r18 ++ (wsL_law_r19 ++ (wsL_law_r20 ++ (wsL_law_r21 ++ (wsL_law_r22 ++ (wsL_law_r23 ++ (wsL_law_r24 ++ (wsL_law_r25 ++ (wsL_law_r26 ++ (wsL_law_r27 ++ (wsL_law_r28 ++ (wsL_law_r29 ++ (wsL_law_r30 ++ (wsL_law_r31 ++ (wsL_law_r32 ++ (wsL_law_r33 ++ (wsL_law_r34 ++ (wsL_law_r35 ++ (wsL_law_r36 ++ (wsL_law_r37 ++ (wsL_law_r38 ++ (wsL_law_r39 ++ (wsL_law_r40 ++ wsL_law_r41))))))))))))))))))))))))))))))))))))))))
theorem wwA_in : ∀ w ∈ wwA, w ∈ wsL_law := fun w h => List.mem_append_left _ (List.mem_append_left _ (List.mem_append_left _ (List.mem_append_left _ (List.mem_append_left _ (List.mem_append_left _ (List.mem_append_left _ (List.mem_append_left _ (List.mem_append_left _ (List.mem_append_left _ (h))))))))))
theorem ck_1 : ∀ w ∈ wsL_law_r1, w ∈ wsL_law := fun w h => wwA_in w (List.mem_append_left _ h)
theorem ck_2 : ∀ w ∈ wsL_law_r2, w ∈ wsL_law := fun w h => wwA_in w (List.mem_append_right _ (List.mem_append_left _ h))
theorem ck_3 : ∀ w ∈ wsL_law_r3, w ∈ wsL_law := fun w h => wwA_in w (List.mem_append_right _ (List.mem_append_right _ (List.mem_append_left _ h)))
theorem ck_4 : ∀ w ∈ wsL_law_r4, w ∈ wsL_law := fun w h => wwA_in w (List.mem_append_right _ (List.mem_append_right _ (List.mem_append_right _ (List.mem_append_left _ h))))
theorem ck_5 : ∀ w ∈ wsL_law_r5, w ∈ wsL_law := fun w h => wwA_in w (List.mem_append_right _ (List.mem_append_right _ (List.mem_append_right _ (List.mem_append_right _ (List.mem_append_left _ h)))))
theorem ck_6 : ∀ w ∈ wsL_law_r6, w ∈ wsL_law := fun w h => wwA_in w (List.mem_append_right _ (List.mem_append_right _ (List.mem_append_right _ (List.mem_append_right _ (List.mem_append_right _ (List.mem_append_left _ h))))))
theorem ck_7 : ∀ w ∈ wsL_law_r7, w ∈ wsL_law := fun w h => wwA_in w (List.mem_append_right _ (List.mem_append_right _ (List.mem_append_right _ (List.mem_append_right _ (List.mem_append_right _ (List.mem_append_right _ (List.mem_append_left _ h)))))))
theorem ck_8 : ∀ w ∈ wsL_law_r8, w ∈ wsL_law := fun w h => wwA_in w (List.mem_append_right _ (List.mem_append_right _ (List.mem_append_right _ (List.mem_append_right _ (List.mem_append_right _ (List.mem_append_right _ (List.mem_append_right _ (List.mem_append_left _ h))))))))
theorem ck_9 : ∀ w ∈ wsL_law_r9, w ∈ wsL_law := fun w h => wwA_in w (List.mem_append_right _ (List.mem_append_right _ (List.mem_append_right _ (List.mem_append_right _ (List.mem_append_right _ (List.mem_append_right _ (List.mem_append_right _ (List.mem_append_right _ (List.mem_append_left _ h)))))))))
theorem ck_10 : ∀ w ∈ wsL_law_r10, w ∈ wsL_law := fun w h => wwA_in w (List.mem_append_right _ (List.mem_append_right _ (List.mem_append_right _ (List.mem_append_right _ (List.mem_append_right _ (List.mem_append_right _ (List.mem_append_right _ (List.mem_append_right _ (List.mem_append_right _ (List.mem_append_left _ h))))))))))
theorem ck_11 : ∀ w ∈ wsL_law_r11, w ∈ wsL_law := fun w h => wwA_in w (List.mem_append_right _ (List.mem_append_right _ (List.mem_append_right _ (List.mem_append_right _ (List.mem_append_right _ (List.mem_append_right _ (List.mem_append_right _ (List.mem_append_right _ (List.mem_append_right _ (List.mem_append_right _ (List.mem_append_left _ h)))))))))))
theorem ck_12 : ∀ w ∈ wsL_law_r12, w ∈ wsL_law := fun w h => wwA_in w (List.mem_append_right _ (List.mem_append_right _ (List.mem_append_right _ (List.mem_append_right _ (List.mem_append_right _ (List.mem_append_right _ (List.mem_append_right _ (List.mem_append_right _ (List.mem_append_right _ (List.mem_append_right _ (List.mem_append_right _ (List.mem_append_left _ h))))))))))))
theorem ck_13 : ∀ w ∈ wsL_law_r13, w ∈ wsL_law := fun w h => wwA_in w (List.mem_append_right _ (List.mem_append_right _ (List.mem_append_right _ (List.mem_append_right _ (List.mem_append_right _ (List.mem_append_right _ (List.mem_append_right _ (List.mem_append_right _ (List.mem_append_right _ (List.mem_append_right _ (List.mem_append_right _ (List.mem_append_right _ (List.mem_append_left _ h)))))))))))))
theorem ck_14 : ∀ w ∈ wsL_law_r14, w ∈ wsL_law := fun w h => wwA_in w (List.mem_append_right _ (List.mem_append_right _ (List.mem_append_right _ (List.mem_append_right _ (List.mem_append_right _ (List.mem_append_right _ (List.mem_append_right _ (List.mem_append_right _ (List.mem_append_right _ (List.mem_append_right _ (List.mem_append_right _ (List.mem_append_right _ (List.mem_append_right _ (List.mem_append_left _ h))))))))))))))
theorem ck_15 : ∀ w ∈ wsL_law_r15, w ∈ wsL_law := fun w h => wwA_in w (List.mem_append_right _ (List.mem_append_right _ (List.mem_append_right _ (List.mem_append_right _ (List.mem_append_right _ (List.mem_append_right _ (List.mem_append_right _ (List.mem_append_right _ (List.mem_append_right _ (List.mem_append_right _ (List.mem_append_right _ (List.mem_append_right _ (List.mem_append_right _ (List.mem_append_right _ (List.mem_append_left _ h)))))))))))))))
theorem ck_16 : ∀ w ∈ wsL_law_r16, w ∈ wsL_law := fun w h => wwA_in w (List.mem_append_right _ (List.mem_append_right _ (List.mem_append_right _ (List.mem_append_right _ (List.mem_append_right _ (List.mem_append_right _ (List.mem_append_right _ (List.mem_append_right _ (List.mem_append_right _ (List.mem_append_right _ (List.mem_append_right _ (List.mem_append_right _ (List.mem_append_right _ (List.mem_append_right _ (List.mem_append_right _ (List.mem_append_left _ h))))))))))))))))
theorem ck_17 : ∀ w ∈ wsL_law_r17, w ∈ wsL_law := fun w h => wwA_in w (List.mem_append_right _ (List.mem_append_right _ (List.mem_append_right _ (List.mem_append_right _ (List.mem_append_right _ (List.mem_append_right _ (List.mem_append_right _ (List.mem_append_right _ (List.mem_append_right _ (List.mem_append_right _ (List.mem_append_right _ (List.mem_append_right _ (List.mem_append_right _ (List.mem_append_right _ (List.mem_append_right _ (List.mem_append_right _ (List.mem_append_left _ h)))))))))))))))))
theorem ck_18 : ∀ w ∈ wsL_law_r18, w ∈ wsL_law := fun w h => wwA_in w (List.mem_append_right _ (List.mem_append_right _ (List.mem_append_right _ (List.mem_append_right _ (List.mem_append_right _ (List.mem_append_right _ (List.mem_append_right _ (List.mem_append_right _ (List.mem_append_right _ (List.mem_append_right _ (List.mem_append_right _ (List.mem_append_right _ (List.mem_append_right _ (List.mem_append_right _ (List.mem_append_right _ (List.mem_append_right _ (List.mem_append_right _ (List.mem_append_left _ h))))))))))))))))))
theorem ck_19 : ∀ w ∈ wsL_law_r19, w ∈ wsL_law := fun w h => wwA_in w (List.mem_append_right _ (List.mem_append_right _ (List.mem_append_right _ (List.mem_append_right _ (List.mem_append_right _ (List.mem_append_right _ (List.mem_append_right _ (List.mem_append_right _ (List.mem_append_right _ (List.mem_append_right _ (List.mem_append_right _ (List.mem_append_right _ (List.mem_append_right _ (List.mem_append_right _ (List.mem_append_right _ (List.mem_append_right _ (List.mem_append_right _ (List.mem_append_right _ (List.mem_append_left _ h)))))))))))))))))))
theorem ck_20 : ∀ w ∈ wsL_law_r20, w ∈ wsL_law := fun w h => wwA_in w (List.mem_append_right _ (List.mem_append_right _ (List.mem_append_right _ (List.mem_append_right _ (List.mem_append_right _ (List.mem_append_right _ (List.mem_append_right _ (List.mem_append_right _ (List.mem_append_right _ (List.mem_append_right _ (List.mem_append_right _ (List.mem_append_right _ (List.mem_append_right _ (List.mem_append_right _ (List.mem_append_right _ (List.mem_append_right _ (List.mem_append_right _ (List.mem_append_right _ (List.mem_append_right _ (List.mem_append_left _ h))))))))))))))))))))
theorem ck_21 : ∀ w ∈ wsL_law_r21, w ∈ wsL_law := fun w h => wwA_in w (List.mem_append_right _ (List.mem_append_right _ (List.mem_append_right _ (List.mem_append_right _ (List.mem_append_right _ (List.mem_append_right _ (List.mem_append_right _ (List.mem_append_right _ (List.mem_append_right _ (List.mem_append_right _ (List.mem_append_right _ (List.mem_append_right _ (List.mem_append_right _ (List.mem_append_right _ (List.mem_append_right _ (List.mem_append_right _ (List.mem_append_right _ (List.mem_append_right _ (List.mem_append_right _ (List.mem_append_right _ (List.mem_append_left _ h)))))))))))))))))))))
theorem ck_22 : ∀ w ∈ wsL_law_r22, w ∈ wsL_law := fun w h => wwA_in w (List.mem_append_right _ (List.mem_append_right _ (List.mem_append_right _ (List.mem_append_right _ (List.mem_append_right _ (List.mem_append_right _ (List.mem_append_right _ (List.mem_append_right _ (List.mem_append_right _ (List.mem_append_right _ (List.mem_append_right _ (List.mem_append_right _ (List.mem_append_right _ (List.mem_append_right _ (List.mem_append_right _ (List.mem_append_right _ (List.mem_append_right _ (List.mem_append_right _ (List.mem_append_right _ (List.mem_append_right _ (List.mem_append_right _ (List.mem_append_left _ h))))))))))))))))))))))
theorem ck_23 : ∀ w ∈ wsL_law_r23, w ∈ wsL_law := fun w h => wwA_in w (List.mem_append_right _ (List.mem_append_right _ (List.mem_append_right _ (List.mem_append_right _ (List.mem_append_right _ (List.mem_append_right _ (List.mem_append_right _ (List.mem_append_right _ (List.mem_append_right _ (List.mem_append_right _ (List.mem_append_right _ (List.mem_append_right _ (List.mem_append_right _ (List.mem_append_right _ (List.mem_append_right _ (List.mem_append_right _ (List.mem_append_right _ (List.mem_append_right _ (List.mem_append_right _ (List.mem_append_right _ (List.mem_append_right _ (List.mem_append_right _ (List.mem_append_left _ h)))))))))))))))))))))))
theorem ck_24 : ∀ w ∈ wsL_law_r24, w ∈ wsL_law := fun w h => wwA_in w (List.mem_append_right _ (List.mem_append_right _ (List.mem_append_right _ (List.mem_append_right _ (List.mem_append_right _ (List.mem_append_right _ (List.mem_append_right _ (List.mem_append_right _ (List.mem_append_right _ (List.mem_append_right _ (List.mem_append_right _ (List.mem_append_right _ (List.mem_append_right _ (List.mem_append_right _ (List.mem_append_right _ (List.mem_append_right _ (List.mem_append_right _ (List.mem_append_right _ (List.mem_append_right _ (List.mem_append_right _ (List.mem_append_right _ (List.mem_append_right _ (List.mem_append_right _ (List.mem_append_left _ h))))))))))))))))))))))))
theorem ck_25 : ∀ w ∈ wsL_law_r25, w ∈ wsL_law := fun w h => wwA_in w (List.mem_append_right _ (List.mem_append_right _ (List.mem_append_right _ (List.mem_append_right _ (List.mem_append_right _ (List.mem_append_right _ (List.mem_append_right _ (List.mem_append_right _ (List.mem_append_right _ (List.mem_append_right _ (List.mem_append_right _ (List.mem_append_right _ (List.mem_append_right _ (List.mem_append_right _ (List.mem_append_right _ (List.mem_append_right _ (List.mem_append_right _ (List.mem_append_right _ (List.mem_append_right _ (List.mem_append_right _ (List.mem_append_right _ (List.mem_append_right _ (List.mem_append_right _ (List.mem_append_right _ (List.mem_append_left _ h)))))))))))))))))))))))))
theorem ck_26 : ∀ w ∈ wsL_law_r26, w ∈ wsL_law := fun w h => wwA_in w (List.mem_append_right _ (List.mem_append_right _ (List.mem_append_right _ (List.mem_append_right _ (List.mem_append_right _ (List.mem_append_right _ (List.mem_append_right _ (List.mem_append_right _ (List.mem_append_right _ (List.mem_append_right _ (List.mem_append_right _ (List.mem_append_right _ (List.mem_append_right _ (List.mem_append_right _ (List.mem_append_right _ (List.mem_append_right _ (List.mem_append_right _ (List.mem_append_right _ (List.mem_append_right _ (List.mem_append_right _ (List.mem_append_right _ (List.mem_append_right _ (List.mem_append_right _ (List.mem_append_right _ (List.mem_append_right _ (List.mem_append_left _ h))))))))))))))))))))))))))
theorem ck_27 : ∀ w ∈ wsL_law_r27, w ∈ wsL_law := fun w h => wwA_in w (List.mem_append_right _ (List.mem_append_right _ (List.mem_append_right _ (List.mem_append_right _ (List.mem_append_right _ (List.mem_append_right _ (List.mem_append_right _ (List.mem_append_right _ (List.mem_append_right _ (List.mem_append_right _ (List.mem_append_right _ (List.mem_append_right _ (List.mem_append_right _ (List.mem_append_right _ (List.mem_append_right _ (List.mem_append_right _ (List.mem_append_right _ (List.mem_append_right _ (List.mem_append_right _ (List.mem_append_right _ (List.mem_append_right _ (List.mem_append_right _ (List.mem_append_right _ (List.mem_append_right _ (List.mem_append_right _ (List.mem_append_right _ (List.mem_append_left _ h)))))))))))))))))))))))))))
theorem ck_28 : ∀ w ∈ wsL_law_r28, w ∈ wsL_law := fun w h => wwA_in w (List.mem_append_right _ (List.mem_append_right _ (List.mem_append_right _ (List.mem_append_right _ (List.mem_append_right _ (List.mem_append_right _ (List.mem_append_right _ (List.mem_append_right _ (List.mem_append_right _ (List.mem_append_right _ (List.mem_append_right _ (List.mem_append_right _ (List.mem_append_right _ (List.mem_append_right _ (List.mem_append_right _ (List.mem_append_right _ (List.mem_append_right _ (List.mem_append_right _ (List.mem_append_right _ (List.mem_append_right _ (List.mem_append_right _ (List.mem_append_right _ (List.mem_append_right _ (List.mem_append_right _ (List.mem_append_right _ (List.mem_append_right _ (List.mem_append_right _ (List.mem_append_left _ h))))))))))))))))))))))))))))
theorem ck_29 : ∀ w ∈ wsL_law_r29, w ∈ wsL_law := fun w h => wwA_in w (List.mem_append_right _ (List.mem_append_right _ (List.mem_append_right _ (List.mem_append_right _ (List.mem_append_right _ (List.mem_append_right _ (List.mem_append_right _ (List.mem_append_right _ (List.mem_append_right _ (List.mem_append_right _ (List.mem_append_right _ (List.mem_append_right _ (List.mem_append_right _ (List.mem_append_right _ (List.mem_append_right _ (List.mem_append_right _ (List.mem_append_right _ (List.mem_append_right _ (List.mem_append_right _ (List.mem_append_right _ (List.mem_append_right _ (List.mem_append_right _ (List.mem_append_right _ (List.mem_append_right _ (List.mem_append_right _ (List.mem_append_right _ (List.mem_append_right _ (List.mem_append_right _ (List.mem_append_left _ h)))))))))))))))))))))))))))))
theorem ck_30 : ∀ w ∈ wsL_law_r30, w ∈ wsL_law := fun w h => wwA_in w (List.mem_append_right _ (List.mem_append_right _ (List.mem_append_right _ (List.mem_append_right _ (List.mem_append_right _ (List.mem_append_right _ (List.mem_append_right _ (List.mem_append_right _ (List.mem_append_right _ (List.mem_append_right _ (List.mem_append_right _ (List.mem_append_right _ (List.mem_append_right _ (List.mem_append_right _ (List.mem_append_right _ (List.mem_append_right _ (List.mem_append_right _ (List.mem_append_right _ (List.mem_append_right _ (List.mem_append_right _ (List.mem_append_right _ (List.mem_append_right _ (List.mem_append_right _ (List.mem_append_right _ (List.mem_append_right _ (List.mem_append_right _ (List.mem_append_right _ (List.mem_append_right _ (List.mem_append_right _ (List.mem_append_left _ h))))))))))))))))))))))))))))))
theorem ck_31 : ∀ w ∈ wsL_law_r31, w ∈ wsL_law := fun w h => wwA_in w (List.mem_append_right _ (List.mem_append_right _ (List.mem_append_right _ (List.mem_append_right _ (List.mem_append_right _ (List.mem_append_right _ (List.mem_append_right _ (List.mem_append_right _ (List.mem_append_right _ (List.mem_append_right _ (List.mem_append_right _ (List.mem_append_right _ (List.mem_append_right _ (List.mem_append_right _ (List.mem_append_right _ (List.mem_append_right _ (List.mem_append_right _ (List.mem_append_right _ (List.mem_append_right _ (List.mem_append_right _ (List.mem_append_right _ (List.mem_append_right _ (List.mem_append_right _ (List.mem_append_right _ (List.mem_append_right _ (List.mem_append_right _ (List.mem_append_right _ (List.mem_append_right _ (List.mem_append_right _ (List.mem_append_right _ (List.mem_append_left _ h)))))))))))))))))))))))))))))))
theorem ck_32 : ∀ w ∈ wsL_law_r32, w ∈ wsL_law := fun w h => wwA_in w (List.mem_append_right _ (List.mem_append_right _ (List.mem_append_right _ (List.mem_append_right _ (List.mem_append_right _ (List.mem_append_right _ (List.mem_append_right _ (List.mem_append_right _ (List.mem_append_right _ (List.mem_append_right _ (List.mem_append_right _ (List.mem_append_right _ (List.mem_append_right _ (List.mem_append_right _ (List.mem_append_right _ (List.mem_append_right _ (List.mem_append_right _ (List.mem_append_right _ (List.mem_append_right _ (List.mem_append_right _ (List.mem_append_right _ (List.mem_append_right _ (List.mem_append_right _ (List.mem_append_right _ (List.mem_append_right _ (List.mem_append_right _ (List.mem_append_right _ (List.mem_append_right _ (List.mem_append_right _ (List.mem_append_right _ (List.mem_append_right _ (List.mem_append_left _ h))))))))))))))))))))))))))))))))
theorem ck_33 : ∀ w ∈ wsL_law_r33, w ∈ wsL_law := fun w h => wwA_in w (List.mem_append_right _ (List.mem_append_right _ (List.mem_append_right _ (List.mem_append_right _ (List.mem_append_right _ (List.mem_append_right _ (List.mem_append_right _ (List.mem_append_right _ (List.mem_append_right _ (List.mem_append_right _ (List.mem_append_right _ (List.mem_append_right _ (List.mem_append_right _ (List.mem_append_right _ (List.mem_append_right _ (List.mem_append_right _ (List.mem_append_right _ (List.mem_append_right _ (List.mem_append_right _ (List.mem_append_right _ (List.mem_append_right _ (List.mem_append_right _ (List.mem_append_right _ (List.mem_append_right _ (List.mem_append_right _ (List.mem_append_right _ (List.mem_append_right _ (List.mem_append_right _ (List.mem_append_right _ (List.mem_append_right _ (List.mem_append_right _ (List.mem_append_right _ (List.mem_append_left _ h)))))))))))))))))))))))))))))))))
theorem ck_34 : ∀ w ∈ wsL_law_r34, w ∈ wsL_law := fun w h => wwA_in w (List.mem_append_right _ (List.mem_append_right _ (List.mem_append_right _ (List.mem_append_right _ (List.mem_append_right _ (List.mem_append_right _ (List.mem_append_right _ (List.mem_append_right _ (List.mem_append_right _ (List.mem_append_right _ (List.mem_append_right _ (List.mem_append_right _ (List.mem_append_right _ (List.mem_append_right _ (List.mem_append_right _ (List.mem_append_right _ (List.mem_append_right _ (List.mem_append_right _ (List.mem_append_right _ (List.mem_append_right _ (List.mem_append_right _ (List.mem_append_right _ (List.mem_append_right _ (List.mem_append_right _ (List.mem_append_right _ (List.mem_append_right _ (List.mem_append_right _ (List.mem_append_right _ (List.mem_append_right _ (List.mem_append_right _ (List.mem_append_right _ (List.mem_append_right _ (List.mem_append_right _ (List.mem_append_left _ h))))))))))))))))))))))))))))))))))
theorem ck_35 : ∀ w ∈ wsL_law_r35, w ∈ wsL_law := fun w h => wwA_in w (List.mem_append_right _ (List.mem_append_right _ (List.mem_append_right _ (List.mem_append_right _ (List.mem_append_right _ (List.mem_append_right _ (List.mem_append_right _ (List.mem_append_right _ (List.mem_append_right _ (List.mem_append_right _ (List.mem_append_right _ (List.mem_append_right _ (List.mem_append_right _ (List.mem_append_right _ (List.mem_append_right _ (List.mem_append_right _ (List.mem_append_right _ (List.mem_append_right _ (List.mem_append_right _ (List.mem_append_right _ (List.mem_append_right _ (List.mem_append_right _ (List.mem_append_right _ (List.mem_append_right _ (List.mem_append_right _ (List.mem_append_right _ (List.mem_append_right _ (List.mem_append_right _ (List.mem_append_right _ (List.mem_append_right _ (List.mem_append_right _ (List.mem_append_right _ (List.mem_append_right _ (List.mem_append_right _ (List.mem_append_left _ h)))))))))))))))))))))))))))))))))))
theorem ck_36 : ∀ w ∈ wsL_law_r36, w ∈ wsL_law := fun w h => wwA_in w (List.mem_append_right _ (List.mem_append_right _ (List.mem_append_right _ (List.mem_append_right _ (List.mem_append_right _ (List.mem_append_right _ (List.mem_append_right _ (List.mem_append_right _ (List.mem_append_right _ (List.mem_append_right _ (List.mem_append_right _ (List.mem_append_right _ (List.mem_append_right _ (List.mem_append_right _ (List.mem_append_right _ (List.mem_append_right _ (List.mem_append_right _ (List.mem_append_right _ (List.mem_append_right _ (List.mem_append_right _ (List.mem_append_right _ (List.mem_append_right _ (List.mem_append_right _ (List.mem_append_right _ (List.mem_append_right _ (List.mem_append_right _ (List.mem_append_right _ (List.mem_append_right _ (List.mem_append_right _ (List.mem_append_right _ (List.mem_append_right _ (List.mem_append_right _ (List.mem_append_right _ (List.mem_append_right _ (List.mem_append_right _ (List.mem_append_left _ h))))))))))))))))))))))))))))))))))))
theorem ck_37 : ∀ w ∈ wsL_law_r37, w ∈ wsL_law := fun w h => wwA_in w (List.mem_append_right _ (List.mem_append_right _ (List.mem_append_right _ (List.mem_append_right _ (List.mem_append_right _ (List.mem_append_right _ (List.mem_append_right _ (List.mem_append_right _ (List.mem_append_right _ (List.mem_append_right _ (List.mem_append_right _ (List.mem_append_right _ (List.mem_append_right _ (List.mem_append_right _ (List.mem_append_right _ (List.mem_append_right _ (List.mem_append_right _ (List.mem_append_right _ (List.mem_append_right _ (List.mem_append_right _ (List.mem_append_right _ (List.mem_append_right _ (List.mem_append_right _ (List.mem_append_right _ (List.mem_append_right _ (List.mem_append_right _ (List.mem_append_right _ (List.mem_append_right _ (List.mem_append_right _ (List.mem_append_right _ (List.mem_append_right _ (List.mem_append_right _ (List.mem_append_right _ (List.mem_append_right _ (List.mem_append_right _ (List.mem_append_right _ (List.mem_append_left _ h)))))))))))))))))))))))))))))))))))))
theorem ck_38 : ∀ w ∈ wsL_law_r38, w ∈ wsL_law := fun w h => wwA_in w (List.mem_append_right _ (List.mem_append_right _ (List.mem_append_right _ (List.mem_append_right _ (List.mem_append_right _ (List.mem_append_right _ (List.mem_append_right _ (List.mem_append_right _ (List.mem_append_right _ (List.mem_append_right _ (List.mem_append_right _ (List.mem_append_right _ (List.mem_append_right _ (List.mem_append_right _ (List.mem_append_right _ (List.mem_append_right _ (List.mem_append_right _ (List.mem_append_right _ (List.mem_append_right _ (List.mem_append_right _ (List.mem_append_right _ (List.mem_append_right _ (List.mem_append_right _ (List.mem_append_right _ (List.mem_append_right _ (List.mem_append_right _ (List.mem_append_right _ (List.mem_append_right _ (List.mem_append_right _ (List.mem_append_right _ (List.mem_append_right _ (List.mem_append_right _ (List.mem_append_right _ (List.mem_append_right _ (List.mem_append_right _ (List.mem_append_right _ (List.mem_append_right _ (List.mem_append_left _ h))))))))))))))))))))))))))))))))))))))
theorem ck_39 : ∀ w ∈ wsL_law_r39, w ∈ wsL_law := fun w h => wwA_in w (List.mem_append_right _ (List.mem_append_right _ (List.mem_append_right _ (List.mem_append_right _ (List.mem_append_right _ (List.mem_append_right _ (List.mem_append_right _ (List.mem_append_right _ (List.mem_append_right _ (List.mem_append_right _ (List.mem_append_right _ (List.mem_append_right _ (List.mem_append_right _ (List.mem_append_right _ (List.mem_append_right _ (List.mem_append_right _ (List.mem_append_right _ (List.mem_append_right _ (List.mem_append_right _ (List.mem_append_right _ (List.mem_append_right _ (List.mem_append_right _ (List.mem_append_right _ (List.mem_append_right _ (List.mem_append_right _ (List.mem_append_right _ (List.mem_append_right _ (List.mem_append_right _ (List.mem_append_right _ (List.mem_append_right _ (List.mem_append_right _ (List.mem_append_right _ (List.mem_append_right _ (List.mem_append_right _ (List.mem_append_right _ (List.mem_append_right _ (List.mem_append_right _ (List.mem_append_right _ (List.mem_append_left _ h)))))))))))))))))))))))))))))))))))))))
theorem ck_40 : ∀ w ∈ wsL_law_r40, w ∈ wsL_law := fun w h => wwA_in w (List.mem_append_right _ (List.mem_append_right _ (List.mem_append_right _ (List.mem_append_right _ (List.mem_append_right _ (List.mem_append_right _ (List.mem_append_right _ (List.mem_append_right _ (List.mem_append_right _ (List.mem_append_right _ (List.mem_append_right _ (List.mem_append_right _ (List.mem_append_right _ (List.mem_append_right _ (List.mem_append_right _ (List.mem_append_right _ (List.mem_append_right _ (List.mem_append_right _ (List.mem_append_right _ (List.mem_append_right _ (List.mem_append_right _ (List.mem_append_right _ (List.mem_append_right _ (List.mem_append_right _ (List.mem_append_right _ (List.mem_append_right _ (List.mem_append_right _ (List.mem_append_right _ (List.mem_append_right _ (List.mem_append_right _ (List.mem_append_right _ (List.mem_append_right _ (List.mem_append_right _ (List.mem_append_right _ (List.mem_append_right _ (List.mem_append_right _ (List.mem_append_right _ (List.mem_append_right _ (List.mem_append_right _ (List.mem_append_left _ h))))))))))))))))))))))))))))))))))))))))
theorem ck_41 : ∀ w ∈ wsL_law_r41, w ∈ wsL_law := fun w h => wwA_in w (List.mem_append_right _ (List.mem_append_right _ (List.mem_append_right _ (List.mem_append_right _ (List.mem_append_right _ (List.mem_append_right _ (List.mem_append_right _ (List.mem_append_right _ (List.mem_append_right _ (List.mem_append_right _ (List.mem_append_right _ (List.mem_append_right _ (List.mem_append_right _ (List.mem_append_right _ (List.mem_append_right _ (List.mem_append_right _ (List.mem_append_right _ (List.mem_append_right _ (List.mem_append_right _ (List.mem_append_right _ (List.mem_append_right _ (List.mem_append_right _ (List.mem_append_right _ (List.mem_append_right _ (List.mem_append_right _ (List.mem_append_right _ (List.mem_append_right _ (List.mem_append_right _ (List.mem_append_right _ (List.mem_append_right _ (List.mem_append_right _ (List.mem_append_right _ (List.mem_append_right _ (List.mem_append_right _ (List.mem_append_right _ (List.mem_append_right _ (List.mem_append_right _ (List.mem_append_right _ (List.mem_append_right _ (List.mem_append_right _ (h)))))))))))))))))))))))))))))))))))))))))
theorem fw_X9 : ∀ w ∈ wsX90, w ∈ wsL_law := fun w h => List.mem_append_left _ (List.mem_append_left _ (List.mem_append_left _ (List.mem_append_left _ (List.mem_append_left _ (List.mem_append_left _ (List.mem_append_left _ (List.mem_append_left _ (List.mem_append_left _ (List.mem_append_right _ h)))))))))
theorem fw_X10 : ∀ w ∈ wsX100, w ∈ wsL_law := fun w h => List.mem_append_left _ (List.mem_append_left _ (List.mem_append_left _ (List.mem_append_left _ (List.mem_append_left _ (List.mem_append_left _ (List.mem_append_left _ (List.mem_append_left _ (List.mem_append_right _ h))))))))
theorem fw_X7 : ∀ w ∈ wsX70, w ∈ wsL_law := fun w h => List.mem_append_left _ (List.mem_append_left _ (List.mem_append_left _ (List.mem_append_left _ (List.mem_append_left _ (List.mem_append_left _ (List.mem_append_left _ (List.mem_append_right _ h)))))))
theorem fw_X1 : ∀ w ∈ wsX10, w ∈ wsL_law := fun w h => List.mem_append_left _ (List.mem_append_left _ (List.mem_append_left _ (List.mem_append_left _ (List.mem_append_left _ (List.mem_append_left _ (List.mem_append_right _ h))))))
theorem fw_X5 : ∀ w ∈ wsX50, w ∈ wsL_law := fun w h => List.mem_append_left _ (List.mem_append_left _ (List.mem_append_left _ (List.mem_append_left _ (List.mem_append_left _ (List.mem_append_right _ h)))))
theorem fw_X2 : ∀ w ∈ wsX20, w ∈ wsL_law := fun w h => List.mem_append_left _ (List.mem_append_left _ (List.mem_append_left _ (List.mem_append_left _ (List.mem_append_right _ h))))
theorem fw_X4 : ∀ w ∈ wsX40, w ∈ wsL_law := fun w h => List.mem_append_left _ (List.mem_append_left _ (List.mem_append_left _ (List.mem_append_right _ h)))
theorem fw_X6 : ∀ w ∈ wsX60, w ∈ wsL_law := fun w h => List.mem_append_left _ (List.mem_append_left _ (List.mem_append_right _ h))
theorem fw_X8 : ∀ w ∈ wsX80, w ∈ wsL_law := fun w h => List.mem_append_left _ (List.mem_append_right _ h)
theorem wq_1_0 : Cond.classLink RL 7 RX9 ∈ wsL_law := ck_1 _ (mm0 0 rfl)
theorem wq_1_1 : Cond.instantiable RX9 9 ∈ wsL_law := ck_1 _ (mm0 1 rfl)
theorem wq_1_2 : Cond.initialized RX9 ∈ wsL_law := ck_1 _ (mm0 2 rfl)
theorem wq_1_3 : Cond.classLink RL 10 RX10 ∈ wsL_law := ck_1 _ (mm0 3 rfl)
theorem wq_1_4 : Cond.instantiable RX10 34 ∈ wsL_law := ck_1 _ (mm0 4 rfl)
theorem wq_1_5 : Cond.initialized RX10 ∈ wsL_law := ck_1 _ (mm0 5 rfl)
theorem wq_1_6 : Cond.constantLong RL 13 (4294967295) ∈ wsL_law := ck_1 _ (mm0 6 rfl)
theorem wq_1_7 : Cond.methodLink RL 9 yX9_init ∈ wsL_law := ck_1 _ (mm0 7 rfl)
theorem wq_1_8 : Cond.instanceMethod yX9_init ∈ wsL_law := ck_1 _ (mm0 8 rfl)
theorem wq_1_9 : Cond.code yX9_init cX9_init 1 none ∈ wsL_law := ck_1 _ (mm0 9 rfl)
theorem wq_1_10 : Cond.methodLink RX9 1 objectInit ∈ wsL_law := ck_1 _ (mm0 10 rfl)
theorem wq_1_11 : Cond.instanceMethod objectInit ∈ wsL_law := ck_1 _ (mm0 11 rfl)
theorem wq_1_12 : Cond.code objectInit ⟨#[0xb1]⟩ 1 none ∈ wsL_law := ck_1 _ (mm0 12 rfl)
theorem wq_1_13 : Cond.classLink RX9 7 RX7 ∈ wsL_law := ck_1 _ (mm0 13 rfl)
theorem wq_1_14 : Cond.instantiable RX7 8 ∈ wsL_law := ck_1 _ (mm0 14 rfl)
theorem wq_1_15 : Cond.initialized RX7 ∈ wsL_law := ck_1 _ (mm0 15 rfl)
theorem wq_1_16 : Cond.fieldLink RX9 10 "ShrinkingCalls" "reader" "LShrinkingCalls$TextReader;" ∈ wsL_law := ck_1 _ (mm0 16 rfl)
theorem wq_1_17 : Cond.classLink RX9 16 RX1 ∈ wsL_law := ck_1 _ (mm0 17 rfl)
theorem wq_1_18 : Cond.instantiable RX1 5 ∈ wsL_law := ck_1 _ (mm0 18 rfl)
theorem wq_1_19 : Cond.initialized RX1 ∈ wsL_law := ck_1 _ (mm0 19 rfl)
theorem wq_1_20 : Cond.fieldLink RX9 19 "ShrinkingCalls" "book" "LShrinkingCalls$Book;" ∈ wsL_law := ck_1 _ (mm0 20 rfl)
theorem wq_1_21 : Cond.fieldLink RX9 23 "ShrinkingCalls" "draft" "LShrinkingCalls$Book;" ∈ wsL_law := ck_1 _ (mm0 21 rfl)
theorem wq_1_22 : Cond.classLink RX9 26 RX5 ∈ wsL_law := ck_1 _ (mm0 22 rfl)
theorem wq_1_23 : Cond.instantiable RX5 2 ∈ wsL_law := ck_1 _ (mm0 23 rfl)
theorem wq_2_0 : Cond.initialized RX5 ∈ wsL_law := ck_2 _ (mm0 0 rfl)
theorem wq_2_1 : Cond.fieldLink RX9 29 "ShrinkingCalls" "round" "LShrinkingCalls$RoundTrip;" ∈ wsL_law := ck_2 _ (mm0 1 rfl)
theorem wq_2_2 : Cond.classLink RX9 33 RX2 ∈ wsL_law := ck_2 _ (mm0 2 rfl)
theorem wq_2_3 : Cond.instantiable RX2 12 ∈ wsL_law := ck_2 _ (mm0 3 rfl)
theorem wq_2_4 : Cond.initialized RX2 ∈ wsL_law := ck_2 _ (mm0 4 rfl)
theorem wq_2_5 : Cond.fieldLink RX9 36 "ShrinkingCalls" "closure" "LShrinkingCalls$Closure;" ∈ wsL_law := ck_2 _ (mm0 5 rfl)
theorem wq_2_6 : Cond.classLink RX9 40 RX4 ∈ wsL_law := ck_2 _ (mm0 6 rfl)
theorem wq_2_7 : Cond.instantiable RX4 8 ∈ wsL_law := ck_2 _ (mm0 7 rfl)
theorem wq_2_8 : Cond.initialized RX4 ∈ wsL_law := ck_2 _ (mm0 8 rfl)
theorem wq_2_9 : Cond.fieldLink RX9 43 "ShrinkingCalls" "mending" "LShrinkingCalls$Mending;" ∈ wsL_law := ck_2 _ (mm0 9 rfl)
theorem wq_2_10 : Cond.classLink RX9 47 RX6 ∈ wsL_law := ck_2 _ (mm0 10 rfl)
theorem wq_2_11 : Cond.instantiable RX6 6 ∈ wsL_law := ck_2 _ (mm0 11 rfl)
theorem wq_2_12 : Cond.initialized RX6 ∈ wsL_law := ck_2 _ (mm0 12 rfl)
theorem wq_2_13 : Cond.fieldLink RX9 50 "ShrinkingCalls" "runs" "LShrinkingCalls$Runs;" ∈ wsL_law := ck_2 _ (mm0 13 rfl)
theorem wq_2_14 : Cond.classLink RX9 54 RX8 ∈ wsL_law := ck_2 _ (mm0 14 rfl)
theorem wq_2_15 : Cond.instantiable RX8 1 ∈ wsL_law := ck_2 _ (mm0 15 rfl)
theorem wq_2_16 : Cond.initialized RX8 ∈ wsL_law := ck_2 _ (mm0 16 rfl)
theorem wq_2_17 : Cond.fieldLink RX9 57 "ShrinkingCalls" "weights" "LShrinkingCalls$Weights;" ∈ wsL_law := ck_2 _ (mm0 17 rfl)
theorem wq_2_18 : Cond.fieldLink RX9 61 "ShrinkingCalls" "closureFits" "Z" ∈ wsL_law := ck_2 _ (mm0 18 rfl)
theorem wq_2_19 : Cond.instanceMethod yX7_init ∈ wsL_law := ck_2 _ (mm0 19 rfl)
theorem wq_2_20 : Cond.code yX7_init cX7_init 1 none ∈ wsL_law := ck_2 _ (mm0 20 rfl)
theorem wq_2_21 : Cond.methodLink RX7 3 objectInit ∈ wsL_law := ck_2 _ (mm0 21 rfl)
theorem wq_2_22 : Cond.arrayClass .int ∈ wsL_law := ck_2 _ (mm0 22 rfl)
theorem wq_2_23 : Cond.fieldLink RX7 11 "ShrinkingCalls$TextReader" "bytes" "[I" ∈ wsL_law := ck_2 _ (mm0 23 rfl)
theorem wq_3_0 : Cond.instanceMethod yX1_init ∈ wsL_law := ck_3 _ (mm0 0 rfl)
theorem wq_3_1 : Cond.code yX1_init cX1_init 1 none ∈ wsL_law := ck_3 _ (mm0 1 rfl)
theorem wq_3_2 : Cond.methodLink RX1 3 objectInit ∈ wsL_law := ck_3 _ (mm0 2 rfl)
theorem wq_3_3 : Cond.fieldLink RX1 9 "ShrinkingCalls$Book" "placesOf" "[I" ∈ wsL_law := ck_3 _ (mm0 3 rfl)
theorem wq_3_4 : Cond.fieldLink RX1 15 "ShrinkingCalls$Book" "from" "[I" ∈ wsL_law := ck_3 _ (mm0 4 rfl)
theorem wq_3_5 : Cond.fieldLink RX1 18 "ShrinkingCalls$Book" "to" "[I" ∈ wsL_law := ck_3 _ (mm0 5 rfl)
theorem wq_3_6 : Cond.fieldLink RX1 21 "ShrinkingCalls$Book" "arcs" "[I" ∈ wsL_law := ck_3 _ (mm0 6 rfl)
theorem wq_3_7 : Cond.instanceMethod yX5_init ∈ wsL_law := ck_3 _ (mm0 7 rfl)
theorem wq_3_8 : Cond.code yX5_init cX5_init 1 none ∈ wsL_law := ck_3 _ (mm0 8 rfl)
theorem wq_3_9 : Cond.methodLink RX5 1 objectInit ∈ wsL_law := ck_3 _ (mm0 9 rfl)
theorem wq_3_10 : Cond.fieldLink RX5 9 "ShrinkingCalls$RoundTrip" "calls" "[I" ∈ wsL_law := ck_3 _ (mm0 10 rfl)
theorem wq_3_11 : Cond.methodLink RX9 35 yX2_init ∈ wsL_law := ck_3 _ (mm0 11 rfl)
theorem wq_3_12 : Cond.instanceMethod yX2_init ∈ wsL_law := ck_3 _ (mm0 12 rfl)
theorem wq_3_13 : Cond.code yX2_init cX2_init 1 none ∈ wsL_law := ck_3 _ (mm0 13 rfl)
theorem wq_3_14 : Cond.methodLink RX2 3 objectInit ∈ wsL_law := ck_3 _ (mm0 14 rfl)
theorem wq_3_15 : Cond.fieldLink RX2 11 "ShrinkingCalls$Closure" "keys" "[I" ∈ wsL_law := ck_3 _ (mm0 15 rfl)
theorem wq_3_16 : Cond.fieldLink RX2 15 "ShrinkingCalls$Closure" "before" "[I" ∈ wsL_law := ck_3 _ (mm0 16 rfl)
theorem wq_3_17 : Cond.fieldLink RX2 18 "ShrinkingCalls$Closure" "lastCall" "[I" ∈ wsL_law := ck_3 _ (mm0 17 rfl)
theorem wq_3_18 : Cond.fieldLink RX2 21 "ShrinkingCalls$Closure" "slots" "[I" ∈ wsL_law := ck_3 _ (mm0 18 rfl)
theorem wq_3_19 : Cond.fieldLink RX2 24 "ShrinkingCalls$Closure" "keysInOrder" "[I" ∈ wsL_law := ck_3 _ (mm0 19 rfl)
theorem wq_3_20 : Cond.fieldLink RX2 29 "ShrinkingCalls$Closure" "joinedRows" "[I" ∈ wsL_law := ck_3 _ (mm0 20 rfl)
theorem wq_3_21 : Cond.fieldLink RX2 32 "ShrinkingCalls$Closure" "joinedFor" "[I" ∈ wsL_law := ck_3 _ (mm0 21 rfl)
theorem wq_3_22 : Cond.fieldLink RX2 35 "ShrinkingCalls$Closure" "firstBad" "I" ∈ wsL_law := ck_3 _ (mm0 22 rfl)
theorem wq_3_23 : Cond.methodLink RX2 39 yJ7_fill_53178 ∈ wsL_law := ck_3 _ (mm0 23 rfl)
theorem wq_4_0 : Cond.static yJ7_fill_53178 ∈ wsL_law := ck_4 _ (mm0 0 rfl)
theorem wq_4_1 : Cond.initialized RJ7 ∈ wsL_law := ck_4 _ (mm0 1 rfl)
theorem wq_4_2 : Cond.code yJ7_fill_53178 cJ7_fill_53178 4 none ∈ wsL_law := ck_4 _ (mm0 2 rfl)
theorem wq_4_3 : Cond.instanceMethod yX4_init ∈ wsL_law := ck_4 _ (mm0 3 rfl)
theorem wq_4_4 : Cond.code yX4_init cX4_init 1 none ∈ wsL_law := ck_4 _ (mm0 4 rfl)
theorem wq_4_5 : Cond.methodLink RX4 3 objectInit ∈ wsL_law := ck_4 _ (mm0 5 rfl)
theorem wq_4_6 : Cond.classLink RX4 9 RX2 ∈ wsL_law := ck_4 _ (mm0 6 rfl)
theorem wq_4_7 : Cond.fieldLink RX4 12 "ShrinkingCalls$Mending" "trial" "LShrinkingCalls$Closure;" ∈ wsL_law := ck_4 _ (mm0 7 rfl)
theorem wq_4_8 : Cond.fieldLink RX4 18 "ShrinkingCalls$Mending" "badWays" "[I" ∈ wsL_law := ck_4 _ (mm0 8 rfl)
theorem wq_4_9 : Cond.fieldLink RX4 22 "ShrinkingCalls$Mending" "set" "I" ∈ wsL_law := ck_4 _ (mm0 9 rfl)
theorem wq_4_10 : Cond.fieldLink RX4 28 "ShrinkingCalls$Mending" "needed" "[I" ∈ wsL_law := ck_4 _ (mm0 10 rfl)
theorem wq_4_11 : Cond.methodLink RX4 11 yX2_init ∈ wsL_law := ck_4 _ (mm0 11 rfl)
theorem wq_4_12 : Cond.instanceMethod yX6_init ∈ wsL_law := ck_4 _ (mm0 12 rfl)
theorem wq_4_13 : Cond.code yX6_init cX6_init 1 none ∈ wsL_law := ck_4 _ (mm0 13 rfl)
theorem wq_4_14 : Cond.methodLink RX6 5 objectInit ∈ wsL_law := ck_4 _ (mm0 14 rfl)
theorem wq_4_15 : Cond.fieldLink RX6 11 "ShrinkingCalls$Runs" "most" "I" ∈ wsL_law := ck_4 _ (mm0 15 rfl)
theorem wq_4_16 : Cond.fieldLink RX6 15 "ShrinkingCalls$Runs" "mark" "[I" ∈ wsL_law := ck_4 _ (mm0 16 rfl)
theorem wq_4_17 : Cond.fieldLink RX6 19 "ShrinkingCalls$Runs" "open" "[I" ∈ wsL_law := ck_4 _ (mm0 17 rfl)
theorem wq_4_18 : Cond.fieldLink RX6 22 "ShrinkingCalls$Runs" "nextCall" "[I" ∈ wsL_law := ck_4 _ (mm0 18 rfl)
theorem wq_4_19 : Cond.fieldLink RX6 25 "ShrinkingCalls$Runs" "longestOf" "[I" ∈ wsL_law := ck_4 _ (mm0 19 rfl)
theorem wq_4_20 : Cond.instanceMethod yX8_init ∈ wsL_law := ck_4 _ (mm0 20 rfl)
theorem wq_4_21 : Cond.code yX8_init cX8_init 1 none ∈ wsL_law := ck_4 _ (mm0 21 rfl)
theorem wq_4_22 : Cond.methodLink RX8 3 objectInit ∈ wsL_law := ck_4 _ (mm0 22 rfl)
theorem wq_4_23 : Cond.methodLink RL 12 yX10_init ∈ wsL_law := ck_4 _ (mm0 23 rfl)
theorem wq_5_0 : Cond.instanceMethod yX10_init ∈ wsL_law := ck_5 _ (mm0 0 rfl)
theorem wq_5_1 : Cond.code yX10_init cX10_init 2 none ∈ wsL_law := ck_5 _ (mm0 1 rfl)
theorem wq_5_2 : Cond.methodLink RX10 1 objectInit ∈ wsL_law := ck_5 _ (mm0 2 rfl)
theorem wq_5_3 : Cond.fieldLink RX10 7 "ShrinkingCallsModel" "text" "[I" ∈ wsL_law := ck_5 _ (mm0 3 rfl)
theorem wq_5_4 : Cond.fieldLink RX10 13 "ShrinkingCallsModel" "placesOf" "[I" ∈ wsL_law := ck_5 _ (mm0 4 rfl)
theorem wq_5_5 : Cond.fieldLink RX10 16 "ShrinkingCallsModel" "from" "[I" ∈ wsL_law := ck_5 _ (mm0 5 rfl)
theorem wq_5_6 : Cond.fieldLink RX10 19 "ShrinkingCallsModel" "to" "[I" ∈ wsL_law := ck_5 _ (mm0 6 rfl)
theorem wq_5_7 : Cond.fieldLink RX10 22 "ShrinkingCallsModel" "arcs" "[I" ∈ wsL_law := ck_5 _ (mm0 7 rfl)
theorem wq_5_8 : Cond.fieldLink RX10 25 "ShrinkingCallsModel" "trip" "[I" ∈ wsL_law := ck_5 _ (mm0 8 rfl)
theorem wq_5_9 : Cond.fieldLink RX10 28 "ShrinkingCallsModel" "sizes" "I" ∈ wsL_law := ck_5 _ (mm0 9 rfl)
theorem wq_5_10 : Cond.fieldLink RX10 32 "ShrinkingCallsModel" "power" "[I" ∈ wsL_law := ck_5 _ (mm0 10 rfl)
theorem wq_5_11 : Cond.fieldLink RX10 35 "ShrinkingCallsModel" "readPlaces" "[I" ∈ wsL_law := ck_5 _ (mm0 11 rfl)
theorem wq_5_12 : Cond.arrayClass .boolean ∈ wsL_law := ck_5 _ (mm0 12 rfl)
theorem wq_5_13 : Cond.fieldLink RX10 38 "ShrinkingCallsModel" "readTold" "[Z" ∈ wsL_law := ck_5 _ (mm0 13 rfl)
theorem wq_5_14 : Cond.fieldLink RX10 42 "ShrinkingCallsModel" "readFrom" "[I" ∈ wsL_law := ck_5 _ (mm0 14 rfl)
theorem wq_5_15 : Cond.fieldLink RX10 45 "ShrinkingCallsModel" "readTo" "[I" ∈ wsL_law := ck_5 _ (mm0 15 rfl)
theorem wq_5_16 : Cond.fieldLink RX10 48 "ShrinkingCallsModel" "readArcs" "[I" ∈ wsL_law := ck_5 _ (mm0 16 rfl)
theorem wq_5_17 : Cond.fieldLink RX10 51 "ShrinkingCallsModel" "graphFrom" "[I" ∈ wsL_law := ck_5 _ (mm0 17 rfl)
theorem wq_5_18 : Cond.fieldLink RX10 54 "ShrinkingCallsModel" "graphTo" "[I" ∈ wsL_law := ck_5 _ (mm0 18 rfl)
theorem wq_5_19 : Cond.fieldLink RX10 57 "ShrinkingCallsModel" "graph" "[I" ∈ wsL_law := ck_5 _ (mm0 19 rfl)
theorem wq_5_20 : Cond.constant RX10 60 (314928) ∈ wsL_law := ck_5 _ (mm0 20 rfl)
theorem wq_5_21 : Cond.fieldLink RX10 61 "ShrinkingCallsModel" "stamps" "[I" ∈ wsL_law := ck_5 _ (mm0 21 rfl)
theorem wq_5_22 : Cond.fieldLink RX10 64 "ShrinkingCallsModel" "index" "[I" ∈ wsL_law := ck_5 _ (mm0 22 rfl)
theorem wq_5_23 : Cond.fieldLink RX10 67 "ShrinkingCallsModel" "words" "[I" ∈ wsL_law := ck_5 _ (mm0 23 rfl)
theorem wq_6_0 : Cond.fieldLink RX10 70 "ShrinkingCallsModel" "nextWords" "[I" ∈ wsL_law := ck_6 _ (mm0 0 rfl)
theorem wq_6_1 : Cond.fieldLink RX10 73 "ShrinkingCallsModel" "order" "[I" ∈ wsL_law := ck_6 _ (mm0 1 rfl)
theorem wq_6_2 : Cond.fieldLink RX10 76 "ShrinkingCallsModel" "longs" "[I" ∈ wsL_law := ck_6 _ (mm0 2 rfl)
theorem wq_6_3 : Cond.methodLink RL 15 yX9_type ∈ wsL_law := ck_6 _ (mm0 3 rfl)
theorem wq_6_4 : Cond.instanceMethod yX9_type ∈ wsL_law := ck_6 _ (mm0 4 rfl)
theorem wq_6_5 : Cond.selects RX9 yX9_type yX9_type ∈ wsL_law := ck_6 _ (mm0 5 rfl)
theorem wq_6_6 : Cond.code yX9_type cX9_type 4 (some .int) ∈ wsL_law := ck_6 _ (mm0 6 rfl)
theorem wq_6_7 : Cond.fieldLink RX9 69 "ShrinkingCalls$TextReader" "size" "I" ∈ wsL_law := ck_6 _ (mm0 7 rfl)
theorem wq_6_8 : Cond.methodLink RX9 65 yX7_take ∈ wsL_law := ck_6 _ (mm0 8 rfl)
theorem wq_6_9 : Cond.instanceMethod yX7_take ∈ wsL_law := ck_6 _ (mm0 9 rfl)
theorem wq_6_10 : Cond.selects RX7 yX7_take yX7_take ∈ wsL_law := ck_6 _ (mm0 10 rfl)
theorem wq_6_11 : Cond.code yX7_take cX7_take 5 (some .boolean) ∈ wsL_law := ck_6 _ (mm0 11 rfl)
theorem wq_6_12 : Cond.fieldLink RX7 15 "ShrinkingCalls$TextReader" "size" "I" ∈ wsL_law := ck_6 _ (mm0 12 rfl)
theorem wq_6_13 : Cond.constantLong RX7 19 (255) ∈ wsL_law := ck_6 _ (mm0 13 rfl)
theorem wq_6_14 : Cond.methodLink RL 19 yX10_type ∈ wsL_law := ck_6 _ (mm0 14 rfl)
theorem wq_6_15 : Cond.instanceMethod yX10_type ∈ wsL_law := ck_6 _ (mm0 15 rfl)
theorem wq_6_16 : Cond.selects RX10 yX10_type yX10_type ∈ wsL_law := ck_6 _ (mm0 16 rfl)
theorem wq_6_17 : Cond.code yX10_type cX10_type 5 (some .int) ∈ wsL_law := ck_6 _ (mm0 17 rfl)
theorem wq_6_18 : Cond.constantLong RX10 79 (8) ∈ wsL_law := ck_6 _ (mm0 18 rfl)
theorem wq_6_19 : Cond.fieldLink RX10 85 "ShrinkingCallsModel" "length" "I" ∈ wsL_law := ck_6 _ (mm0 19 rfl)
theorem wq_6_20 : Cond.constantLong RX10 88 (255) ∈ wsL_law := ck_6 _ (mm0 20 rfl)
theorem wq_6_21 : Cond.methodLink RX10 81 yX10_in ∈ wsL_law := ck_6 _ (mm0 21 rfl)
theorem wq_6_22 : Cond.static yX10_in ∈ wsL_law := ck_6 _ (mm0 22 rfl)
theorem wq_6_23 : Cond.code yX10_in cX10_in 6 (some .boolean) ∈ wsL_law := ck_6 _ (mm0 23 rfl)
theorem wq_7_0 : Cond.methodLink RL 20 yX9_clear ∈ wsL_law := ck_7 _ (mm0 0 rfl)
theorem wq_7_1 : Cond.instanceMethod yX9_clear ∈ wsL_law := ck_7 _ (mm0 1 rfl)
theorem wq_7_2 : Cond.selects RX9 yX9_clear yX9_clear ∈ wsL_law := ck_7 _ (mm0 2 rfl)
theorem wq_7_3 : Cond.code yX9_clear cX9_clear 1 (some .int) ∈ wsL_law := ck_7 _ (mm0 3 rfl)
theorem wq_7_4 : Cond.methodLink RX9 73 yX7_empty ∈ wsL_law := ck_7 _ (mm0 4 rfl)
theorem wq_7_5 : Cond.instanceMethod yX7_empty ∈ wsL_law := ck_7 _ (mm0 5 rfl)
theorem wq_7_6 : Cond.selects RX7 yX7_empty yX7_empty ∈ wsL_law := ck_7 _ (mm0 6 rfl)
theorem wq_7_7 : Cond.code yX7_empty cX7_empty 2 (some .int) ∈ wsL_law := ck_7 _ (mm0 7 rfl)
theorem wq_7_8 : Cond.methodLink RL 24 yX10_clear ∈ wsL_law := ck_7 _ (mm0 8 rfl)
theorem wq_7_9 : Cond.instanceMethod yX10_clear ∈ wsL_law := ck_7 _ (mm0 9 rfl)
theorem wq_7_10 : Cond.selects RX10 yX10_clear yX10_clear ∈ wsL_law := ck_7 _ (mm0 10 rfl)
theorem wq_7_11 : Cond.code yX10_clear cX10_clear 2 (some .int) ∈ wsL_law := ck_7 _ (mm0 11 rfl)
theorem wq_7_12 : Cond.methodLink RL 25 yX9_read ∈ wsL_law := ck_7 _ (mm0 12 rfl)
theorem wq_7_13 : Cond.instanceMethod yX9_read ∈ wsL_law := ck_7 _ (mm0 13 rfl)
theorem wq_7_14 : Cond.selects RX9 yX9_read yX9_read ∈ wsL_law := ck_7 _ (mm0 14 rfl)
theorem wq_7_15 : Cond.code yX9_read cX9_read 2 (some .int) ∈ wsL_law := ck_7 _ (mm0 15 rfl)
theorem wq_7_16 : Cond.methodLink RX9 77 yX7_readInto ∈ wsL_law := ck_7 _ (mm0 16 rfl)
theorem wq_7_17 : Cond.instanceMethod yX7_readInto ∈ wsL_law := ck_7 _ (mm0 17 rfl)
theorem wq_7_18 : Cond.selects RX7 yX7_readInto yX7_readInto ∈ wsL_law := ck_7 _ (mm0 18 rfl)
theorem wq_7_19 : Cond.code yX7_readInto cX7_readInto 3 (some .int) ∈ wsL_law := ck_7 _ (mm0 19 rfl)
theorem wq_7_20 : Cond.fieldLink RX7 26 "ShrinkingCalls$TextReader" "toldActs" "I" ∈ wsL_law := ck_7 _ (mm0 20 rfl)
theorem wq_7_21 : Cond.fieldLink RX7 29 "ShrinkingCalls$TextReader" "fault" "I" ∈ wsL_law := ck_7 _ (mm0 21 rfl)
theorem wq_7_22 : Cond.fieldLink RX7 32 "ShrinkingCalls$TextReader" "behind" "I" ∈ wsL_law := ck_7 _ (mm0 22 rfl)
theorem wq_7_23 : Cond.fieldLink RX7 38 "ShrinkingCalls$TextReader" "token" "I" ∈ wsL_law := ck_7 _ (mm0 23 rfl)
theorem wq_8_0 : Cond.fieldLink RX7 41 "ShrinkingCalls$Book" "size" "I" ∈ wsL_law := ck_8 _ (mm0 0 rfl)
theorem wq_8_1 : Cond.fieldLink RX7 49 "ShrinkingCalls$TextReader" "start" "I" ∈ wsL_law := ck_8 _ (mm0 1 rfl)
theorem wq_8_2 : Cond.methodLink RX7 21 yX1_wipe ∈ wsL_law := ck_8 _ (mm0 2 rfl)
theorem wq_8_3 : Cond.instanceMethod yX1_wipe ∈ wsL_law := ck_8 _ (mm0 3 rfl)
theorem wq_8_4 : Cond.selects RX1 yX1_wipe yX1_wipe ∈ wsL_law := ck_8 _ (mm0 4 rfl)
theorem wq_8_5 : Cond.code yX1_wipe cX1_wipe 1 none ∈ wsL_law := ck_8 _ (mm0 5 rfl)
theorem wq_8_6 : Cond.fieldLink RX1 30 "ShrinkingCalls$Book" "size" "I" ∈ wsL_law := ck_8 _ (mm0 6 rfl)
theorem wq_8_7 : Cond.methodLink RX1 24 yJ7_fill_53178 ∈ wsL_law := ck_8 _ (mm0 7 rfl)
theorem wq_8_8 : Cond.methodLink RX7 35 yX7_advance ∈ wsL_law := ck_8 _ (mm0 8 rfl)
theorem wq_8_9 : Cond.instanceMethod yX7_advance ∈ wsL_law := ck_8 _ (mm0 9 rfl)
theorem wq_8_10 : Cond.selects RX7 yX7_advance yX7_advance ∈ wsL_law := ck_8 _ (mm0 10 rfl)
theorem wq_8_11 : Cond.code yX7_advance cX7_advance 1 none ∈ wsL_law := ck_8 _ (mm0 11 rfl)
theorem wq_8_12 : Cond.fieldLink RX7 52 "ShrinkingCalls$TextReader" "value" "I" ∈ wsL_law := ck_8 _ (mm0 12 rfl)
theorem wq_8_13 : Cond.methodLink RX7 95 yX7_isLetter ∈ wsL_law := ck_8 _ (mm0 13 rfl)
theorem wq_8_14 : Cond.instanceMethod yX7_isLetter ∈ wsL_law := ck_8 _ (mm0 14 rfl)
theorem wq_8_15 : Cond.selects RX7 yX7_isLetter yX7_isLetter ∈ wsL_law := ck_8 _ (mm0 15 rfl)
theorem wq_8_16 : Cond.code yX7_isLetter cX7_isLetter 2 (some .boolean) ∈ wsL_law := ck_8 _ (mm0 16 rfl)
theorem wq_8_17 : Cond.methodLink RX7 99 yX7_scanWord ∈ wsL_law := ck_8 _ (mm0 17 rfl)
theorem wq_8_18 : Cond.instanceMethod yX7_scanWord ∈ wsL_law := ck_8 _ (mm0 18 rfl)
theorem wq_8_19 : Cond.selects RX7 yX7_scanWord yX7_scanWord ∈ wsL_law := ck_8 _ (mm0 19 rfl)
theorem wq_8_20 : Cond.code yX7_scanWord cX7_scanWord 1 none ∈ wsL_law := ck_8 _ (mm0 20 rfl)
theorem wq_8_21 : Cond.methodLink RX7 114 yX7_isWord ∈ wsL_law := ck_8 _ (mm0 21 rfl)
theorem wq_8_22 : Cond.instanceMethod yX7_isWord ∈ wsL_law := ck_8 _ (mm0 22 rfl)
theorem wq_8_23 : Cond.selects RX7 yX7_isWord yX7_isWord ∈ wsL_law := ck_8 _ (mm0 23 rfl)
theorem wq_9_0 : Cond.code yX7_isWord cX7_isWord 3 (some .boolean) ∈ wsL_law := ck_9 _ (mm0 0 rfl)
theorem wq_9_1 : Cond.methodLink RX7 120 yJ0_length_8abf5 ∈ wsL_law := ck_9 _ (mm0 1 rfl)
theorem wq_9_2 : Cond.instanceMethod yJ0_length_8abf5 ∈ wsL_law := ck_9 _ (mm0 2 rfl)
theorem wq_9_3 : Cond.selects RJ0 yJ0_length_8abf5 yJ0_length_8abf5 ∈ wsL_law := ck_9 _ (mm0 3 rfl)
theorem wq_9_4 : Cond.initialized RJ0 ∈ wsL_law := ck_9 _ (mm0 4 rfl)
theorem wq_9_5 : Cond.code yJ0_length_8abf5 cJ0_length_8abf5 1 (some .int) ∈ wsL_law := ck_9 _ (mm0 5 rfl)
theorem wq_9_6 : Cond.fieldLink RJ0 9 "java/lang/String" "value" "[B" ∈ wsL_law := ck_9 _ (mm0 6 rfl)
theorem wq_9_7 : Cond.methodLink RJ0 335 yJ0_coder_7d493 ∈ wsL_law := ck_9 _ (mm0 7 rfl)
theorem wq_9_8 : Cond.instanceMethod yJ0_coder_7d493 ∈ wsL_law := ck_9 _ (mm0 8 rfl)
theorem wq_9_9 : Cond.selects RJ0 yJ0_coder_7d493 yJ0_coder_7d493 ∈ wsL_law := ck_9 _ (mm0 9 rfl)
theorem wq_9_10 : Cond.code yJ0_coder_7d493 cJ0_coder_7d493 1 (some .byte) ∈ wsL_law := ck_9 _ (mm0 10 rfl)
theorem wq_9_11 : Cond.fieldLink RJ0 38 "java/lang/String" "COMPACT_STRINGS" "Z" ∈ wsL_law := ck_9 _ (mm0 11 rfl)
theorem wq_9_12 : Cond.fieldLink RJ0 15 "java/lang/String" "coder" "B" ∈ wsL_law := ck_9 _ (mm0 12 rfl)
theorem wq_9_13 : Cond.methodLink RX7 126 yJ0_charAt_5068e ∈ wsL_law := ck_9 _ (mm0 13 rfl)
theorem wq_9_14 : Cond.instanceMethod yJ0_charAt_5068e ∈ wsL_law := ck_9 _ (mm0 14 rfl)
theorem wq_9_15 : Cond.selects RJ0 yJ0_charAt_5068e yJ0_charAt_5068e ∈ wsL_law := ck_9 _ (mm0 15 rfl)
theorem wq_9_16 : Cond.code yJ0_charAt_5068e cJ0_charAt_5068e 2 (some .char) ∈ wsL_law := ck_9 _ (mm0 16 rfl)
theorem wq_9_17 : Cond.methodLink RJ0 492 yJ0_isLatin1_aae02 ∈ wsL_law := ck_9 _ (mm0 17 rfl)
theorem wq_9_18 : Cond.instanceMethod yJ0_isLatin1_aae02 ∈ wsL_law := ck_9 _ (mm0 18 rfl)
theorem wq_9_19 : Cond.selects RJ0 yJ0_isLatin1_aae02 yJ0_isLatin1_aae02 ∈ wsL_law := ck_9 _ (mm0 19 rfl)
theorem wq_9_20 : Cond.code yJ0_isLatin1_aae02 cJ0_isLatin1_aae02 1 (some .boolean) ∈ wsL_law := ck_9 _ (mm0 20 rfl)
theorem wq_9_21 : Cond.methodLink RJ0 495 yJ1_charAt_3b067 ∈ wsL_law := ck_9 _ (mm0 21 rfl)
theorem wq_9_22 : Cond.static yJ1_charAt_3b067 ∈ wsL_law := ck_9 _ (mm0 22 rfl)
theorem wq_9_23 : Cond.initialized RJ1 ∈ wsL_law := ck_9 _ (mm0 23 rfl)
theorem wq_10_0 : Cond.code yJ1_charAt_3b067 cJ1_charAt_3b067 2 (some .char) ∈ wsL_law := ck_10 _ (mm0 0 rfl)
theorem wq_10_1 : Cond.methodLink RJ1 9 yJ0_checkIndex_df160 ∈ wsL_law := ck_10 _ (mm0 1 rfl)
theorem wq_10_2 : Cond.static yJ0_checkIndex_df160 ∈ wsL_law := ck_10 _ (mm0 2 rfl)
theorem wq_10_3 : Cond.code yJ0_checkIndex_df160 cJ0_checkIndex_df160 2 none ∈ wsL_law := ck_10 _ (mm0 3 rfl)
theorem wq_10_4 : Cond.fieldLink RJ0 1053 "jdk/internal/util/Preconditions" "SIOOBE_FORMATTER" "Ljava/util/function/BiFunction;" ∈ wsL_law := ck_10 _ (mm0 4 rfl)
theorem wq_10_5 : Cond.methodLink RJ0 1059 yJ3_checkIndex_8e157 ∈ wsL_law := ck_10 _ (mm0 5 rfl)
theorem wq_10_6 : Cond.static yJ3_checkIndex_8e157 ∈ wsL_law := ck_10 _ (mm0 6 rfl)
theorem wq_10_7 : Cond.initialized RJ3 ∈ wsL_law := ck_10 _ (mm0 7 rfl)
theorem wq_10_8 : Cond.code yJ3_checkIndex_8e157 cJ3_checkIndex_8e157 3 (some .int) ∈ wsL_law := ck_10 _ (mm0 8 rfl)
theorem wq_10_9 : Cond.methodLink RJ0 498 yJ2_charAt_3b067 ∈ wsL_law := ck_10 _ (mm0 9 rfl)
theorem wq_10_10 : Cond.static yJ2_charAt_3b067 ∈ wsL_law := ck_10 _ (mm0 10 rfl)
theorem wq_10_11 : Cond.initialized RJ2 ∈ wsL_law := ck_10 _ (mm0 11 rfl)
theorem wq_10_12 : Cond.code yJ2_charAt_3b067 cJ2_charAt_3b067 2 (some .char) ∈ wsL_law := ck_10 _ (mm0 12 rfl)
theorem wq_10_13 : Cond.methodLink RJ2 67 yJ2_checkIndex_2214a ∈ wsL_law := ck_10 _ (mm0 13 rfl)
theorem wq_10_14 : Cond.static yJ2_checkIndex_2214a ∈ wsL_law := ck_10 _ (mm0 14 rfl)
theorem wq_10_15 : Cond.code yJ2_checkIndex_2214a cJ2_checkIndex_2214a 2 none ∈ wsL_law := ck_10 _ (mm0 15 rfl)
theorem wq_10_16 : Cond.methodLink RJ2 48 yJ2_length_9d52b ∈ wsL_law := ck_10 _ (mm0 16 rfl)
theorem wq_10_17 : Cond.static yJ2_length_9d52b ∈ wsL_law := ck_10 _ (mm0 17 rfl)
theorem wq_10_18 : Cond.code yJ2_length_9d52b cJ2_length_9d52b 1 (some .int) ∈ wsL_law := ck_10 _ (mm0 18 rfl)
theorem wq_10_19 : Cond.methodLink RJ2 414 yJ0_checkIndex_df160 ∈ wsL_law := ck_10 _ (mm0 19 rfl)
theorem wq_10_20 : Cond.methodLink RJ2 71 yJ2_getChar_3b067 ∈ wsL_law := ck_10 _ (mm0 20 rfl)
theorem wq_10_21 : Cond.static yJ2_getChar_3b067 ∈ wsL_law := ck_10 _ (mm0 21 rfl)
theorem wq_10_22 : Cond.code yJ2_getChar_3b067 cJ2_getChar_3b067 2 (some .char) ∈ wsL_law := ck_10 _ (mm0 22 rfl)
theorem wq_10_23 : Cond.fieldLink RJ2 44 "java/lang/StringUTF16" "$assertionsDisabled" "Z" ∈ wsL_law := ck_10 _ (mm0 23 rfl)
theorem wq_11_0 : Cond.fieldLink RJ2 59 "java/lang/StringUTF16" "HI_BYTE_SHIFT" "I" ∈ wsL_law := ck_11 _ (mm0 0 rfl)
theorem wq_11_1 : Cond.fieldLink RJ2 63 "java/lang/StringUTF16" "LO_BYTE_SHIFT" "I" ∈ wsL_law := ck_11 _ (mm0 1 rfl)
theorem wq_11_2 : Cond.methodLink RX7 102 yX7_isFigure ∈ wsL_law := ck_11 _ (mm0 2 rfl)
theorem wq_11_3 : Cond.instanceMethod yX7_isFigure ∈ wsL_law := ck_11 _ (mm0 3 rfl)
theorem wq_11_4 : Cond.selects RX7 yX7_isFigure yX7_isFigure ∈ wsL_law := ck_11 _ (mm0 4 rfl)
theorem wq_11_5 : Cond.code yX7_isFigure cX7_isFigure 2 (some .boolean) ∈ wsL_law := ck_11 _ (mm0 5 rfl)
theorem wq_11_6 : Cond.methodLink RX7 105 yX7_scanNumber ∈ wsL_law := ck_11 _ (mm0 6 rfl)
theorem wq_11_7 : Cond.instanceMethod yX7_scanNumber ∈ wsL_law := ck_11 _ (mm0 7 rfl)
theorem wq_11_8 : Cond.selects RX7 yX7_scanNumber yX7_scanNumber ∈ wsL_law := ck_11 _ (mm0 8 rfl)
theorem wq_11_9 : Cond.code yX7_scanNumber cX7_scanNumber 1 none ∈ wsL_law := ck_11 _ (mm0 9 rfl)
theorem wq_11_10 : Cond.methodLink RX7 108 yX7_scanSign ∈ wsL_law := ck_11 _ (mm0 10 rfl)
theorem wq_11_11 : Cond.instanceMethod yX7_scanSign ∈ wsL_law := ck_11 _ (mm0 11 rfl)
theorem wq_11_12 : Cond.selects RX7 yX7_scanSign yX7_scanSign ∈ wsL_law := ck_11 _ (mm0 12 rfl)
theorem wq_11_13 : Cond.code yX7_scanSign cX7_scanSign 2 none ∈ wsL_law := ck_11 _ (mm0 13 rfl)
theorem wq_11_14 : Cond.methodLink RX7 42 yX7_readAct ∈ wsL_law := ck_11 _ (mm0 14 rfl)
theorem wq_11_15 : Cond.instanceMethod yX7_readAct ∈ wsL_law := ck_11 _ (mm0 15 rfl)
theorem wq_11_16 : Cond.selects RX7 yX7_readAct yX7_readAct ∈ wsL_law := ck_11 _ (mm0 16 rfl)
theorem wq_11_17 : Cond.code yX7_readAct cX7_readAct 3 none ∈ wsL_law := ck_11 _ (mm0 17 rfl)
theorem wq_11_18 : Cond.fieldLink RX7 59 "ShrinkingCalls$Book" "placesOf" "[I" ∈ wsL_law := ck_11 _ (mm0 18 rfl)
theorem wq_11_19 : Cond.methodLink RX7 55 yX7_stands ∈ wsL_law := ck_11 _ (mm0 19 rfl)
theorem wq_11_20 : Cond.instanceMethod yX7_stands ∈ wsL_law := ck_11 _ (mm0 20 rfl)
theorem wq_11_21 : Cond.selects RX7 yX7_stands yX7_stands ∈ wsL_law := ck_11 _ (mm0 21 rfl)
theorem wq_11_22 : Cond.code yX7_stands cX7_stands 2 (some .boolean) ∈ wsL_law := ck_11 _ (mm0 22 rfl)
theorem wq_11_23 : Cond.methodLink RX7 46 yX7_readCall ∈ wsL_law := ck_11 _ (mm0 23 rfl)
theorem wq_12_0 : Cond.instanceMethod yX7_readCall ∈ wsL_law := ck_12 _ (mm0 0 rfl)
theorem wq_12_1 : Cond.selects RX7 yX7_readCall yX7_readCall ∈ wsL_law := ck_12 _ (mm0 1 rfl)
theorem wq_12_2 : Cond.code yX7_readCall cX7_readCall 6 none ∈ wsL_law := ck_12 _ (mm0 2 rfl)
theorem wq_12_3 : Cond.methodLink RX7 62 yX1_add ∈ wsL_law := ck_12 _ (mm0 3 rfl)
theorem wq_12_4 : Cond.instanceMethod yX1_add ∈ wsL_law := ck_12 _ (mm0 4 rfl)
theorem wq_12_5 : Cond.selects RX1 yX1_add yX1_add ∈ wsL_law := ck_12 _ (mm0 5 rfl)
theorem wq_12_6 : Cond.code yX1_add cX1_add 3 none ∈ wsL_law := ck_12 _ (mm0 6 rfl)
theorem wq_12_7 : Cond.methodLink RX7 66 yX7_readArc ∈ wsL_law := ck_12 _ (mm0 7 rfl)
theorem wq_12_8 : Cond.instanceMethod yX7_readArc ∈ wsL_law := ck_12 _ (mm0 8 rfl)
theorem wq_12_9 : Cond.selects RX7 yX7_readArc yX7_readArc ∈ wsL_law := ck_12 _ (mm0 9 rfl)
theorem wq_12_10 : Cond.code yX7_readArc cX7_readArc 7 none ∈ wsL_law := ck_12 _ (mm0 10 rfl)
theorem wq_12_11 : Cond.fieldLink RX7 70 "ShrinkingCalls$Book" "from" "[I" ∈ wsL_law := ck_12 _ (mm0 11 rfl)
theorem wq_12_12 : Cond.fieldLink RX7 73 "ShrinkingCalls$Book" "to" "[I" ∈ wsL_law := ck_12 _ (mm0 12 rfl)
theorem wq_12_13 : Cond.fieldLink RX7 76 "ShrinkingCalls$Book" "arcs" "[I" ∈ wsL_law := ck_12 _ (mm0 13 rfl)
theorem wq_12_14 : Cond.methodLink RX7 85 Lib.Math.max.name ∈ wsL_law := ck_12 _ (mm0 14 rfl)
theorem wq_12_15 : Cond.static Lib.Math.max.name ∈ wsL_law := ck_12 _ (mm0 15 rfl)
theorem wq_12_16 : Cond.initialized "java/lang/Math" ∈ wsL_law := ck_12 _ (mm0 16 rfl)
theorem wq_12_17 : Cond.code Lib.Math.max.name Lib.Math.max.code 2 (some .int) ∈ wsL_law := ck_12 _ (mm0 17 rfl)
theorem wq_12_18 : Cond.methodLink RX7 79 yX0_at ∈ wsL_law := ck_12 _ (mm0 18 rfl)
theorem wq_12_19 : Cond.static yX0_at ∈ wsL_law := ck_12 _ (mm0 19 rfl)
theorem wq_12_20 : Cond.initialized RX0 ∈ wsL_law := ck_12 _ (mm0 20 rfl)
theorem wq_12_21 : Cond.code yX0_at cX0_at 3 (some .int) ∈ wsL_law := ck_12 _ (mm0 21 rfl)
theorem wq_12_22 : Cond.methodLink RX7 91 yX0_with ∈ wsL_law := ck_12 _ (mm0 22 rfl)
theorem wq_12_23 : Cond.static yX0_with ∈ wsL_law := ck_12 _ (mm0 23 rfl)
theorem wq_13_0 : Cond.code yX0_with cX0_with 5 (some .int) ∈ wsL_law := ck_13 _ (mm0 0 rfl)
theorem wq_13_1 : Cond.methodLink RX9 81 yX1_copyFrom ∈ wsL_law := ck_13 _ (mm0 1 rfl)
theorem wq_13_2 : Cond.instanceMethod yX1_copyFrom ∈ wsL_law := ck_13 _ (mm0 2 rfl)
theorem wq_13_3 : Cond.selects RX1 yX1_copyFrom yX1_copyFrom ∈ wsL_law := ck_13 _ (mm0 3 rfl)
theorem wq_13_4 : Cond.code yX1_copyFrom cX1_copyFrom 2 none ∈ wsL_law := ck_13 _ (mm0 4 rfl)
theorem wq_13_5 : Cond.methodLink RX1 34 arraycopyName ∈ wsL_law := ck_13 _ (mm0 5 rfl)
theorem wq_13_6 : Cond.native arraycopyName ∈ wsL_law := ck_13 _ (mm0 6 rfl)
theorem wq_13_7 : Cond.static arraycopyName ∈ wsL_law := ck_13 _ (mm0 7 rfl)
theorem wq_13_8 : Cond.initialized "java/lang/System" ∈ wsL_law := ck_13 _ (mm0 8 rfl)
theorem wq_13_9 : Cond.methodLink RX9 85 yX5_empty ∈ wsL_law := ck_13 _ (mm0 9 rfl)
theorem wq_13_10 : Cond.instanceMethod yX5_empty ∈ wsL_law := ck_13 _ (mm0 10 rfl)
theorem wq_13_11 : Cond.selects RX5 yX5_empty yX5_empty ∈ wsL_law := ck_13 _ (mm0 11 rfl)
theorem wq_13_12 : Cond.code yX5_empty cX5_empty 2 (some .int) ∈ wsL_law := ck_13 _ (mm0 12 rfl)
theorem wq_13_13 : Cond.fieldLink RX5 13 "ShrinkingCalls$RoundTrip" "size" "I" ∈ wsL_law := ck_13 _ (mm0 13 rfl)
theorem wq_13_14 : Cond.methodLink RX9 86 yX9_forgetWhatFollows ∈ wsL_law := ck_13 _ (mm0 14 rfl)
theorem wq_13_15 : Cond.instanceMethod yX9_forgetWhatFollows ∈ wsL_law := ck_13 _ (mm0 15 rfl)
theorem wq_13_16 : Cond.selects RX9 yX9_forgetWhatFollows yX9_forgetWhatFollows ∈ wsL_law := ck_13 _ (mm0 16 rfl)
theorem wq_13_17 : Cond.code yX9_forgetWhatFollows cX9_forgetWhatFollows 1 none ∈ wsL_law := ck_13 _ (mm0 17 rfl)
theorem wq_13_18 : Cond.methodLink RX9 257 yX4_forget ∈ wsL_law := ck_13 _ (mm0 18 rfl)
theorem wq_13_19 : Cond.instanceMethod yX4_forget ∈ wsL_law := ck_13 _ (mm0 19 rfl)
theorem wq_13_20 : Cond.selects RX4 yX4_forget yX4_forget ∈ wsL_law := ck_13 _ (mm0 20 rfl)
theorem wq_13_21 : Cond.code yX4_forget cX4_forget 1 none ∈ wsL_law := ck_13 _ (mm0 21 rfl)
theorem wq_13_22 : Cond.fieldLink RX4 31 "ShrinkingCalls$Mending" "neededTried" "Z" ∈ wsL_law := ck_13 _ (mm0 22 rfl)
theorem wq_13_23 : Cond.methodLink RL 28 yX10_read ∈ wsL_law := ck_13 _ (mm0 23 rfl)
theorem wq_14_0 : Cond.instanceMethod yX10_read ∈ wsL_law := ck_14 _ (mm0 0 rfl)
theorem wq_14_1 : Cond.selects RX10 yX10_read yX10_read ∈ wsL_law := ck_14 _ (mm0 1 rfl)
theorem wq_14_2 : Cond.code yX10_read cX10_read 3 (some .int) ∈ wsL_law := ck_14 _ (mm0 2 rfl)
theorem wq_14_3 : Cond.fieldLink RX10 130 "ShrinkingCallsModel" "readCalls" "I" ∈ wsL_law := ck_14 _ (mm0 3 rfl)
theorem wq_14_4 : Cond.fieldLink RX10 146 "ShrinkingCallsModel" "callMany" "I" ∈ wsL_law := ck_14 _ (mm0 4 rfl)
theorem wq_14_5 : Cond.fieldLink RX10 149 "ShrinkingCallsModel" "tripMany" "I" ∈ wsL_law := ck_14 _ (mm0 5 rfl)
theorem wq_14_6 : Cond.fieldLink RX10 133 "ShrinkingCallsModel" "readItems" "I" ∈ wsL_law := ck_14 _ (mm0 6 rfl)
theorem wq_14_7 : Cond.methodLink RX10 143 yX10_readAll ∈ wsL_law := ck_14 _ (mm0 7 rfl)
theorem wq_14_8 : Cond.instanceMethod yX10_readAll ∈ wsL_law := ck_14 _ (mm0 8 rfl)
theorem wq_14_9 : Cond.selects RX10 yX10_readAll yX10_readAll ∈ wsL_law := ck_14 _ (mm0 9 rfl)
theorem wq_14_10 : Cond.code yX10_readAll cX10_readAll 3 (some .int) ∈ wsL_law := ck_14 _ (mm0 10 rfl)
theorem wq_14_11 : Cond.fieldLink RX10 97 "ShrinkingCallsModel" "place" "I" ∈ wsL_law := ck_14 _ (mm0 11 rfl)
theorem wq_14_12 : Cond.fieldLink RX10 90 "ShrinkingCallsModel" "begins" "I" ∈ wsL_law := ck_14 _ (mm0 12 rfl)
theorem wq_14_13 : Cond.methodLink RX10 119 yX10_token ∈ wsL_law := ck_14 _ (mm0 13 rfl)
theorem wq_14_14 : Cond.instanceMethod yX10_token ∈ wsL_law := ck_14 _ (mm0 14 rfl)
theorem wq_14_15 : Cond.selects RX10 yX10_token yX10_token ∈ wsL_law := ck_14 _ (mm0 15 rfl)
theorem wq_14_16 : Cond.code yX10_token cX10_token 3 (some .int) ∈ wsL_law := ck_14 _ (mm0 16 rfl)
theorem wq_14_17 : Cond.fieldLink RX10 100 "ShrinkingCallsModel" "worth" "I" ∈ wsL_law := ck_14 _ (mm0 17 rfl)
theorem wq_14_18 : Cond.constantLong RX10 103 (65) ∈ wsL_law := ck_14 _ (mm0 18 rfl)
theorem wq_14_19 : Cond.constantLong RX10 105 (68) ∈ wsL_law := ck_14 _ (mm0 19 rfl)
theorem wq_14_20 : Cond.constantLong RX10 107 (48) ∈ wsL_law := ck_14 _ (mm0 20 rfl)
theorem wq_14_21 : Cond.constantLong RX10 109 (57) ∈ wsL_law := ck_14 _ (mm0 21 rfl)
theorem wq_14_22 : Cond.constantLong RX10 111 (97) ∈ wsL_law := ck_14 _ (mm0 22 rfl)
theorem wq_14_23 : Cond.constantLong RX10 113 (122) ∈ wsL_law := ck_14 _ (mm0 23 rfl)
theorem wq_15_0 : Cond.methodLink RX10 93 yX10_byteAt ∈ wsL_law := ck_15 _ (mm0 0 rfl)
theorem wq_15_1 : Cond.instanceMethod yX10_byteAt ∈ wsL_law := ck_15 _ (mm0 1 rfl)
theorem wq_15_2 : Cond.selects RX10 yX10_byteAt yX10_byteAt ∈ wsL_law := ck_15 _ (mm0 2 rfl)
theorem wq_15_3 : Cond.code yX10_byteAt cX10_byteAt 2 (some .int) ∈ wsL_law := ck_15 _ (mm0 3 rfl)
theorem wq_15_4 : Cond.methodLink RX10 115 yX10_isWord ∈ wsL_law := ck_15 _ (mm0 4 rfl)
theorem wq_15_5 : Cond.instanceMethod yX10_isWord ∈ wsL_law := ck_15 _ (mm0 5 rfl)
theorem wq_15_6 : Cond.selects RX10 yX10_isWord yX10_isWord ∈ wsL_law := ck_15 _ (mm0 6 rfl)
theorem wq_15_7 : Cond.code yX10_isWord cX10_isWord 7 (some .boolean) ∈ wsL_law := ck_15 _ (mm0 7 rfl)
theorem wq_15_8 : Cond.methodLink RX10 136 yX10_actItem ∈ wsL_law := ck_15 _ (mm0 8 rfl)
theorem wq_15_9 : Cond.instanceMethod yX10_actItem ∈ wsL_law := ck_15 _ (mm0 9 rfl)
theorem wq_15_10 : Cond.selects RX10 yX10_actItem yX10_actItem ∈ wsL_law := ck_15 _ (mm0 10 rfl)
theorem wq_15_11 : Cond.code yX10_actItem cX10_actItem 2 (some .boolean) ∈ wsL_law := ck_15 _ (mm0 11 rfl)
theorem wq_15_12 : Cond.methodLink RX10 123 yX10_number ∈ wsL_law := ck_15 _ (mm0 12 rfl)
theorem wq_15_13 : Cond.instanceMethod yX10_number ∈ wsL_law := ck_15 _ (mm0 13 rfl)
theorem wq_15_14 : Cond.selects RX10 yX10_number yX10_number ∈ wsL_law := ck_15 _ (mm0 14 rfl)
theorem wq_15_15 : Cond.code yX10_number cX10_number 2 (some .boolean) ∈ wsL_law := ck_15 _ (mm0 15 rfl)
theorem wq_15_16 : Cond.methodLink RX10 127 yX10_sign ∈ wsL_law := ck_15 _ (mm0 16 rfl)
theorem wq_15_17 : Cond.instanceMethod yX10_sign ∈ wsL_law := ck_15 _ (mm0 17 rfl)
theorem wq_15_18 : Cond.selects RX10 yX10_sign yX10_sign ∈ wsL_law := ck_15 _ (mm0 18 rfl)
theorem wq_15_19 : Cond.code yX10_sign cX10_sign 2 (some .boolean) ∈ wsL_law := ck_15 _ (mm0 19 rfl)
theorem wq_15_20 : Cond.methodLink RX10 140 yX10_callItem ∈ wsL_law := ck_15 _ (mm0 20 rfl)
theorem wq_15_21 : Cond.instanceMethod yX10_callItem ∈ wsL_law := ck_15 _ (mm0 21 rfl)
theorem wq_15_22 : Cond.selects RX10 yX10_callItem yX10_callItem ∈ wsL_law := ck_15 _ (mm0 22 rfl)
theorem wq_15_23 : Cond.code yX10_callItem cX10_callItem 8 (some .boolean) ∈ wsL_law := ck_15 _ (mm0 23 rfl)
theorem wq_16_0 : Cond.methodLink RL 29 yX9_places ∈ wsL_law := ck_16 _ (mm0 0 rfl)
theorem wq_16_1 : Cond.instanceMethod yX9_places ∈ wsL_law := ck_16 _ (mm0 1 rfl)
theorem wq_16_2 : Cond.selects RX9 yX9_places yX9_places ∈ wsL_law := ck_16 _ (mm0 2 rfl)
theorem wq_16_3 : Cond.code yX9_places cX9_places 2 (some .int) ∈ wsL_law := ck_16 _ (mm0 3 rfl)
theorem wq_16_4 : Cond.fieldLink RX9 93 "ShrinkingCalls$Book" "placesOf" "[I" ∈ wsL_law := ck_16 _ (mm0 4 rfl)
theorem wq_16_5 : Cond.methodLink RX9 89 yX9_isAct ∈ wsL_law := ck_16 _ (mm0 5 rfl)
theorem wq_16_6 : Cond.static yX9_isAct ∈ wsL_law := ck_16 _ (mm0 6 rfl)
theorem wq_16_7 : Cond.code yX9_isAct cX9_isAct 1 (some .boolean) ∈ wsL_law := ck_16 _ (mm0 7 rfl)
theorem wq_16_8 : Cond.methodLink RL 33 yX10_places ∈ wsL_law := ck_16 _ (mm0 8 rfl)
theorem wq_16_9 : Cond.instanceMethod yX10_places ∈ wsL_law := ck_16 _ (mm0 9 rfl)
theorem wq_16_10 : Cond.selects RX10 yX10_places yX10_places ∈ wsL_law := ck_16 _ (mm0 10 rfl)
theorem wq_16_11 : Cond.code yX10_places cX10_places 2 (some .int) ∈ wsL_law := ck_16 _ (mm0 11 rfl)
theorem wq_16_12 : Cond.methodLink RX10 154 yX10_isAct ∈ wsL_law := ck_16 _ (mm0 12 rfl)
theorem wq_16_13 : Cond.static yX10_isAct ∈ wsL_law := ck_16 _ (mm0 13 rfl)
theorem wq_16_14 : Cond.code yX10_isAct cX10_isAct 1 (some .boolean) ∈ wsL_law := ck_16 _ (mm0 14 rfl)
theorem wq_16_15 : Cond.constantLong RX10 152 (3) ∈ wsL_law := ck_16 _ (mm0 15 rfl)
theorem wq_16_16 : Cond.methodLink RL 34 yX9_call ∈ wsL_law := ck_16 _ (mm0 16 rfl)
theorem wq_16_17 : Cond.instanceMethod yX9_call ∈ wsL_law := ck_16 _ (mm0 17 rfl)
theorem wq_16_18 : Cond.selects RX9 yX9_call yX9_call ∈ wsL_law := ck_16 _ (mm0 18 rfl)
theorem wq_16_19 : Cond.code yX9_call cX9_call 3 (some .int) ∈ wsL_law := ck_16 _ (mm0 19 rfl)
theorem wq_16_20 : Cond.fieldLink RX9 100 "ShrinkingCalls$Book" "from" "[I" ∈ wsL_law := ck_16 _ (mm0 20 rfl)
theorem wq_16_21 : Cond.fieldLink RX9 103 "ShrinkingCalls$Book" "to" "[I" ∈ wsL_law := ck_16 _ (mm0 21 rfl)
theorem wq_16_22 : Cond.fieldLink RX9 106 "ShrinkingCalls$Book" "arcs" "[I" ∈ wsL_law := ck_16 _ (mm0 22 rfl)
theorem wq_16_23 : Cond.methodLink RX9 97 yX1_hasCall ∈ wsL_law := ck_16 _ (mm0 23 rfl)
theorem wq_17_0 : Cond.instanceMethod yX1_hasCall ∈ wsL_law := ck_17 _ (mm0 0 rfl)
theorem wq_17_1 : Cond.selects RX1 yX1_hasCall yX1_hasCall ∈ wsL_law := ck_17 _ (mm0 1 rfl)
theorem wq_17_2 : Cond.code yX1_hasCall cX1_hasCall 2 (some .boolean) ∈ wsL_law := ck_17 _ (mm0 2 rfl)
theorem wq_17_3 : Cond.methodLink RX9 109 yX0_toNumber ∈ wsL_law := ck_17 _ (mm0 3 rfl)
theorem wq_17_4 : Cond.static yX0_toNumber ∈ wsL_law := ck_17 _ (mm0 4 rfl)
theorem wq_17_5 : Cond.code yX0_toNumber cX0_toNumber 3 (some .int) ∈ wsL_law := ck_17 _ (mm0 5 rfl)
theorem wq_17_6 : Cond.methodLink RL 38 yX10_call ∈ wsL_law := ck_17 _ (mm0 6 rfl)
theorem wq_17_7 : Cond.instanceMethod yX10_call ∈ wsL_law := ck_17 _ (mm0 7 rfl)
theorem wq_17_8 : Cond.selects RX10 yX10_call yX10_call ∈ wsL_law := ck_17 _ (mm0 8 rfl)
theorem wq_17_9 : Cond.code yX10_call cX10_call 3 (some .int) ∈ wsL_law := ck_17 _ (mm0 9 rfl)
theorem wq_17_10 : Cond.constantLong RX10 160 (2) ∈ wsL_law := ck_17 _ (mm0 10 rfl)
theorem wq_17_11 : Cond.methodLink RX10 157 yX10_isCall ∈ wsL_law := ck_17 _ (mm0 11 rfl)
theorem wq_17_12 : Cond.instanceMethod yX10_isCall ∈ wsL_law := ck_17 _ (mm0 12 rfl)
theorem wq_17_13 : Cond.selects RX10 yX10_isCall yX10_isCall ∈ wsL_law := ck_17 _ (mm0 13 rfl)
theorem wq_17_14 : Cond.code yX10_isCall cX10_isCall 2 (some .boolean) ∈ wsL_law := ck_17 _ (mm0 14 rfl)
theorem wq_17_15 : Cond.methodLink RX10 162 yX10_numberOf ∈ wsL_law := ck_17 _ (mm0 15 rfl)
theorem wq_17_16 : Cond.instanceMethod yX10_numberOf ∈ wsL_law := ck_17 _ (mm0 16 rfl)
theorem wq_17_17 : Cond.selects RX10 yX10_numberOf yX10_numberOf ∈ wsL_law := ck_17 _ (mm0 17 rfl)
theorem wq_17_18 : Cond.code yX10_numberOf cX10_numberOf 4 (some .int) ∈ wsL_law := ck_17 _ (mm0 18 rfl)
theorem wq_17_19 : Cond.methodLink RL 39 yX9_arc ∈ wsL_law := ck_17 _ (mm0 19 rfl)
theorem wq_17_20 : Cond.instanceMethod yX9_arc ∈ wsL_law := ck_17 _ (mm0 20 rfl)
theorem wq_17_21 : Cond.selects RX9 yX9_arc yX9_arc ∈ wsL_law := ck_17 _ (mm0 21 rfl)
theorem wq_17_22 : Cond.code yX9_arc cX9_arc 4 (some .int) ∈ wsL_law := ck_17 _ (mm0 22 rfl)
theorem wq_17_23 : Cond.methodLink RX9 115 yX1_hasPair ∈ wsL_law := ck_17 _ (mm0 23 rfl)
theorem wq_18_0 : Cond.instanceMethod yX1_hasPair ∈ wsL_law := ck_18 _ (mm0 0 rfl)
theorem wq_18_1 : Cond.selects RX1 yX1_hasPair yX1_hasPair ∈ wsL_law := ck_18 _ (mm0 1 rfl)
theorem wq_18_2 : Cond.code yX1_hasPair cX1_hasPair 4 (some .boolean) ∈ wsL_law := ck_18 _ (mm0 2 rfl)
theorem wq_18_3 : Cond.methodLink RX1 40 yX1_hasCall ∈ wsL_law := ck_18 _ (mm0 3 rfl)
theorem wq_18_4 : Cond.methodLink RX9 119 yX0_at ∈ wsL_law := ck_18 _ (mm0 4 rfl)
theorem wq_18_5 : Cond.methodLink RL 43 yX10_arc ∈ wsL_law := ck_18 _ (mm0 5 rfl)
theorem wq_18_6 : Cond.instanceMethod yX10_arc ∈ wsL_law := ck_18 _ (mm0 6 rfl)
theorem wq_18_7 : Cond.selects RX10 yX10_arc yX10_arc ∈ wsL_law := ck_18 _ (mm0 7 rfl)
theorem wq_18_8 : Cond.code yX10_arc cX10_arc 4 (some .int) ∈ wsL_law := ck_18 _ (mm0 8 rfl)
theorem wq_18_9 : Cond.methodLink RX10 165 yX10_isArc ∈ wsL_law := ck_18 _ (mm0 9 rfl)
theorem wq_18_10 : Cond.instanceMethod yX10_isArc ∈ wsL_law := ck_18 _ (mm0 10 rfl)
theorem wq_18_11 : Cond.selects RX10 yX10_isArc yX10_isArc ∈ wsL_law := ck_18 _ (mm0 11 rfl)
theorem wq_18_12 : Cond.code yX10_isArc cX10_isArc 4 (some .boolean) ∈ wsL_law := ck_18 _ (mm0 12 rfl)
theorem wq_18_13 : Cond.methodLink RL 44 yX9_put ∈ wsL_law := ck_18 _ (mm0 13 rfl)
theorem wq_18_14 : Cond.instanceMethod yX9_put ∈ wsL_law := ck_18 _ (mm0 14 rfl)
theorem wq_18_15 : Cond.selects RX9 yX9_put yX9_put ∈ wsL_law := ck_18 _ (mm0 15 rfl)
theorem wq_18_16 : Cond.code yX9_put cX9_put 6 (some .int) ∈ wsL_law := ck_18 _ (mm0 16 rfl)
theorem wq_18_17 : Cond.methodLink RX9 123 yX0_with ∈ wsL_law := ck_18 _ (mm0 17 rfl)
theorem wq_18_18 : Cond.methodLink RL 48 yX10_put ∈ wsL_law := ck_18 _ (mm0 18 rfl)
theorem wq_18_19 : Cond.instanceMethod yX10_put ∈ wsL_law := ck_18 _ (mm0 19 rfl)
theorem wq_18_20 : Cond.selects RX10 yX10_put yX10_put ∈ wsL_law := ck_18 _ (mm0 20 rfl)
theorem wq_18_21 : Cond.code yX10_put cX10_put 6 (some .int) ∈ wsL_law := ck_18 _ (mm0 21 rfl)
theorem wq_18_22 : Cond.methodLink RL 49 yX9_graphs ∈ wsL_law := ck_18 _ (mm0 22 rfl)
theorem wq_18_23 : Cond.instanceMethod yX9_graphs ∈ wsL_law := ck_18 _ (mm0 23 rfl)
theorem wq_19_0 : Cond.selects RX9 yX9_graphs yX9_graphs ∈ wsL_law := ck_19 _ (mm0 0 rfl)
theorem wq_19_1 : Cond.code yX9_graphs cX9_graphs 1 (some .int) ∈ wsL_law := ck_19 _ (mm0 1 rfl)
theorem wq_19_2 : Cond.fieldLink RX9 131 "ShrinkingCalls$Closure" "size" "I" ∈ wsL_law := ck_19 _ (mm0 2 rfl)
theorem wq_19_3 : Cond.methodLink RX9 127 yX9_isLarge ∈ wsL_law := ck_19 _ (mm0 3 rfl)
theorem wq_19_4 : Cond.instanceMethod yX9_isLarge ∈ wsL_law := ck_19 _ (mm0 4 rfl)
theorem wq_19_5 : Cond.selects RX9 yX9_isLarge yX9_isLarge ∈ wsL_law := ck_19 _ (mm0 5 rfl)
theorem wq_19_6 : Cond.code yX9_isLarge cX9_isLarge 1 (some .boolean) ∈ wsL_law := ck_19 _ (mm0 6 rfl)
theorem wq_19_7 : Cond.fieldLink RX9 264 "ShrinkingCalls$Closure" "large" "Z" ∈ wsL_law := ck_19 _ (mm0 7 rfl)
theorem wq_19_8 : Cond.methodLink RX9 260 yX2_grow ∈ wsL_law := ck_19 _ (mm0 8 rfl)
theorem wq_19_9 : Cond.instanceMethod yX2_grow ∈ wsL_law := ck_19 _ (mm0 9 rfl)
theorem wq_19_10 : Cond.selects RX2 yX2_grow yX2_grow ∈ wsL_law := ck_19 _ (mm0 10 rfl)
theorem wq_19_11 : Cond.code yX2_grow cX2_grow 5 none ∈ wsL_law := ck_19 _ (mm0 11 rfl)
theorem wq_19_12 : Cond.fieldLink RX2 45 "ShrinkingCalls$Closure" "size" "I" ∈ wsL_law := ck_19 _ (mm0 12 rfl)
theorem wq_19_13 : Cond.fieldLink RX2 48 "ShrinkingCalls$Closure" "large" "Z" ∈ wsL_law := ck_19 _ (mm0 13 rfl)
theorem wq_19_14 : Cond.fieldLink RX2 52 "ShrinkingCalls$Closure" "inOrder" "Z" ∈ wsL_law := ck_19 _ (mm0 14 rfl)
theorem wq_19_15 : Cond.fieldLink RX2 55 "ShrinkingCalls$Closure" "badActs" "I" ∈ wsL_law := ck_19 _ (mm0 15 rfl)
theorem wq_19_16 : Cond.fieldLink RX2 58 "ShrinkingCalls$Book" "size" "I" ∈ wsL_law := ck_19 _ (mm0 16 rfl)
theorem wq_19_17 : Cond.fieldLink RX2 61 "ShrinkingCalls$Book" "arcs" "[I" ∈ wsL_law := ck_19 _ (mm0 17 rfl)
theorem wq_19_18 : Cond.fieldLink RX2 68 "ShrinkingCalls$Book" "from" "[I" ∈ wsL_law := ck_19 _ (mm0 18 rfl)
theorem wq_19_19 : Cond.fieldLink RX2 71 "ShrinkingCalls$Book" "to" "[I" ∈ wsL_law := ck_19 _ (mm0 19 rfl)
theorem wq_19_20 : Cond.methodLink RX2 64 yX2_prepare ∈ wsL_law := ck_19 _ (mm0 20 rfl)
theorem wq_19_21 : Cond.instanceMethod yX2_prepare ∈ wsL_law := ck_19 _ (mm0 21 rfl)
theorem wq_19_22 : Cond.selects RX2 yX2_prepare yX2_prepare ∈ wsL_law := ck_19 _ (mm0 22 rfl)
theorem wq_19_23 : Cond.code yX2_prepare cX2_prepare 4 none ∈ wsL_law := ck_19 _ (mm0 23 rfl)
theorem wq_20_0 : Cond.methodLink RX2 99 yX0_joinRow ∈ wsL_law := ck_20 _ (mm0 0 rfl)
theorem wq_20_1 : Cond.static yX0_joinRow ∈ wsL_law := ck_20 _ (mm0 1 rfl)
theorem wq_20_2 : Cond.code yX0_joinRow cX0_joinRow 6 (some .int) ∈ wsL_law := ck_20 _ (mm0 2 rfl)
theorem wq_20_3 : Cond.methodLink RX2 74 yX3_of ∈ wsL_law := ck_20 _ (mm0 3 rfl)
theorem wq_20_4 : Cond.static yX3_of ∈ wsL_law := ck_20 _ (mm0 4 rfl)
theorem wq_20_5 : Cond.initialized RX3 ∈ wsL_law := ck_20 _ (mm0 5 rfl)
theorem wq_20_6 : Cond.code yX3_of cX3_of 3 (some .int) ∈ wsL_law := ck_20 _ (mm0 6 rfl)
theorem wq_20_7 : Cond.methodLink RX2 80 yX2_add ∈ wsL_law := ck_20 _ (mm0 7 rfl)
theorem wq_20_8 : Cond.instanceMethod yX2_add ∈ wsL_law := ck_20 _ (mm0 8 rfl)
theorem wq_20_9 : Cond.selects RX2 yX2_add yX2_add ∈ wsL_law := ck_20 _ (mm0 9 rfl)
theorem wq_20_10 : Cond.code yX2_add cX2_add 5 none ∈ wsL_law := ck_20 _ (mm0 10 rfl)
theorem wq_20_11 : Cond.methodLink RX2 111 yX2_freeSlotFor ∈ wsL_law := ck_20 _ (mm0 11 rfl)
theorem wq_20_12 : Cond.instanceMethod yX2_freeSlotFor ∈ wsL_law := ck_20 _ (mm0 12 rfl)
theorem wq_20_13 : Cond.selects RX2 yX2_freeSlotFor yX2_freeSlotFor ∈ wsL_law := ck_20 _ (mm0 13 rfl)
theorem wq_20_14 : Cond.code yX2_freeSlotFor cX2_freeSlotFor 5 (some .int) ∈ wsL_law := ck_20 _ (mm0 14 rfl)
theorem wq_20_15 : Cond.constant RX2 114 (-1640531535) ∈ wsL_law := ck_20 _ (mm0 15 rfl)
theorem wq_20_16 : Cond.methodLink RX2 84 yX3_isBad ∈ wsL_law := ck_20 _ (mm0 16 rfl)
theorem wq_20_17 : Cond.static yX3_isBad ∈ wsL_law := ck_20 _ (mm0 17 rfl)
theorem wq_20_18 : Cond.code yX3_isBad cX3_isBad 2 (some .boolean) ∈ wsL_law := ck_20 _ (mm0 18 rfl)
theorem wq_20_19 : Cond.constant RX3 9 (262143) ∈ wsL_law := ck_20 _ (mm0 19 rfl)
theorem wq_20_20 : Cond.methodLink RX3 10 yX3_from ∈ wsL_law := ck_20 _ (mm0 20 rfl)
theorem wq_20_21 : Cond.static yX3_from ∈ wsL_law := ck_20 _ (mm0 21 rfl)
theorem wq_20_22 : Cond.code yX3_from cX3_from 1 (some .int) ∈ wsL_law := ck_20 _ (mm0 22 rfl)
theorem wq_20_23 : Cond.methodLink RX3 14 yX3_to ∈ wsL_law := ck_20 _ (mm0 23 rfl)
theorem wq_21_0 : Cond.static yX3_to ∈ wsL_law := ck_21 _ (mm0 0 rfl)
theorem wq_21_1 : Cond.code yX3_to cX3_to 1 (some .int) ∈ wsL_law := ck_21 _ (mm0 1 rfl)
theorem wq_21_2 : Cond.methodLink RX3 23 yX0_hasLessToItself ∈ wsL_law := ck_21 _ (mm0 2 rfl)
theorem wq_21_3 : Cond.static yX0_hasLessToItself ∈ wsL_law := ck_21 _ (mm0 3 rfl)
theorem wq_21_4 : Cond.code yX0_hasLessToItself cX0_hasLessToItself 1 (some .boolean) ∈ wsL_law := ck_21 _ (mm0 4 rfl)
theorem wq_21_5 : Cond.constant RX0 18 (131586) ∈ wsL_law := ck_21 _ (mm0 5 rfl)
theorem wq_21_6 : Cond.methodLink RX3 17 yX0_join ∈ wsL_law := ck_21 _ (mm0 6 rfl)
theorem wq_21_7 : Cond.static yX0_join ∈ wsL_law := ck_21 _ (mm0 7 rfl)
theorem wq_21_8 : Cond.code yX0_join cX0_join 4 (some .int) ∈ wsL_law := ck_21 _ (mm0 8 rfl)
theorem wq_21_9 : Cond.methodLink RX0 11 yX0_row ∈ wsL_law := ck_21 _ (mm0 9 rfl)
theorem wq_21_10 : Cond.static yX0_row ∈ wsL_law := ck_21 _ (mm0 10 rfl)
theorem wq_21_11 : Cond.code yX0_row cX0_row 2 (some .int) ∈ wsL_law := ck_21 _ (mm0 11 rfl)
theorem wq_21_12 : Cond.methodLink RX0 15 yX0_joinRow ∈ wsL_law := ck_21 _ (mm0 12 rfl)
theorem wq_21_13 : Cond.methodLink RX2 88 yX2_noteBad ∈ wsL_law := ck_21 _ (mm0 13 rfl)
theorem wq_21_14 : Cond.instanceMethod yX2_noteBad ∈ wsL_law := ck_21 _ (mm0 14 rfl)
theorem wq_21_15 : Cond.selects RX2 yX2_noteBad yX2_noteBad ∈ wsL_law := ck_21 _ (mm0 15 rfl)
theorem wq_21_16 : Cond.code yX2_noteBad cX2_noteBad 2 none ∈ wsL_law := ck_21 _ (mm0 16 rfl)
theorem wq_21_17 : Cond.methodLink RX2 96 yX3_from ∈ wsL_law := ck_21 _ (mm0 17 rfl)
theorem wq_21_18 : Cond.methodLink RX2 92 yX2_goOnFrom ∈ wsL_law := ck_21 _ (mm0 18 rfl)
theorem wq_21_19 : Cond.instanceMethod yX2_goOnFrom ∈ wsL_law := ck_21 _ (mm0 19 rfl)
theorem wq_21_20 : Cond.selects RX2 yX2_goOnFrom yX2_goOnFrom ∈ wsL_law := ck_21 _ (mm0 20 rfl)
theorem wq_21_21 : Cond.code yX2_goOnFrom cX2_goOnFrom 8 none ∈ wsL_law := ck_21 _ (mm0 21 rfl)
theorem wq_21_22 : Cond.methodLink RX2 103 yX3_to ∈ wsL_law := ck_21 _ (mm0 22 rfl)
theorem wq_21_23 : Cond.methodLink RX2 105 yX2_joinedWithCall ∈ wsL_law := ck_21 _ (mm0 23 rfl)
theorem wq_22_0 : Cond.instanceMethod yX2_joinedWithCall ∈ wsL_law := ck_22 _ (mm0 0 rfl)
theorem wq_22_1 : Cond.selects RX2 yX2_joinedWithCall yX2_joinedWithCall ∈ wsL_law := ck_22 _ (mm0 1 rfl)
theorem wq_22_2 : Cond.code yX2_joinedWithCall cX2_joinedWithCall 4 (some .int) ∈ wsL_law := ck_22 _ (mm0 2 rfl)
theorem wq_22_3 : Cond.methodLink RX2 108 yX0_row ∈ wsL_law := ck_22 _ (mm0 3 rfl)
theorem wq_22_4 : Cond.methodLink RL 52 yX10_graphs ∈ wsL_law := ck_22 _ (mm0 4 rfl)
theorem wq_22_5 : Cond.instanceMethod yX10_graphs ∈ wsL_law := ck_22 _ (mm0 5 rfl)
theorem wq_22_6 : Cond.selects RX10 yX10_graphs yX10_graphs ∈ wsL_law := ck_22 _ (mm0 6 rfl)
theorem wq_22_7 : Cond.code yX10_graphs cX10_graphs 1 (some .int) ∈ wsL_law := ck_22 _ (mm0 7 rfl)
theorem wq_22_8 : Cond.fieldLink RX10 185 "ShrinkingCallsModel" "many" "I" ∈ wsL_law := ck_22 _ (mm0 8 rfl)
theorem wq_22_9 : Cond.methodLink RX10 202 yX10_layGraphs ∈ wsL_law := ck_22 _ (mm0 9 rfl)
theorem wq_22_10 : Cond.instanceMethod yX10_layGraphs ∈ wsL_law := ck_22 _ (mm0 10 rfl)
theorem wq_22_11 : Cond.selects RX10 yX10_layGraphs yX10_layGraphs ∈ wsL_law := ck_22 _ (mm0 11 rfl)
theorem wq_22_12 : Cond.code yX10_layGraphs cX10_layGraphs 5 (some .boolean) ∈ wsL_law := ck_22 _ (mm0 12 rfl)
theorem wq_22_13 : Cond.fieldLink RX10 182 "ShrinkingCallsModel" "stamp" "I" ∈ wsL_law := ck_22 _ (mm0 13 rfl)
theorem wq_22_14 : Cond.constant RX10 188 (2000000000) ∈ wsL_law := ck_22 _ (mm0 14 rfl)
theorem wq_22_15 : Cond.methodLink RX10 189 yX10_has ∈ wsL_law := ck_22 _ (mm0 15 rfl)
theorem wq_22_16 : Cond.static yX10_has ∈ wsL_law := ck_22 _ (mm0 16 rfl)
theorem wq_22_17 : Cond.code yX10_has cX10_has 2 (some .boolean) ∈ wsL_law := ck_22 _ (mm0 17 rfl)
theorem wq_22_18 : Cond.methodLink RX10 193 yX10_note ∈ wsL_law := ck_22 _ (mm0 18 rfl)
theorem wq_22_19 : Cond.instanceMethod yX10_note ∈ wsL_law := ck_22 _ (mm0 19 rfl)
theorem wq_22_20 : Cond.selects RX10 yX10_note yX10_note ∈ wsL_law := ck_22 _ (mm0 20 rfl)
theorem wq_22_21 : Cond.code yX10_note cX10_note 5 (some .boolean) ∈ wsL_law := ck_22 _ (mm0 21 rfl)
theorem wq_22_22 : Cond.methodLink RX10 179 yX10_codeOf ∈ wsL_law := ck_22 _ (mm0 22 rfl)
theorem wq_22_23 : Cond.static yX10_codeOf ∈ wsL_law := ck_22 _ (mm0 23 rfl)
theorem wq_23_0 : Cond.code yX10_codeOf cX10_codeOf 3 (some .int) ∈ wsL_law := ck_23 _ (mm0 0 rfl)
theorem wq_23_1 : Cond.methodLink RX10 175 yX10_put2 ∈ wsL_law := ck_23 _ (mm0 1 rfl)
theorem wq_23_2 : Cond.instanceMethod yX10_put2 ∈ wsL_law := ck_23 _ (mm0 2 rfl)
theorem wq_23_3 : Cond.selects RX10 yX10_put2 yX10_put2 ∈ wsL_law := ck_23 _ (mm0 3 rfl)
theorem wq_23_4 : Cond.code yX10_put2 cX10_put2 10 (some .int) ∈ wsL_law := ck_23 _ (mm0 4 rfl)
theorem wq_23_5 : Cond.methodLink RX10 169 yX10_digit ∈ wsL_law := ck_23 _ (mm0 5 rfl)
theorem wq_23_6 : Cond.instanceMethod yX10_digit ∈ wsL_law := ck_23 _ (mm0 6 rfl)
theorem wq_23_7 : Cond.selects RX10 yX10_digit yX10_digit ∈ wsL_law := ck_23 _ (mm0 7 rfl)
theorem wq_23_8 : Cond.code yX10_digit cX10_digit 4 (some .int) ∈ wsL_law := ck_23 _ (mm0 8 rfl)
theorem wq_23_9 : Cond.methodLink RL 53 yX9_graph ∈ wsL_law := ck_23 _ (mm0 9 rfl)
theorem wq_23_10 : Cond.instanceMethod yX9_graph ∈ wsL_law := ck_23 _ (mm0 10 rfl)
theorem wq_23_11 : Cond.selects RX9 yX9_graph yX9_graph ∈ wsL_law := ck_23 _ (mm0 11 rfl)
theorem wq_23_12 : Cond.code yX9_graph cX9_graph 4 (some .int) ∈ wsL_law := ck_23 _ (mm0 12 rfl)
theorem wq_23_13 : Cond.methodLink RX9 132 yX2_keyInOrder ∈ wsL_law := ck_23 _ (mm0 13 rfl)
theorem wq_23_14 : Cond.instanceMethod yX2_keyInOrder ∈ wsL_law := ck_23 _ (mm0 14 rfl)
theorem wq_23_15 : Cond.selects RX2 yX2_keyInOrder yX2_keyInOrder ∈ wsL_law := ck_23 _ (mm0 15 rfl)
theorem wq_23_16 : Cond.code yX2_keyInOrder cX2_keyInOrder 3 (some .int) ∈ wsL_law := ck_23 _ (mm0 16 rfl)
theorem wq_23_17 : Cond.methodLink RX2 118 arraycopyName ∈ wsL_law := ck_23 _ (mm0 17 rfl)
theorem wq_23_18 : Cond.fieldLink RX2 124 "ShrinkingCalls$Closure" "GAPS" "[I" ∈ wsL_law := ck_23 _ (mm0 18 rfl)
theorem wq_23_19 : Cond.methodLink RX2 127 yX2_sortByGap ∈ wsL_law := ck_23 _ (mm0 19 rfl)
theorem wq_23_20 : Cond.instanceMethod yX2_sortByGap ∈ wsL_law := ck_23 _ (mm0 20 rfl)
theorem wq_23_21 : Cond.selects RX2 yX2_sortByGap yX2_sortByGap ∈ wsL_law := ck_23 _ (mm0 21 rfl)
theorem wq_23_22 : Cond.code yX2_sortByGap cX2_sortByGap 5 none ∈ wsL_law := ck_23 _ (mm0 22 rfl)
theorem wq_23_23 : Cond.methodLink RX9 135 yX3_from ∈ wsL_law := ck_23 _ (mm0 23 rfl)
theorem wq_24_0 : Cond.methodLink RX9 139 yX3_to ∈ wsL_law := ck_24 _ (mm0 0 rfl)
theorem wq_24_1 : Cond.methodLink RX9 141 yX3_arcs ∈ wsL_law := ck_24 _ (mm0 1 rfl)
theorem wq_24_2 : Cond.static yX3_arcs ∈ wsL_law := ck_24 _ (mm0 2 rfl)
theorem wq_24_3 : Cond.code yX3_arcs cX3_arcs 1 (some .int) ∈ wsL_law := ck_24 _ (mm0 3 rfl)
theorem wq_24_4 : Cond.methodLink RX9 143 yX3_isRound ∈ wsL_law := ck_24 _ (mm0 4 rfl)
theorem wq_24_5 : Cond.static yX3_isRound ∈ wsL_law := ck_24 _ (mm0 5 rfl)
theorem wq_24_6 : Cond.code yX3_isRound cX3_isRound 2 (some .boolean) ∈ wsL_law := ck_24 _ (mm0 6 rfl)
theorem wq_24_7 : Cond.methodLink RX9 146 yX3_isBad ∈ wsL_law := ck_24 _ (mm0 7 rfl)
theorem wq_24_8 : Cond.methodLink RL 56 yX10_graph ∈ wsL_law := ck_24 _ (mm0 8 rfl)
theorem wq_24_9 : Cond.instanceMethod yX10_graph ∈ wsL_law := ck_24 _ (mm0 9 rfl)
theorem wq_24_10 : Cond.selects RX10 yX10_graph yX10_graph ∈ wsL_law := ck_24 _ (mm0 10 rfl)
theorem wq_24_11 : Cond.code yX10_graph cX10_graph 6 (some .int) ∈ wsL_law := ck_24 _ (mm0 11 rfl)
theorem wq_24_12 : Cond.constantLong RX10 205 (4) ∈ wsL_law := ck_24 _ (mm0 12 rfl)
theorem wq_24_13 : Cond.methodLink RX10 207 yX10_orderOf ∈ wsL_law := ck_24 _ (mm0 13 rfl)
theorem wq_24_14 : Cond.instanceMethod yX10_orderOf ∈ wsL_law := ck_24 _ (mm0 14 rfl)
theorem wq_24_15 : Cond.selects RX10 yX10_orderOf yX10_orderOf ∈ wsL_law := ck_24 _ (mm0 15 rfl)
theorem wq_24_16 : Cond.code yX10_orderOf cX10_orderOf 2 (some .int) ∈ wsL_law := ck_24 _ (mm0 16 rfl)
theorem wq_24_17 : Cond.methodLink RX10 196 yX10_isRound ∈ wsL_law := ck_24 _ (mm0 17 rfl)
theorem wq_24_18 : Cond.instanceMethod yX10_isRound ∈ wsL_law := ck_24 _ (mm0 18 rfl)
theorem wq_24_19 : Cond.selects RX10 yX10_isRound yX10_isRound ∈ wsL_law := ck_24 _ (mm0 19 rfl)
theorem wq_24_20 : Cond.code yX10_isRound cX10_isRound 2 (some .boolean) ∈ wsL_law := ck_24 _ (mm0 20 rfl)
theorem wq_24_21 : Cond.methodLink RX10 199 yX10_isBad ∈ wsL_law := ck_24 _ (mm0 21 rfl)
theorem wq_24_22 : Cond.instanceMethod yX10_isBad ∈ wsL_law := ck_24 _ (mm0 22 rfl)
theorem wq_24_23 : Cond.selects RX10 yX10_isBad yX10_isBad ∈ wsL_law := ck_24 _ (mm0 23 rfl)
theorem wq_25_0 : Cond.code yX10_isBad cX10_isBad 4 (some .boolean) ∈ wsL_law := ck_25 _ (mm0 0 rfl)
theorem wq_25_1 : Cond.methodLink RL 57 yX9_together ∈ wsL_law := ck_25 _ (mm0 1 rfl)
theorem wq_25_2 : Cond.instanceMethod yX9_together ∈ wsL_law := ck_25 _ (mm0 2 rfl)
theorem wq_25_3 : Cond.selects RX9 yX9_together yX9_together ∈ wsL_law := ck_25 _ (mm0 3 rfl)
theorem wq_25_4 : Cond.code yX9_together cX9_together 3 (some .int) ∈ wsL_law := ck_25 _ (mm0 4 rfl)
theorem wq_25_5 : Cond.methodLink RX9 149 yX0_isNumber ∈ wsL_law := ck_25 _ (mm0 5 rfl)
theorem wq_25_6 : Cond.static yX0_isNumber ∈ wsL_law := ck_25 _ (mm0 6 rfl)
theorem wq_25_7 : Cond.code yX0_isNumber cX0_isNumber 1 (some .boolean) ∈ wsL_law := ck_25 _ (mm0 7 rfl)
theorem wq_25_8 : Cond.methodLink RX9 152 yX0_fromNumber ∈ wsL_law := ck_25 _ (mm0 8 rfl)
theorem wq_25_9 : Cond.static yX0_fromNumber ∈ wsL_law := ck_25 _ (mm0 9 rfl)
theorem wq_25_10 : Cond.code yX0_fromNumber cX0_fromNumber 4 (some .int) ∈ wsL_law := ck_25 _ (mm0 10 rfl)
theorem wq_25_11 : Cond.methodLink RX9 155 yX0_join ∈ wsL_law := ck_25 _ (mm0 11 rfl)
theorem wq_25_12 : Cond.methodLink RL 60 yX10_together ∈ wsL_law := ck_25 _ (mm0 12 rfl)
theorem wq_25_13 : Cond.instanceMethod yX10_together ∈ wsL_law := ck_25 _ (mm0 13 rfl)
theorem wq_25_14 : Cond.selects RX10 yX10_together yX10_together ∈ wsL_law := ck_25 _ (mm0 14 rfl)
theorem wq_25_15 : Cond.code yX10_together cX10_together 3 (some .int) ∈ wsL_law := ck_25 _ (mm0 15 rfl)
theorem wq_25_16 : Cond.constantLong RX10 173 (19682) ∈ wsL_law := ck_25 _ (mm0 16 rfl)
theorem wq_25_17 : Cond.methodLink RL 61 yX9_ends ∈ wsL_law := ck_25 _ (mm0 17 rfl)
theorem wq_25_18 : Cond.instanceMethod yX9_ends ∈ wsL_law := ck_25 _ (mm0 18 rfl)
theorem wq_25_19 : Cond.selects RX9 yX9_ends yX9_ends ∈ wsL_law := ck_25 _ (mm0 19 rfl)
theorem wq_25_20 : Cond.code yX9_ends cX9_ends 3 (some .int) ∈ wsL_law := ck_25 _ (mm0 20 rfl)
theorem wq_25_21 : Cond.fieldLink RX9 159 "ShrinkingCalls$Closure" "badActs" "I" ∈ wsL_law := ck_25 _ (mm0 21 rfl)
theorem wq_25_22 : Cond.methodLink RL 64 yX10_ends ∈ wsL_law := ck_25 _ (mm0 22 rfl)
theorem wq_25_23 : Cond.instanceMethod yX10_ends ∈ wsL_law := ck_25 _ (mm0 23 rfl)
theorem wq_26_0 : Cond.selects RX10 yX10_ends yX10_ends ∈ wsL_law := ck_26 _ (mm0 0 rfl)
theorem wq_26_1 : Cond.code yX10_ends cX10_ends 2 (some .int) ∈ wsL_law := ck_26 _ (mm0 1 rfl)
theorem wq_26_2 : Cond.constantLong RX10 210 (-1) ∈ wsL_law := ck_26 _ (mm0 2 rfl)
theorem wq_26_3 : Cond.methodLink RX10 212 yX10_noneBad ∈ wsL_law := ck_26 _ (mm0 3 rfl)
theorem wq_26_4 : Cond.instanceMethod yX10_noneBad ∈ wsL_law := ck_26 _ (mm0 4 rfl)
theorem wq_26_5 : Cond.selects RX10 yX10_noneBad yX10_noneBad ∈ wsL_law := ck_26 _ (mm0 5 rfl)
theorem wq_26_6 : Cond.code yX10_noneBad cX10_noneBad 4 (some .boolean) ∈ wsL_law := ck_26 _ (mm0 6 rfl)
theorem wq_26_7 : Cond.methodLink RL 65 yX9_shortest ∈ wsL_law := ck_26 _ (mm0 7 rfl)
theorem wq_26_8 : Cond.instanceMethod yX9_shortest ∈ wsL_law := ck_26 _ (mm0 8 rfl)
theorem wq_26_9 : Cond.selects RX9 yX9_shortest yX9_shortest ∈ wsL_law := ck_26 _ (mm0 9 rfl)
theorem wq_26_10 : Cond.code yX9_shortest cX9_shortest 3 (some .int) ∈ wsL_law := ck_26 _ (mm0 10 rfl)
theorem wq_26_11 : Cond.fieldLink RX9 162 "ShrinkingCalls$Closure" "firstBad" "I" ∈ wsL_law := ck_26 _ (mm0 11 rfl)
theorem wq_26_12 : Cond.methodLink RX9 165 yX2_wayLength ∈ wsL_law := ck_26 _ (mm0 12 rfl)
theorem wq_26_13 : Cond.instanceMethod yX2_wayLength ∈ wsL_law := ck_26 _ (mm0 13 rfl)
theorem wq_26_14 : Cond.selects RX2 yX2_wayLength yX2_wayLength ∈ wsL_law := ck_26 _ (mm0 14 rfl)
theorem wq_26_15 : Cond.code yX2_wayLength cX2_wayLength 4 (some .int) ∈ wsL_law := ck_26 _ (mm0 15 rfl)
theorem wq_26_16 : Cond.methodLink RX9 168 yX2_callOnWay ∈ wsL_law := ck_26 _ (mm0 16 rfl)
theorem wq_26_17 : Cond.instanceMethod yX2_callOnWay ∈ wsL_law := ck_26 _ (mm0 17 rfl)
theorem wq_26_18 : Cond.selects RX2 yX2_callOnWay yX2_callOnWay ∈ wsL_law := ck_26 _ (mm0 18 rfl)
theorem wq_26_19 : Cond.code yX2_callOnWay cX2_callOnWay 5 (some .int) ∈ wsL_law := ck_26 _ (mm0 19 rfl)
theorem wq_26_20 : Cond.methodLink RX2 115 yX2_wayLength ∈ wsL_law := ck_26 _ (mm0 20 rfl)
theorem wq_26_21 : Cond.methodLink RL 68 yX10_shortest ∈ wsL_law := ck_26 _ (mm0 21 rfl)
theorem wq_26_22 : Cond.instanceMethod yX10_shortest ∈ wsL_law := ck_26 _ (mm0 22 rfl)
theorem wq_26_23 : Cond.selects RX10 yX10_shortest yX10_shortest ∈ wsL_law := ck_26 _ (mm0 23 rfl)
theorem wq_27_0 : Cond.code yX10_shortest cX10_shortest 3 (some .int) ∈ wsL_law := ck_27 _ (mm0 0 rfl)
theorem wq_27_1 : Cond.fieldLink RX10 215 "ShrinkingCallsModel" "bestWord" "I" ∈ wsL_law := ck_27 _ (mm0 1 rfl)
theorem wq_27_2 : Cond.methodLink RX10 218 yX10_layShortest ∈ wsL_law := ck_27 _ (mm0 2 rfl)
theorem wq_27_3 : Cond.instanceMethod yX10_layShortest ∈ wsL_law := ck_27 _ (mm0 3 rfl)
theorem wq_27_4 : Cond.selects RX10 yX10_layShortest yX10_layShortest ∈ wsL_law := ck_27 _ (mm0 4 rfl)
theorem wq_27_5 : Cond.code yX10_layShortest cX10_layShortest 6 (some .int) ∈ wsL_law := ck_27 _ (mm0 5 rfl)
theorem wq_27_6 : Cond.methodLink RL 69 yX9_go ∈ wsL_law := ck_27 _ (mm0 6 rfl)
theorem wq_27_7 : Cond.instanceMethod yX9_go ∈ wsL_law := ck_27 _ (mm0 7 rfl)
theorem wq_27_8 : Cond.selects RX9 yX9_go yX9_go ∈ wsL_law := ck_27 _ (mm0 8 rfl)
theorem wq_27_9 : Cond.code yX9_go cX9_go 2 (some .int) ∈ wsL_law := ck_27 _ (mm0 9 rfl)
theorem wq_27_10 : Cond.fieldLink RX9 177 "ShrinkingCalls$RoundTrip" "size" "I" ∈ wsL_law := ck_27 _ (mm0 10 rfl)
theorem wq_27_11 : Cond.methodLink RX9 171 yX5_goesOnBy ∈ wsL_law := ck_27 _ (mm0 11 rfl)
theorem wq_27_12 : Cond.instanceMethod yX5_goesOnBy ∈ wsL_law := ck_27 _ (mm0 12 rfl)
theorem wq_27_13 : Cond.selects RX5 yX5_goesOnBy yX5_goesOnBy ∈ wsL_law := ck_27 _ (mm0 13 rfl)
theorem wq_27_14 : Cond.code yX5_goesOnBy cX5_goesOnBy 3 (some .boolean) ∈ wsL_law := ck_27 _ (mm0 14 rfl)
theorem wq_27_15 : Cond.fieldLink RX5 17 "ShrinkingCalls$Book" "to" "[I" ∈ wsL_law := ck_27 _ (mm0 15 rfl)
theorem wq_27_16 : Cond.fieldLink RX5 22 "ShrinkingCalls$Book" "from" "[I" ∈ wsL_law := ck_27 _ (mm0 16 rfl)
theorem wq_27_17 : Cond.methodLink RX9 175 yX5_take ∈ wsL_law := ck_27 _ (mm0 17 rfl)
theorem wq_27_18 : Cond.instanceMethod yX5_take ∈ wsL_law := ck_27 _ (mm0 18 rfl)
theorem wq_27_19 : Cond.selects RX5 yX5_take yX5_take ∈ wsL_law := ck_27 _ (mm0 19 rfl)
theorem wq_27_20 : Cond.code yX5_take cX5_take 2 (some .boolean) ∈ wsL_law := ck_27 _ (mm0 20 rfl)
theorem wq_27_21 : Cond.methodLink RL 72 yX10_go ∈ wsL_law := ck_27 _ (mm0 21 rfl)
theorem wq_27_22 : Cond.instanceMethod yX10_go ∈ wsL_law := ck_27 _ (mm0 22 rfl)
theorem wq_27_23 : Cond.selects RX10 yX10_go yX10_go ∈ wsL_law := ck_27 _ (mm0 23 rfl)
theorem wq_28_0 : Cond.code yX10_go cX10_go 2 (some .int) ∈ wsL_law := ck_28 _ (mm0 0 rfl)
theorem wq_28_1 : Cond.methodLink RL 73 yX9_anew ∈ wsL_law := ck_28 _ (mm0 1 rfl)
theorem wq_28_2 : Cond.instanceMethod yX9_anew ∈ wsL_law := ck_28 _ (mm0 2 rfl)
theorem wq_28_3 : Cond.selects RX9 yX9_anew yX9_anew ∈ wsL_law := ck_28 _ (mm0 3 rfl)
theorem wq_28_4 : Cond.code yX9_anew cX9_anew 1 (some .int) ∈ wsL_law := ck_28 _ (mm0 4 rfl)
theorem wq_28_5 : Cond.methodLink RL 76 yX10_anew ∈ wsL_law := ck_28 _ (mm0 5 rfl)
theorem wq_28_6 : Cond.instanceMethod yX10_anew ∈ wsL_law := ck_28 _ (mm0 6 rfl)
theorem wq_28_7 : Cond.selects RX10 yX10_anew yX10_anew ∈ wsL_law := ck_28 _ (mm0 7 rfl)
theorem wq_28_8 : Cond.code yX10_anew cX10_anew 2 (some .int) ∈ wsL_law := ck_28 _ (mm0 8 rfl)
theorem wq_28_9 : Cond.methodLink RL 77 yX9_trip ∈ wsL_law := ck_28 _ (mm0 9 rfl)
theorem wq_28_10 : Cond.instanceMethod yX9_trip ∈ wsL_law := ck_28 _ (mm0 10 rfl)
theorem wq_28_11 : Cond.selects RX9 yX9_trip yX9_trip ∈ wsL_law := ck_28 _ (mm0 11 rfl)
theorem wq_28_12 : Cond.code yX9_trip cX9_trip 3 (some .int) ∈ wsL_law := ck_28 _ (mm0 12 rfl)
theorem wq_28_13 : Cond.methodLink RX9 178 yX5_comesBack ∈ wsL_law := ck_28 _ (mm0 13 rfl)
theorem wq_28_14 : Cond.instanceMethod yX5_comesBack ∈ wsL_law := ck_28 _ (mm0 14 rfl)
theorem wq_28_15 : Cond.selects RX5 yX5_comesBack yX5_comesBack ∈ wsL_law := ck_28 _ (mm0 15 rfl)
theorem wq_28_16 : Cond.code yX5_comesBack cX5_comesBack 2 (some .boolean) ∈ wsL_law := ck_28 _ (mm0 16 rfl)
theorem wq_28_17 : Cond.methodLink RX9 182 yX5_arcsOfAll ∈ wsL_law := ck_28 _ (mm0 17 rfl)
theorem wq_28_18 : Cond.instanceMethod yX5_arcsOfAll ∈ wsL_law := ck_28 _ (mm0 18 rfl)
theorem wq_28_19 : Cond.selects RX5 yX5_arcsOfAll yX5_arcsOfAll ∈ wsL_law := ck_28 _ (mm0 19 rfl)
theorem wq_28_20 : Cond.code yX5_arcsOfAll cX5_arcsOfAll 4 (some .int) ∈ wsL_law := ck_28 _ (mm0 20 rfl)
theorem wq_28_21 : Cond.fieldLink RX5 25 "ShrinkingCalls$Book" "arcs" "[I" ∈ wsL_law := ck_28 _ (mm0 21 rfl)
theorem wq_28_22 : Cond.methodLink RX5 28 yX0_join ∈ wsL_law := ck_28 _ (mm0 22 rfl)
theorem wq_28_23 : Cond.methodLink RX9 185 yX0_threads ∈ wsL_law := ck_28 _ (mm0 23 rfl)
theorem wq_29_0 : Cond.static yX0_threads ∈ wsL_law := ck_29 _ (mm0 0 rfl)
theorem wq_29_1 : Cond.code yX0_threads cX0_threads 5 (some .int) ∈ wsL_law := ck_29 _ (mm0 1 rfl)
theorem wq_29_2 : Cond.methodLink RX0 23 yX0_leadsTo ∈ wsL_law := ck_29 _ (mm0 2 rfl)
theorem wq_29_3 : Cond.static yX0_leadsTo ∈ wsL_law := ck_29 _ (mm0 3 rfl)
theorem wq_29_4 : Cond.code yX0_leadsTo cX0_leadsTo 4 (some .boolean) ∈ wsL_law := ck_29 _ (mm0 4 rfl)
theorem wq_29_5 : Cond.methodLink RX0 19 yX0_at ∈ wsL_law := ck_29 _ (mm0 5 rfl)
theorem wq_29_6 : Cond.methodLink RX9 188 yX0_falls ∈ wsL_law := ck_29 _ (mm0 6 rfl)
theorem wq_29_7 : Cond.static yX0_falls ∈ wsL_law := ck_29 _ (mm0 7 rfl)
theorem wq_29_8 : Cond.code yX0_falls cX0_falls 2 (some .boolean) ∈ wsL_law := ck_29 _ (mm0 8 rfl)
theorem wq_29_9 : Cond.methodLink RX0 27 yX0_join ∈ wsL_law := ck_29 _ (mm0 9 rfl)
theorem wq_29_10 : Cond.methodLink RX0 30 yX0_hasLessToItself ∈ wsL_law := ck_29 _ (mm0 10 rfl)
theorem wq_29_11 : Cond.methodLink RL 80 yX10_trip ∈ wsL_law := ck_29 _ (mm0 11 rfl)
theorem wq_29_12 : Cond.instanceMethod yX10_trip ∈ wsL_law := ck_29 _ (mm0 12 rfl)
theorem wq_29_13 : Cond.selects RX10 yX10_trip yX10_trip ∈ wsL_law := ck_29 _ (mm0 13 rfl)
theorem wq_29_14 : Cond.code yX10_trip cX10_trip 4 (some .int) ∈ wsL_law := ck_29 _ (mm0 14 rfl)
theorem wq_29_15 : Cond.methodLink RX10 221 yX10_threadsOf ∈ wsL_law := ck_29 _ (mm0 15 rfl)
theorem wq_29_16 : Cond.instanceMethod yX10_threadsOf ∈ wsL_law := ck_29 _ (mm0 16 rfl)
theorem wq_29_17 : Cond.selects RX10 yX10_threadsOf yX10_threadsOf ∈ wsL_law := ck_29 _ (mm0 17 rfl)
theorem wq_29_18 : Cond.code yX10_threadsOf cX10_threadsOf 8 (some .int) ∈ wsL_law := ck_29 _ (mm0 18 rfl)
theorem wq_29_19 : Cond.methodLink RX10 224 yX10_falls ∈ wsL_law := ck_29 _ (mm0 19 rfl)
theorem wq_29_20 : Cond.instanceMethod yX10_falls ∈ wsL_law := ck_29 _ (mm0 20 rfl)
theorem wq_29_21 : Cond.selects RX10 yX10_falls yX10_falls ∈ wsL_law := ck_29 _ (mm0 21 rfl)
theorem wq_29_22 : Cond.code yX10_falls cX10_falls 6 (some .boolean) ∈ wsL_law := ck_29 _ (mm0 22 rfl)
theorem wq_29_23 : Cond.methodLink RL 81 yX9_slow ∈ wsL_law := ck_29 _ (mm0 23 rfl)
theorem wq_30_0 : Cond.instanceMethod yX9_slow ∈ wsL_law := ck_30 _ (mm0 0 rfl)
theorem wq_30_1 : Cond.selects RX9 yX9_slow yX9_slow ∈ wsL_law := ck_30 _ (mm0 1 rfl)
theorem wq_30_2 : Cond.code yX9_slow cX9_slow 3 (some .int) ∈ wsL_law := ck_30 _ (mm0 2 rfl)
theorem wq_30_3 : Cond.fieldLink RX9 191 "ShrinkingCalls" "ORDERS" "[I" ∈ wsL_law := ck_30 _ (mm0 3 rfl)
theorem wq_30_4 : Cond.methodLink RX9 194 yX9_isOrderOf ∈ wsL_law := ck_30 _ (mm0 4 rfl)
theorem wq_30_5 : Cond.static yX9_isOrderOf ∈ wsL_law := ck_30 _ (mm0 5 rfl)
theorem wq_30_6 : Cond.code yX9_isOrderOf cX9_isOrderOf 3 (some .boolean) ∈ wsL_law := ck_30 _ (mm0 6 rfl)
theorem wq_30_7 : Cond.methodLink RX9 198 yX2_fallsBy ∈ wsL_law := ck_30 _ (mm0 7 rfl)
theorem wq_30_8 : Cond.instanceMethod yX2_fallsBy ∈ wsL_law := ck_30 _ (mm0 8 rfl)
theorem wq_30_9 : Cond.selects RX2 yX2_fallsBy yX2_fallsBy ∈ wsL_law := ck_30 _ (mm0 9 rfl)
theorem wq_30_10 : Cond.code yX2_fallsBy cX2_fallsBy 5 (some .boolean) ∈ wsL_law := ck_30 _ (mm0 10 rfl)
theorem wq_30_11 : Cond.methodLink RX2 130 yX3_arcs ∈ wsL_law := ck_30 _ (mm0 11 rfl)
theorem wq_30_12 : Cond.methodLink RX2 132 yX2_fallsByOrder ∈ wsL_law := ck_30 _ (mm0 12 rfl)
theorem wq_30_13 : Cond.static yX2_fallsByOrder ∈ wsL_law := ck_30 _ (mm0 13 rfl)
theorem wq_30_14 : Cond.code yX2_fallsByOrder cX2_fallsByOrder 5 (some .boolean) ∈ wsL_law := ck_30 _ (mm0 14 rfl)
theorem wq_30_15 : Cond.methodLink RX2 136 yX0_at ∈ wsL_law := ck_30 _ (mm0 15 rfl)
theorem wq_30_16 : Cond.methodLink RL 84 yX10_slow ∈ wsL_law := ck_30 _ (mm0 16 rfl)
theorem wq_30_17 : Cond.instanceMethod yX10_slow ∈ wsL_law := ck_30 _ (mm0 17 rfl)
theorem wq_30_18 : Cond.selects RX10 yX10_slow yX10_slow ∈ wsL_law := ck_30 _ (mm0 18 rfl)
theorem wq_30_19 : Cond.code yX10_slow cX10_slow 9 (some .int) ∈ wsL_law := ck_30 _ (mm0 19 rfl)
theorem wq_30_20 : Cond.methodLink RX10 230 yX10_isSlow ∈ wsL_law := ck_30 _ (mm0 20 rfl)
theorem wq_30_21 : Cond.instanceMethod yX10_isSlow ∈ wsL_law := ck_30 _ (mm0 21 rfl)
theorem wq_30_22 : Cond.selects RX10 yX10_isSlow yX10_isSlow ∈ wsL_law := ck_30 _ (mm0 22 rfl)
theorem wq_30_23 : Cond.code yX10_isSlow cX10_isSlow 5 (some .boolean) ∈ wsL_law := ck_30 _ (mm0 23 rfl)
theorem wq_31_0 : Cond.methodLink RX10 227 yX10_fallsBy ∈ wsL_law := ck_31 _ (mm0 0 rfl)
theorem wq_31_1 : Cond.instanceMethod yX10_fallsBy ∈ wsL_law := ck_31 _ (mm0 1 rfl)
theorem wq_31_2 : Cond.selects RX10 yX10_fallsBy yX10_fallsBy ∈ wsL_law := ck_31 _ (mm0 2 rfl)
theorem wq_31_3 : Cond.code yX10_fallsBy cX10_fallsBy 5 (some .boolean) ∈ wsL_law := ck_31 _ (mm0 3 rfl)
theorem wq_31_4 : Cond.methodLink RL 85 yX9_mended ∈ wsL_law := ck_31 _ (mm0 4 rfl)
theorem wq_31_5 : Cond.instanceMethod yX9_mended ∈ wsL_law := ck_31 _ (mm0 5 rfl)
theorem wq_31_6 : Cond.selects RX9 yX9_mended yX9_mended ∈ wsL_law := ck_31 _ (mm0 6 rfl)
theorem wq_31_7 : Cond.code yX9_mended cX9_mended 3 (some .int) ∈ wsL_law := ck_31 _ (mm0 7 rfl)
theorem wq_31_8 : Cond.methodLink RX9 201 yX4_leastSet ∈ wsL_law := ck_31 _ (mm0 8 rfl)
theorem wq_31_9 : Cond.instanceMethod yX4_leastSet ∈ wsL_law := ck_31 _ (mm0 9 rfl)
theorem wq_31_10 : Cond.selects RX4 yX4_leastSet yX4_leastSet ∈ wsL_law := ck_31 _ (mm0 10 rfl)
theorem wq_31_11 : Cond.code yX4_leastSet cX4_leastSet 5 (some .int) ∈ wsL_law := ck_31 _ (mm0 11 rfl)
theorem wq_31_12 : Cond.fieldLink RX4 35 "ShrinkingCalls$Mending" "badWaysSize" "I" ∈ wsL_law := ck_31 _ (mm0 12 rfl)
theorem wq_31_13 : Cond.fieldLink RX4 38 "ShrinkingCalls$Book" "size" "I" ∈ wsL_law := ck_31 _ (mm0 13 rfl)
theorem wq_31_14 : Cond.methodLink RX4 43 yJ6_bitCount_0f7a4 ∈ wsL_law := ck_31 _ (mm0 14 rfl)
theorem wq_31_15 : Cond.static yJ6_bitCount_0f7a4 ∈ wsL_law := ck_31 _ (mm0 15 rfl)
theorem wq_31_16 : Cond.initialized RJ6 ∈ wsL_law := ck_31 _ (mm0 16 rfl)
theorem wq_31_17 : Cond.code yJ6_bitCount_0f7a4 cJ6_bitCount_0f7a4 1 (some .int) ∈ wsL_law := ck_31 _ (mm0 17 rfl)
theorem wq_31_18 : Cond.constant RJ6 265 (1431655765) ∈ wsL_law := ck_31 _ (mm0 18 rfl)
theorem wq_31_19 : Cond.constant RJ6 266 (858993459) ∈ wsL_law := ck_31 _ (mm0 19 rfl)
theorem wq_31_20 : Cond.constant RJ6 267 (252645135) ∈ wsL_law := ck_31 _ (mm0 20 rfl)
theorem wq_31_21 : Cond.methodLink RX4 49 yX4_mends ∈ wsL_law := ck_31 _ (mm0 21 rfl)
theorem wq_31_22 : Cond.instanceMethod yX4_mends ∈ wsL_law := ck_31 _ (mm0 22 rfl)
theorem wq_31_23 : Cond.selects RX4 yX4_mends yX4_mends ∈ wsL_law := ck_31 _ (mm0 23 rfl)
theorem wq_32_0 : Cond.code yX4_mends cX4_mends 4 (some .boolean) ∈ wsL_law := ck_32 _ (mm0 0 rfl)
theorem wq_32_1 : Cond.fieldLink RX4 57 "ShrinkingCalls$Closure" "firstBad" "I" ∈ wsL_law := ck_32 _ (mm0 1 rfl)
theorem wq_32_2 : Cond.methodLink RX4 53 yX2_grow ∈ wsL_law := ck_32 _ (mm0 2 rfl)
theorem wq_32_3 : Cond.methodLink RX4 60 yX2_callsOnWay ∈ wsL_law := ck_32 _ (mm0 3 rfl)
theorem wq_32_4 : Cond.instanceMethod yX2_callsOnWay ∈ wsL_law := ck_32 _ (mm0 4 rfl)
theorem wq_32_5 : Cond.selects RX2 yX2_callsOnWay yX2_callsOnWay ∈ wsL_law := ck_32 _ (mm0 5 rfl)
theorem wq_32_6 : Cond.code yX2_callsOnWay cX2_callsOnWay 5 (some .int) ∈ wsL_law := ck_32 _ (mm0 6 rfl)
theorem wq_32_7 : Cond.methodLink RX9 204 yJ6_bitCount_0f7a4 ∈ wsL_law := ck_32 _ (mm0 7 rfl)
theorem wq_32_8 : Cond.methodLink RL 88 yX10_mended ∈ wsL_law := ck_32 _ (mm0 8 rfl)
theorem wq_32_9 : Cond.instanceMethod yX10_mended ∈ wsL_law := ck_32 _ (mm0 9 rfl)
theorem wq_32_10 : Cond.selects RX10 yX10_mended yX10_mended ∈ wsL_law := ck_32 _ (mm0 10 rfl)
theorem wq_32_11 : Cond.code yX10_mended cX10_mended 4 (some .int) ∈ wsL_law := ck_32 _ (mm0 11 rfl)
theorem wq_32_12 : Cond.methodLink RX10 233 yX10_bits ∈ wsL_law := ck_32 _ (mm0 12 rfl)
theorem wq_32_13 : Cond.static yX10_bits ∈ wsL_law := ck_32 _ (mm0 13 rfl)
theorem wq_32_14 : Cond.code yX10_bits cX10_bits 3 (some .int) ∈ wsL_law := ck_32 _ (mm0 14 rfl)
theorem wq_32_15 : Cond.methodLink RL 89 yX9_needed ∈ wsL_law := ck_32 _ (mm0 15 rfl)
theorem wq_32_16 : Cond.instanceMethod yX9_needed ∈ wsL_law := ck_32 _ (mm0 16 rfl)
theorem wq_32_17 : Cond.selects RX9 yX9_needed yX9_needed ∈ wsL_law := ck_32 _ (mm0 17 rfl)
theorem wq_32_18 : Cond.code yX9_needed cX9_needed 2 (some .int) ∈ wsL_law := ck_32 _ (mm0 18 rfl)
theorem wq_32_19 : Cond.fieldLink RX9 212 "ShrinkingCalls$Mending" "neededSize" "I" ∈ wsL_law := ck_32 _ (mm0 19 rfl)
theorem wq_32_20 : Cond.methodLink RX9 209 yX4_findsNeeded ∈ wsL_law := ck_32 _ (mm0 20 rfl)
theorem wq_32_21 : Cond.instanceMethod yX4_findsNeeded ∈ wsL_law := ck_32 _ (mm0 21 rfl)
theorem wq_32_22 : Cond.selects RX4 yX4_findsNeeded yX4_findsNeeded ∈ wsL_law := ck_32 _ (mm0 22 rfl)
theorem wq_32_23 : Cond.code yX4_findsNeeded cX4_findsNeeded 3 (some .boolean) ∈ wsL_law := ck_32 _ (mm0 23 rfl)
theorem wq_33_0 : Cond.fieldLink RX4 63 "ShrinkingCalls$Mending" "neededSize" "I" ∈ wsL_law := ck_33 _ (mm0 0 rfl)
theorem wq_33_1 : Cond.fieldLink RX4 66 "ShrinkingCalls$Mending" "neededFound" "Z" ∈ wsL_law := ck_33 _ (mm0 1 rfl)
theorem wq_33_2 : Cond.methodLink RX4 69 yX4_tryKept ∈ wsL_law := ck_33 _ (mm0 2 rfl)
theorem wq_33_3 : Cond.instanceMethod yX4_tryKept ∈ wsL_law := ck_33 _ (mm0 3 rfl)
theorem wq_33_4 : Cond.selects RX4 yX4_tryKept yX4_tryKept ∈ wsL_law := ck_33 _ (mm0 4 rfl)
theorem wq_33_5 : Cond.code yX4_tryKept cX4_tryKept 7 none ∈ wsL_law := ck_33 _ (mm0 5 rfl)
theorem wq_33_6 : Cond.fieldLink RX4 77 "ShrinkingCalls$Book" "arcs" "[I" ∈ wsL_law := ck_33 _ (mm0 6 rfl)
theorem wq_33_7 : Cond.fieldLink RX4 88 "ShrinkingCalls$Closure" "large" "Z" ∈ wsL_law := ck_33 _ (mm0 7 rfl)
theorem wq_33_8 : Cond.methodLink RX4 73 yX1_hasPair ∈ wsL_law := ck_33 _ (mm0 8 rfl)
theorem wq_33_9 : Cond.methodLink RX4 80 yX0_at ∈ wsL_law := ck_33 _ (mm0 9 rfl)
theorem wq_33_10 : Cond.methodLink RX4 84 yX0_with ∈ wsL_law := ck_33 _ (mm0 10 rfl)
theorem wq_33_11 : Cond.methodLink RX9 215 yX4_neededAt ∈ wsL_law := ck_33 _ (mm0 11 rfl)
theorem wq_33_12 : Cond.instanceMethod yX4_neededAt ∈ wsL_law := ck_33 _ (mm0 12 rfl)
theorem wq_33_13 : Cond.selects RX4 yX4_neededAt yX4_neededAt ∈ wsL_law := ck_33 _ (mm0 13 rfl)
theorem wq_33_14 : Cond.code yX4_neededAt cX4_neededAt 2 (some .int) ∈ wsL_law := ck_33 _ (mm0 14 rfl)
theorem wq_33_15 : Cond.methodLink RL 92 yX10_needed ∈ wsL_law := ck_33 _ (mm0 15 rfl)
theorem wq_33_16 : Cond.instanceMethod yX10_needed ∈ wsL_law := ck_33 _ (mm0 16 rfl)
theorem wq_33_17 : Cond.selects RX10 yX10_needed yX10_needed ∈ wsL_law := ck_33 _ (mm0 17 rfl)
theorem wq_33_18 : Cond.code yX10_needed cX10_needed 6 (some .int) ∈ wsL_law := ck_33 _ (mm0 18 rfl)
theorem wq_33_19 : Cond.methodLink RL 93 yX9_most ∈ wsL_law := ck_33 _ (mm0 19 rfl)
theorem wq_33_20 : Cond.instanceMethod yX9_most ∈ wsL_law := ck_33 _ (mm0 20 rfl)
theorem wq_33_21 : Cond.selects RX9 yX9_most yX9_most ∈ wsL_law := ck_33 _ (mm0 21 rfl)
theorem wq_33_22 : Cond.code yX9_most cX9_most 3 (some .int) ∈ wsL_law := ck_33 _ (mm0 22 rfl)
theorem wq_33_23 : Cond.fieldLink RX9 218 "ShrinkingCalls$Runs" "most" "I" ∈ wsL_law := ck_33 _ (mm0 23 rfl)
theorem wq_34_0 : Cond.methodLink RL 96 yX10_most ∈ wsL_law := ck_34 _ (mm0 0 rfl)
theorem wq_34_1 : Cond.instanceMethod yX10_most ∈ wsL_law := ck_34 _ (mm0 1 rfl)
theorem wq_34_2 : Cond.selects RX10 yX10_most yX10_most ∈ wsL_law := ck_34 _ (mm0 2 rfl)
theorem wq_34_3 : Cond.code yX10_most cX10_most 3 (some .int) ∈ wsL_law := ck_34 _ (mm0 3 rfl)
theorem wq_34_4 : Cond.methodLink RL 97 yX9_longest ∈ wsL_law := ck_34 _ (mm0 4 rfl)
theorem wq_34_5 : Cond.instanceMethod yX9_longest ∈ wsL_law := ck_34 _ (mm0 5 rfl)
theorem wq_34_6 : Cond.selects RX9 yX9_longest yX9_longest ∈ wsL_law := ck_34 _ (mm0 6 rfl)
theorem wq_34_7 : Cond.code yX9_longest cX9_longest 6 (some .int) ∈ wsL_law := ck_34 _ (mm0 7 rfl)
theorem wq_34_8 : Cond.methodLink RX9 221 yX6_stateOf ∈ wsL_law := ck_34 _ (mm0 8 rfl)
theorem wq_34_9 : Cond.instanceMethod yX6_stateOf ∈ wsL_law := ck_34 _ (mm0 9 rfl)
theorem wq_34_10 : Cond.selects RX6 yX6_stateOf yX6_stateOf ∈ wsL_law := ck_34 _ (mm0 10 rfl)
theorem wq_34_11 : Cond.code yX6_stateOf cX6_stateOf 7 (some .int) ∈ wsL_law := ck_34 _ (mm0 11 rfl)
theorem wq_34_12 : Cond.fieldLink RX6 28 "ShrinkingCalls$Book" "placesOf" "[I" ∈ wsL_law := ck_34 _ (mm0 12 rfl)
theorem wq_34_13 : Cond.methodLink RX6 33 yX6_fits ∈ wsL_law := ck_34 _ (mm0 13 rfl)
theorem wq_34_14 : Cond.instanceMethod yX6_fits ∈ wsL_law := ck_34 _ (mm0 14 rfl)
theorem wq_34_15 : Cond.selects RX6 yX6_fits yX6_fits ∈ wsL_law := ck_34 _ (mm0 15 rfl)
theorem wq_34_16 : Cond.code yX6_fits cX6_fits 3 (some .boolean) ∈ wsL_law := ck_34 _ (mm0 16 rfl)
theorem wq_34_17 : Cond.methodLink RX9 225 yX6_longestFrom ∈ wsL_law := ck_34 _ (mm0 17 rfl)
theorem wq_34_18 : Cond.instanceMethod yX6_longestFrom ∈ wsL_law := ck_34 _ (mm0 18 rfl)
theorem wq_34_19 : Cond.selects RX6 yX6_longestFrom yX6_longestFrom ∈ wsL_law := ck_34 _ (mm0 19 rfl)
theorem wq_34_20 : Cond.code yX6_longestFrom cX6_longestFrom 6 (some .int) ∈ wsL_law := ck_34 _ (mm0 20 rfl)
theorem wq_34_21 : Cond.fieldLink RX6 64 "ShrinkingCalls$Runs" "depth" "I" ∈ wsL_law := ck_34 _ (mm0 21 rfl)
theorem wq_34_22 : Cond.fieldLink RX6 78 "ShrinkingCalls$Book" "from" "[I" ∈ wsL_law := ck_34 _ (mm0 22 rfl)
theorem wq_34_23 : Cond.methodLink RX6 58 yJ7_fill_53178 ∈ wsL_law := ck_34 _ (mm0 23 rfl)
theorem wq_35_0 : Cond.methodLink RX6 67 yX6_openState ∈ wsL_law := ck_35 _ (mm0 0 rfl)
theorem wq_35_1 : Cond.instanceMethod yX6_openState ∈ wsL_law := ck_35 _ (mm0 1 rfl)
theorem wq_35_2 : Cond.selects RX6 yX6_openState yX6_openState ∈ wsL_law := ck_35 _ (mm0 2 rfl)
theorem wq_35_3 : Cond.code yX6_openState cX6_openState 2 none ∈ wsL_law := ck_35 _ (mm0 3 rfl)
theorem wq_35_4 : Cond.methodLink RX6 71 yX1_hasCall ∈ wsL_law := ck_35 _ (mm0 4 rfl)
theorem wq_35_5 : Cond.methodLink RX6 75 yX6_closeState ∈ wsL_law := ck_35 _ (mm0 5 rfl)
theorem wq_35_6 : Cond.instanceMethod yX6_closeState ∈ wsL_law := ck_35 _ (mm0 6 rfl)
theorem wq_35_7 : Cond.selects RX6 yX6_closeState yX6_closeState ∈ wsL_law := ck_35 _ (mm0 7 rfl)
theorem wq_35_8 : Cond.code yX6_closeState cX6_closeState 2 none ∈ wsL_law := ck_35 _ (mm0 8 rfl)
theorem wq_35_9 : Cond.methodLink RX6 85 yX6_lengthen ∈ wsL_law := ck_35 _ (mm0 9 rfl)
theorem wq_35_10 : Cond.instanceMethod yX6_lengthen ∈ wsL_law := ck_35 _ (mm0 10 rfl)
theorem wq_35_11 : Cond.selects RX6 yX6_lengthen yX6_lengthen ∈ wsL_law := ck_35 _ (mm0 11 rfl)
theorem wq_35_12 : Cond.code yX6_lengthen cX6_lengthen 3 none ∈ wsL_law := ck_35 _ (mm0 12 rfl)
theorem wq_35_13 : Cond.methodLink RX6 89 Lib.Math.max.name ∈ wsL_law := ck_35 _ (mm0 13 rfl)
theorem wq_35_14 : Cond.methodLink RX6 81 yX6_goesBy ∈ wsL_law := ck_35 _ (mm0 14 rfl)
theorem wq_35_15 : Cond.instanceMethod yX6_goesBy ∈ wsL_law := ck_35 _ (mm0 15 rfl)
theorem wq_35_16 : Cond.selects RX6 yX6_goesBy yX6_goesBy ∈ wsL_law := ck_35 _ (mm0 16 rfl)
theorem wq_35_17 : Cond.code yX6_goesBy cX6_goesBy 5 (some .boolean) ∈ wsL_law := ck_35 _ (mm0 17 rfl)
theorem wq_35_18 : Cond.methodLink RX6 92 yX6_greatestAfter ∈ wsL_law := ck_35 _ (mm0 18 rfl)
theorem wq_35_19 : Cond.instanceMethod yX6_greatestAfter ∈ wsL_law := ck_35 _ (mm0 19 rfl)
theorem wq_35_20 : Cond.selects RX6 yX6_greatestAfter yX6_greatestAfter ∈ wsL_law := ck_35 _ (mm0 20 rfl)
theorem wq_35_21 : Cond.code yX6_greatestAfter cX6_greatestAfter 8 (some .int) ∈ wsL_law := ck_35 _ (mm0 21 rfl)
theorem wq_35_22 : Cond.fieldLink RX6 37 "ShrinkingCalls$Book" "to" "[I" ∈ wsL_law := ck_35 _ (mm0 22 rfl)
theorem wq_35_23 : Cond.fieldLink RX6 40 "ShrinkingCalls$Book" "arcs" "[I" ∈ wsL_law := ck_35 _ (mm0 23 rfl)
theorem wq_36_0 : Cond.methodLink RX6 43 yX6_greatestAt ∈ wsL_law := ck_36 _ (mm0 0 rfl)
theorem wq_36_1 : Cond.instanceMethod yX6_greatestAt ∈ wsL_law := ck_36 _ (mm0 1 rfl)
theorem wq_36_2 : Cond.selects RX6 yX6_greatestAt yX6_greatestAt ∈ wsL_law := ck_36 _ (mm0 2 rfl)
theorem wq_36_3 : Cond.code yX6_greatestAt cX6_greatestAt 8 (some .int) ∈ wsL_law := ck_36 _ (mm0 3 rfl)
theorem wq_36_4 : Cond.methodLink RX6 52 Lib.Math.min.name ∈ wsL_law := ck_36 _ (mm0 4 rfl)
theorem wq_36_5 : Cond.static Lib.Math.min.name ∈ wsL_law := ck_36 _ (mm0 5 rfl)
theorem wq_36_6 : Cond.code Lib.Math.min.name Lib.Math.min.code 2 (some .int) ∈ wsL_law := ck_36 _ (mm0 6 rfl)
theorem wq_36_7 : Cond.methodLink RX6 47 yX0_at ∈ wsL_law := ck_36 _ (mm0 7 rfl)
theorem wq_36_8 : Cond.methodLink RL 100 yX10_longest ∈ wsL_law := ck_36 _ (mm0 8 rfl)
theorem wq_36_9 : Cond.instanceMethod yX10_longest ∈ wsL_law := ck_36 _ (mm0 9 rfl)
theorem wq_36_10 : Cond.selects RX10 yX10_longest yX10_longest ∈ wsL_law := ck_36 _ (mm0 10 rfl)
theorem wq_36_11 : Cond.code yX10_longest cX10_longest 10 (some .int) ∈ wsL_law := ck_36 _ (mm0 11 rfl)
theorem wq_36_12 : Cond.methodLink RX10 245 yX10_stateOf ∈ wsL_law := ck_36 _ (mm0 12 rfl)
theorem wq_36_13 : Cond.instanceMethod yX10_stateOf ∈ wsL_law := ck_36 _ (mm0 13 rfl)
theorem wq_36_14 : Cond.selects RX10 yX10_stateOf yX10_stateOf ∈ wsL_law := ck_36 _ (mm0 14 rfl)
theorem wq_36_15 : Cond.code yX10_stateOf cX10_stateOf 6 (some .int) ∈ wsL_law := ck_36 _ (mm0 15 rfl)
theorem wq_36_16 : Cond.methodLink RX10 242 yX10_isState ∈ wsL_law := ck_36 _ (mm0 16 rfl)
theorem wq_36_17 : Cond.instanceMethod yX10_isState ∈ wsL_law := ck_36 _ (mm0 17 rfl)
theorem wq_36_18 : Cond.selects RX10 yX10_isState yX10_isState ∈ wsL_law := ck_36 _ (mm0 18 rfl)
theorem wq_36_19 : Cond.code yX10_isState cX10_isState 5 (some .boolean) ∈ wsL_law := ck_36 _ (mm0 19 rfl)
theorem wq_36_20 : Cond.methodLink RX10 236 yX10_size ∈ wsL_law := ck_36 _ (mm0 20 rfl)
theorem wq_36_21 : Cond.static yX10_size ∈ wsL_law := ck_36 _ (mm0 21 rfl)
theorem wq_36_22 : Cond.code yX10_size cX10_size 2 (some .int) ∈ wsL_law := ck_36 _ (mm0 22 rfl)
theorem wq_36_23 : Cond.methodLink RX10 249 yX10_goesTo ∈ wsL_law := ck_36 _ (mm0 23 rfl)
theorem wq_37_0 : Cond.instanceMethod yX10_goesTo ∈ wsL_law := ck_37 _ (mm0 0 rfl)
theorem wq_37_1 : Cond.selects RX10 yX10_goesTo yX10_goesTo ∈ wsL_law := ck_37 _ (mm0 1 rfl)
theorem wq_37_2 : Cond.code yX10_goesTo cX10_goesTo 5 (some .boolean) ∈ wsL_law := ck_37 _ (mm0 2 rfl)
theorem wq_37_3 : Cond.methodLink RX10 239 yX10_leads ∈ wsL_law := ck_37 _ (mm0 3 rfl)
theorem wq_37_4 : Cond.instanceMethod yX10_leads ∈ wsL_law := ck_37 _ (mm0 4 rfl)
theorem wq_37_5 : Cond.selects RX10 yX10_leads yX10_leads ∈ wsL_law := ck_37 _ (mm0 5 rfl)
theorem wq_37_6 : Cond.code yX10_leads cX10_leads 8 (some .boolean) ∈ wsL_law := ck_37 _ (mm0 6 rfl)
theorem wq_37_7 : Cond.methodLink RL 101 yX9_next ∈ wsL_law := ck_37 _ (mm0 7 rfl)
theorem wq_37_8 : Cond.instanceMethod yX9_next ∈ wsL_law := ck_37 _ (mm0 8 rfl)
theorem wq_37_9 : Cond.selects RX9 yX9_next yX9_next ∈ wsL_law := ck_37 _ (mm0 9 rfl)
theorem wq_37_10 : Cond.code yX9_next cX9_next 6 (some .int) ∈ wsL_law := ck_37 _ (mm0 10 rfl)
theorem wq_37_11 : Cond.methodLink RX9 229 yX6_statesAfter ∈ wsL_law := ck_37 _ (mm0 11 rfl)
theorem wq_37_12 : Cond.instanceMethod yX6_statesAfter ∈ wsL_law := ck_37 _ (mm0 12 rfl)
theorem wq_37_13 : Cond.selects RX6 yX6_statesAfter yX6_statesAfter ∈ wsL_law := ck_37 _ (mm0 13 rfl)
theorem wq_37_14 : Cond.code yX6_statesAfter cX6_statesAfter 5 (some .int) ∈ wsL_law := ck_37 _ (mm0 14 rfl)
theorem wq_37_15 : Cond.fieldLink RX6 96 "ShrinkingCalls$Book" "size" "I" ∈ wsL_law := ck_37 _ (mm0 15 rfl)
theorem wq_37_16 : Cond.methodLink RX6 99 yX6_markUpTo ∈ wsL_law := ck_37 _ (mm0 16 rfl)
theorem wq_37_17 : Cond.instanceMethod yX6_markUpTo ∈ wsL_law := ck_37 _ (mm0 17 rfl)
theorem wq_37_18 : Cond.selects RX6 yX6_markUpTo yX6_markUpTo ∈ wsL_law := ck_37 _ (mm0 18 rfl)
theorem wq_37_19 : Cond.code yX6_markUpTo cX6_markUpTo 5 (some .int) ∈ wsL_law := ck_37 _ (mm0 19 rfl)
theorem wq_37_20 : Cond.methodLink RX6 103 yX6_isWithin ∈ wsL_law := ck_37 _ (mm0 20 rfl)
theorem wq_37_21 : Cond.static yX6_isWithin ∈ wsL_law := ck_37 _ (mm0 21 rfl)
theorem wq_37_22 : Cond.code yX6_isWithin cX6_isWithin 2 (some .boolean) ∈ wsL_law := ck_37 _ (mm0 22 rfl)
theorem wq_37_23 : Cond.methodLink RL 104 yX10_next ∈ wsL_law := ck_37 _ (mm0 23 rfl)
theorem wq_38_0 : Cond.instanceMethod yX10_next ∈ wsL_law := ck_38 _ (mm0 0 rfl)
theorem wq_38_1 : Cond.selects RX10 yX10_next yX10_next ∈ wsL_law := ck_38 _ (mm0 1 rfl)
theorem wq_38_2 : Cond.code yX10_next cX10_next 8 (some .int) ∈ wsL_law := ck_38 _ (mm0 2 rfl)
theorem wq_38_3 : Cond.methodLink RL 105 yX9_weight ∈ wsL_law := ck_38 _ (mm0 3 rfl)
theorem wq_38_4 : Cond.instanceMethod yX9_weight ∈ wsL_law := ck_38 _ (mm0 4 rfl)
theorem wq_38_5 : Cond.selects RX9 yX9_weight yX9_weight ∈ wsL_law := ck_38 _ (mm0 5 rfl)
theorem wq_38_6 : Cond.code yX9_weight cX9_weight 3 (some .int) ∈ wsL_law := ck_38 _ (mm0 6 rfl)
theorem wq_38_7 : Cond.methodLink RX9 232 yX8_ofCall ∈ wsL_law := ck_38 _ (mm0 7 rfl)
theorem wq_38_8 : Cond.instanceMethod yX8_ofCall ∈ wsL_law := ck_38 _ (mm0 8 rfl)
theorem wq_38_9 : Cond.selects RX8 yX8_ofCall yX8_ofCall ∈ wsL_law := ck_38 _ (mm0 9 rfl)
theorem wq_38_10 : Cond.code yX8_ofCall cX8_ofCall 3 (some .int) ∈ wsL_law := ck_38 _ (mm0 10 rfl)
theorem wq_38_11 : Cond.fieldLink RX8 9 "ShrinkingCalls$Weights" "asked" "J" ∈ wsL_law := ck_38 _ (mm0 11 rfl)
theorem wq_38_12 : Cond.fieldLink RX8 15 "ShrinkingCalls$Book" "arcs" "[I" ∈ wsL_law := ck_38 _ (mm0 12 rfl)
theorem wq_38_13 : Cond.methodLink RX8 21 yX0_howMany ∈ wsL_law := ck_38 _ (mm0 13 rfl)
theorem wq_38_14 : Cond.static yX0_howMany ∈ wsL_law := ck_38 _ (mm0 14 rfl)
theorem wq_38_15 : Cond.code yX0_howMany cX0_howMany 4 (some .int) ∈ wsL_law := ck_38 _ (mm0 15 rfl)
theorem wq_38_16 : Cond.methodLink RX9 235 yX8_ofSelf ∈ wsL_law := ck_38 _ (mm0 16 rfl)
theorem wq_38_17 : Cond.instanceMethod yX8_ofSelf ∈ wsL_law := ck_38 _ (mm0 17 rfl)
theorem wq_38_18 : Cond.selects RX8 yX8_ofSelf yX8_ofSelf ∈ wsL_law := ck_38 _ (mm0 18 rfl)
theorem wq_38_19 : Cond.code yX8_ofSelf cX8_ofSelf 3 (some .int) ∈ wsL_law := ck_38 _ (mm0 19 rfl)
theorem wq_38_20 : Cond.constantLong RX8 27 (10) ∈ wsL_law := ck_38 _ (mm0 20 rfl)
theorem wq_38_21 : Cond.methodLink RX8 29 yX8_ofCall ∈ wsL_law := ck_38 _ (mm0 21 rfl)
theorem wq_38_22 : Cond.methodLink RX9 238 yX8_ofOther ∈ wsL_law := ck_38 _ (mm0 22 rfl)
theorem wq_38_23 : Cond.instanceMethod yX8_ofOther ∈ wsL_law := ck_38 _ (mm0 23 rfl)
theorem wq_39_0 : Cond.selects RX8 yX8_ofOther yX8_ofOther ∈ wsL_law := ck_39 _ (mm0 0 rfl)
theorem wq_39_1 : Cond.code yX8_ofOther cX8_ofOther 3 (some .int) ∈ wsL_law := ck_39 _ (mm0 1 rfl)
theorem wq_39_2 : Cond.constantLong RX8 33 (100) ∈ wsL_law := ck_39 _ (mm0 2 rfl)
theorem wq_39_3 : Cond.methodLink RX9 241 yX8_ofPlain ∈ wsL_law := ck_39 _ (mm0 3 rfl)
theorem wq_39_4 : Cond.instanceMethod yX8_ofPlain ∈ wsL_law := ck_39 _ (mm0 4 rfl)
theorem wq_39_5 : Cond.selects RX8 yX8_ofPlain yX8_ofPlain ∈ wsL_law := ck_39 _ (mm0 5 rfl)
theorem wq_39_6 : Cond.code yX8_ofPlain cX8_ofPlain 3 (some .int) ∈ wsL_law := ck_39 _ (mm0 6 rfl)
theorem wq_39_7 : Cond.constantLong RX8 35 (1000) ∈ wsL_law := ck_39 _ (mm0 7 rfl)
theorem wq_39_8 : Cond.methodLink RX8 37 yX8_ofSelf ∈ wsL_law := ck_39 _ (mm0 8 rfl)
theorem wq_39_9 : Cond.methodLink RX8 40 yX0_howManyToThemselves ∈ wsL_law := ck_39 _ (mm0 9 rfl)
theorem wq_39_10 : Cond.static yX0_howManyToThemselves ∈ wsL_law := ck_39 _ (mm0 10 rfl)
theorem wq_39_11 : Cond.code yX0_howManyToThemselves cX0_howManyToThemselves 3 (some .int) ∈ wsL_law := ck_39 _ (mm0 11 rfl)
theorem wq_39_12 : Cond.methodLink RX9 244 yX8_ofFar ∈ wsL_law := ck_39 _ (mm0 12 rfl)
theorem wq_39_13 : Cond.instanceMethod yX8_ofFar ∈ wsL_law := ck_39 _ (mm0 13 rfl)
theorem wq_39_14 : Cond.selects RX8 yX8_ofFar yX8_ofFar ∈ wsL_law := ck_39 _ (mm0 14 rfl)
theorem wq_39_15 : Cond.code yX8_ofFar cX8_ofFar 3 (some .int) ∈ wsL_law := ck_39 _ (mm0 15 rfl)
theorem wq_39_16 : Cond.constantLong RX8 44 (10000) ∈ wsL_law := ck_39 _ (mm0 16 rfl)
theorem wq_39_17 : Cond.fieldLink RX8 49 "ShrinkingCalls$Book" "placesOf" "[I" ∈ wsL_law := ck_39 _ (mm0 17 rfl)
theorem wq_39_18 : Cond.fieldLink RX8 52 "ShrinkingCalls$Book" "to" "[I" ∈ wsL_law := ck_39 _ (mm0 18 rfl)
theorem wq_39_19 : Cond.methodLink RX8 46 yX8_ofOther ∈ wsL_law := ck_39 _ (mm0 19 rfl)
theorem wq_39_20 : Cond.methodLink RL 108 yX10_weight ∈ wsL_law := ck_39 _ (mm0 20 rfl)
theorem wq_39_21 : Cond.instanceMethod yX10_weight ∈ wsL_law := ck_39 _ (mm0 21 rfl)
theorem wq_39_22 : Cond.selects RX10 yX10_weight yX10_weight ∈ wsL_law := ck_39 _ (mm0 22 rfl)
theorem wq_39_23 : Cond.code yX10_weight cX10_weight 3 (some .int) ∈ wsL_law := ck_39 _ (mm0 23 rfl)
theorem wq_40_0 : Cond.fieldLink RX10 252 "ShrinkingCallsModel" "trace" "J" ∈ wsL_law := ck_40 _ (mm0 0 rfl)
theorem wq_40_1 : Cond.constantLong RX10 272 (1000) ∈ wsL_law := ck_40 _ (mm0 1 rfl)
theorem wq_40_2 : Cond.constantLong RX10 274 (10000) ∈ wsL_law := ck_40 _ (mm0 2 rfl)
theorem wq_40_3 : Cond.methodLink RX10 261 yX10_plainWeight ∈ wsL_law := ck_40 _ (mm0 3 rfl)
theorem wq_40_4 : Cond.instanceMethod yX10_plainWeight ∈ wsL_law := ck_40 _ (mm0 4 rfl)
theorem wq_40_5 : Cond.selects RX10 yX10_plainWeight yX10_plainWeight ∈ wsL_law := ck_40 _ (mm0 5 rfl)
theorem wq_40_6 : Cond.code yX10_plainWeight cX10_plainWeight 2 (some .int) ∈ wsL_law := ck_40 _ (mm0 6 rfl)
theorem wq_40_7 : Cond.methodLink RX10 256 yX10_arcsOf ∈ wsL_law := ck_40 _ (mm0 7 rfl)
theorem wq_40_8 : Cond.instanceMethod yX10_arcsOf ∈ wsL_law := ck_40 _ (mm0 8 rfl)
theorem wq_40_9 : Cond.selects RX10 yX10_arcsOf yX10_arcsOf ∈ wsL_law := ck_40 _ (mm0 9 rfl)
theorem wq_40_10 : Cond.code yX10_arcsOf cX10_arcsOf 5 (some .int) ∈ wsL_law := ck_40 _ (mm0 10 rfl)
theorem wq_40_11 : Cond.methodLink RX10 266 yX10_selfWeight ∈ wsL_law := ck_40 _ (mm0 11 rfl)
theorem wq_40_12 : Cond.instanceMethod yX10_selfWeight ∈ wsL_law := ck_40 _ (mm0 12 rfl)
theorem wq_40_13 : Cond.selects RX10 yX10_selfWeight yX10_selfWeight ∈ wsL_law := ck_40 _ (mm0 13 rfl)
theorem wq_40_14 : Cond.code yX10_selfWeight cX10_selfWeight 2 (some .int) ∈ wsL_law := ck_40 _ (mm0 14 rfl)
theorem wq_40_15 : Cond.constantLong RX10 259 (10) ∈ wsL_law := ck_40 _ (mm0 15 rfl)
theorem wq_40_16 : Cond.methodLink RX10 269 yX10_otherWeight ∈ wsL_law := ck_40 _ (mm0 16 rfl)
theorem wq_40_17 : Cond.instanceMethod yX10_otherWeight ∈ wsL_law := ck_40 _ (mm0 17 rfl)
theorem wq_40_18 : Cond.selects RX10 yX10_otherWeight yX10_otherWeight ∈ wsL_law := ck_40 _ (mm0 18 rfl)
theorem wq_40_19 : Cond.code yX10_otherWeight cX10_otherWeight 2 (some .int) ∈ wsL_law := ck_40 _ (mm0 19 rfl)
theorem wq_40_20 : Cond.constantLong RX10 264 (100) ∈ wsL_law := ck_40 _ (mm0 20 rfl)
theorem wq_40_21 : Cond.methodLink RL 109 yX9_count ∈ wsL_law := ck_40 _ (mm0 21 rfl)
theorem wq_40_22 : Cond.instanceMethod yX9_count ∈ wsL_law := ck_40 _ (mm0 22 rfl)
theorem wq_40_23 : Cond.selects RX9 yX9_count yX9_count ∈ wsL_law := ck_40 _ (mm0 23 rfl)
theorem wq_41_0 : Cond.code yX9_count cX9_count 2 (some .int) ∈ wsL_law := ck_41 _ (mm0 0 rfl)
theorem wq_41_1 : Cond.fieldLink RX9 247 "ShrinkingCalls$Book" "size" "I" ∈ wsL_law := ck_41 _ (mm0 1 rfl)
theorem wq_41_2 : Cond.methodLink RX9 248 yX1_placesOfAll ∈ wsL_law := ck_41 _ (mm0 2 rfl)
theorem wq_41_3 : Cond.instanceMethod yX1_placesOfAll ∈ wsL_law := ck_41 _ (mm0 3 rfl)
theorem wq_41_4 : Cond.selects RX1 yX1_placesOfAll yX1_placesOfAll ∈ wsL_law := ck_41 _ (mm0 4 rfl)
theorem wq_41_5 : Cond.code yX1_placesOfAll cX1_placesOfAll 3 (some .int) ∈ wsL_law := ck_41 _ (mm0 5 rfl)
theorem wq_41_6 : Cond.methodLink RX9 251 yX1_arcsOfAll ∈ wsL_law := ck_41 _ (mm0 6 rfl)
theorem wq_41_7 : Cond.instanceMethod yX1_arcsOfAll ∈ wsL_law := ck_41 _ (mm0 7 rfl)
theorem wq_41_8 : Cond.selects RX1 yX1_arcsOfAll yX1_arcsOfAll ∈ wsL_law := ck_41 _ (mm0 8 rfl)
theorem wq_41_9 : Cond.code yX1_arcsOfAll cX1_arcsOfAll 3 (some .int) ∈ wsL_law := ck_41 _ (mm0 9 rfl)
theorem wq_41_10 : Cond.methodLink RX1 44 yX0_howMany ∈ wsL_law := ck_41 _ (mm0 10 rfl)
theorem wq_41_11 : Cond.methodLink RL 112 yX10_count ∈ wsL_law := ck_41 _ (mm0 11 rfl)
theorem wq_41_12 : Cond.instanceMethod yX10_count ∈ wsL_law := ck_41 _ (mm0 12 rfl)
theorem wq_41_13 : Cond.selects RX10 yX10_count yX10_count ∈ wsL_law := ck_41 _ (mm0 13 rfl)
theorem wq_41_14 : Cond.code yX10_count cX10_count 4 (some .int) ∈ wsL_law := ck_41 _ (mm0 14 rfl)
theorem wq_41_15 : Cond.methodLink RL 113 yX9_trace ∈ wsL_law := ck_41 _ (mm0 15 rfl)
theorem wq_41_16 : Cond.instanceMethod yX9_trace ∈ wsL_law := ck_41 _ (mm0 16 rfl)
theorem wq_41_17 : Cond.selects RX9 yX9_trace yX9_trace ∈ wsL_law := ck_41 _ (mm0 17 rfl)
theorem wq_41_18 : Cond.code yX9_trace cX9_trace 1 (some .long) ∈ wsL_law := ck_41 _ (mm0 18 rfl)
theorem wq_41_19 : Cond.fieldLink RX9 253 "ShrinkingCalls$Weights" "asked" "J" ∈ wsL_law := ck_41 _ (mm0 19 rfl)
theorem wq_41_20 : Cond.methodLink RL 117 yX10_trace ∈ wsL_law := ck_41 _ (mm0 20 rfl)
theorem wq_41_21 : Cond.instanceMethod yX10_trace ∈ wsL_law := ck_41 _ (mm0 21 rfl)
theorem wq_41_22 : Cond.selects RX10 yX10_trace yX10_trace ∈ wsL_law := ck_41 _ (mm0 22 rfl)
theorem wq_41_23 : Cond.code yX10_trace cX10_trace 1 (some .long) ∈ wsL_law := ck_41 _ (mm0 23 rfl)
end
section

abbrev St : Type := Nat → Nat → Int32
def up {α : Type} (f : Nat → α) (k : Nat) (v : α) : Nat → α := fun j => if j = k then v else f j
theorem up_s {α : Type} {f : Nat → α} {k : Nat} {v : α} : up f k v k = v := by simp [up]
theorem up_n {α : Type} {f : Nat → α} {k j : Nat} {v : α} (h : j ≠ k) : up f k v j = f j := by simp [up, h]
/-- a scalar is put -/
def us (s : St) (k : Nat) (v : Int32) : St := up s k (fun _ => v)
/-- a place of a row is put -/
def ua (s : St) (k : Nat) (i : Int32) (v : Int32) : St := up s k (upd (s k) i.toNatClampNeg v)
def zb (v : Int32) : Prop := v = 0 ∨ v = 1
theorem zb_n {v : Int32} (h : zb v) : narrow .boolean (.int v) = .int v := by rcases h with h | h <;> subst h <;> rfl
theorem zb_f {v : Int32} (h : zb v) : fits .boolean (.int v) = true := by rcases h with h | h <;> subst h <;> rfl
theorem zb_v {v : Int32} (h : zb v) : vp_nar .boolean v = v := by rcases h with h | h <;> subst h <;> rfl
theorem zb_0 : zb 0 := Or.inl rfl
theorem zb_1 : zb 1 := Or.inr rfl
def ORD (j : Nat) : Int32 := ([0, 1, 2, 3, 9, 13, 6, 14, 7, 11, 57, 45, 54, 30, 39, 27] : List Int32).getD j 0
def GAP (j : Nat) : Int32 := ([701, 301, 132, 57, 23, 10, 4, 1] : List Int32).getD j 0
/-- what lies outside the worlds: static rows, String constants -/
def EXT (g : Nat → Nat) (A : Nat → Prop) (U : State) (H : Heap) : Prop :=
  (va_Z "ShrinkingCalls" "ORDERS" "[I" (.ref (g 0)) A U H ∧ va_T .int (g 0) 16 (fun j => .int (ORD j)) A U H) ∧
  (va_Z "ShrinkingCalls$Closure" "GAPS" "[I" (.ref (g 1)) A U H ∧ va_T .int (g 1) 8 (fun j => .int (GAP j)) A U H) ∧
  (va_Z "java/lang/String" "COMPACT_STRINGS" "Z" (.int 1) A U H ∧ vk_S 2 [3, 4] [[97, 99, 116], [99, 97, 108, 108]] (fun i => g (2 + i)) (fun i => g (4 + i)) A U H) ∧
  (vk_R "ShrinkingCalls$TextReader" 112 "act" (g 2) U ∧ vk_R "ShrinkingCalls$TextReader" 118 "call" (g 3) U)
theorem EXT.narrow {g : Nat → Nat} {A B : Nat → Prop} {U : State} {H : Heap} (h : EXT g A U H) (hAB : ∀ q, B q → A q) : EXT g B U H := by
  obtain ⟨⟨a1, a2⟩, ⟨a3, a4⟩, ⟨a5, a6⟩, a7⟩ := h
  exact ⟨⟨a1.narrow hAB, a2.narrow hAB⟩, ⟨a3.narrow hAB, a4.narrow hAB⟩, ⟨a5.narrow hAB, a6.narrow hAB⟩, a7⟩
theorem EXT.kept {g : Nat → Nat} {A : Nat → Prop} {U : State} {H H1 : Heap} (h : EXT g A U H) (hq : ∀ a : Nat, a < H.size → ¬ A a → H1[a]? = H[a]?) : EXT g A U H1 := by
  obtain ⟨⟨a1, a2⟩, ⟨a3, a4⟩, ⟨a5, a6⟩, a7⟩ := h
  exact ⟨⟨a1.kept hq, a2.kept hq⟩, ⟨a3.kept hq, a4.kept hq⟩, ⟨a5.kept hq, a6.kept hq⟩, a7⟩
theorem EXT.warm {g : Nat → Nat} {A : Nat → Prop} {s U : State} {H : Heap} (hW : s.WarmedH U.vm) (h : EXT g A s H) : EXT g A U H := by
  obtain ⟨⟨a1, a2⟩, ⟨a3, a4⟩, ⟨a5, a6⟩, a7, a8⟩ := h
  exact ⟨⟨a1.moved hW.alike, a2.moved hW.alike⟩, ⟨a3.moved hW.alike, a4.moved hW.alike⟩, ⟨a5.moved hW.alike, a6.moved hW.alike⟩, a7.warm hW, a8.warm hW⟩
theorem EXT.calling {g : Nat → Nat} {A : Nat → Prop} {U : State} {H : Heap} {gf : JFrame} {mk : MethodId} {a : Array Value} (h : EXT g A U H) : EXT g A (U.calling gf mk a) H := by
  obtain ⟨⟨a1, a2⟩, ⟨a3, a4⟩, ⟨a5, a6⟩, a7, a8⟩ := h
  have hr := Vm.Alike.refl U.vm
  exact ⟨⟨va_Z.moved (u := U) (U := U.calling gf mk a) hr a1, va_T.moved (u := U) (U := U.calling gf mk a) hr a2⟩, ⟨va_Z.moved (u := U) (U := U.calling gf mk a) hr a3, va_T.moved (u := U) (U := U.calling gf mk a) hr a4⟩, ⟨va_Z.moved (u := U) (U := U.calling gf mk a) hr a5, vk_S.moved (u := U) (U := U.calling gf mk a) hr a6⟩, vk_R.same (u := U) (U := U.calling gf mk a) rfl a7, vk_R.same (u := U) (U := U.calling gf mk a) rfl a8⟩
/-- the machine's fixed things in one -/
abbrev CT : Type := Program × Launch × Env × Room × State × MethodId × Array Value × List Frame × Method × Code × (State → Prop) × (Nat → Prop) × va_G × (ClassId × ClassId) × (Nat → Nat)
abbrev xl (x : CT) : Launch := x.2.1
abbrev xD (x : CT) : va_G := x.2.2.2.2.2.2.2.2.2.2.2.2.1
abbrev xk (x : CT) : ClassId × ClassId := x.2.2.2.2.2.2.2.2.2.2.2.2.2.1
abbrev xg (x : CT) : Nat → Nat := x.2.2.2.2.2.2.2.2.2.2.2.2.2.2
abbrev tyL (k : ClassId × ClassId) : List (ClassId × FieldType) := [(k.1, .int), (k.2, .boolean)]
abbrev Tb : Type := List (Nat × Instr × Nat)
def tbOk (cc : ByteArray) (tb : Tb) : Bool := tb.all (fun q => decide (decode cc q.1 = .ok (q.2.1, q.2.2)))
theorem tb_at {cc : ByteArray} {tb : Tb} (h : tbOk cc tb = true) {i pc n : Nat} {ins : Instr} (hi : tb[i]? = some (pc, ins, n)) : decode cc pc = .ok (ins, n) := of_decide_eq_true (List.all_eq_true.mp h (pc, ins, n) (List.mem_of_getElem? hi))
theorem mm {α : Type} {Ts : List α} {w : α} (i : Nat) (h : Ts[i]? = some w) : w ∈ Ts := List.mem_of_getElem? h
/-- what holds in a method's whole body -/
def Cx (x : CT) (cc : ByteArray) (tb : Tb) (nL : Nat) (own : String) (Ts : List Cond) (rm : Room) : Prop := match x with
  | (p, l, e, R, s, m, args, below, meth, c, Q, A, D, k, g) => CallFix p m c cc nL s args Ts own ∧ tbOk cc tb = true ∧ R = rm ∧ (∀ q, s.heap.size ≤ q → A q) ∧ va_K D vwCl (tyL k) s ∧ meth.locks = false ∧ EXT g A s s.heap
/-- from every heap that holds the cells ws, at pc, with the locals lv and the stack st, the method comes to its end -/
def Wx (x : CT) (nL ce sl : Nat) (ws : va_W) (lv : List (Nat × Value)) (pc : Nat) (st : List Value) : Prop := match x with
  | (p, l, e, R, s, m, args, below, meth, c, Q, A, D, k, g) => ∀ (H : Heap) (locs : List Loc) (ls : Array Slot), va_P D vwCl ws H → va_D A ws → va_S A s.heap H locs → lv_has ls nL lv → W p l e R s m args below meth c H locs ce sl Q (F0 m pc ls st)
section XR
variable {x : CT} {cc : ByteArray} {tb : Tb} {nL : Nat} {own : String} {Ts : List Cond} {rm : Room} {ce sl : Nat} {ws : va_W} {lv : List (Nat × Value)} {st : List Value}
theorem x_sub {lv' : List (Nat × Value)} {pc : Nat} (ks : List Nat) (hl : lv_pick lv ks = lv') (h : Wx x nL ce sl ws lv' pc st) : Wx x nL ce sl ws lv pc st := by
  obtain ⟨p, l, e, R, s, m, args, below, meth, c, Q, A, D, k, g⟩ := x
  exact fun H locs ls hP hD hS hl' => h H locs ls hP hD hS (lv_sub hl' ks hl)
theorem x_topi {pc : Nat} {a : Int32} (k : ∀ y : Int32, y = a → Wx x nL ce sl ws lv pc (.int y :: st)) : Wx x nL ce sl ws lv pc (.int a :: st) := k a rfl
theorem x_topl {pc : Nat} {a : Int64} (k : ∀ y : Int64, y = a → Wx x nL ce sl ws lv pc (.long y :: st)) : Wx x nL ce sl ws lv pc (.long a :: st) := k a rfl

theorem x_iadd (C : Cx x cc tb nL own Ts rm) (i pc : Nat) {a b : Int32} (hi : tb[i]? = some (pc, .iadd, 1))  (h : Wx x nL ce sl ws lv (pc + 1) (.int (a + b) :: st)) : Wx x nL ce sl ws lv pc (.int b :: .int a :: st) := by
  obtain ⟨p, l, e, R, s, m, args, below, meth, c, Q, A, D, k, g⟩ := x
  obtain ⟨⟨hx, hb, hml, hown, hts⟩, htb, hR, hA, hK, hlk, hE⟩ := C
  intro H locs ls hP hD hS hl
  exact lv_iadd hx hb (tb_at htb hi) (h H locs ls hP hD hS hl)

theorem x_isub (C : Cx x cc tb nL own Ts rm) (i pc : Nat) {a b : Int32} (hi : tb[i]? = some (pc, .isub, 1))  (h : Wx x nL ce sl ws lv (pc + 1) (.int (a - b) :: st)) : Wx x nL ce sl ws lv pc (.int b :: .int a :: st) := by
  obtain ⟨p, l, e, R, s, m, args, below, meth, c, Q, A, D, k, g⟩ := x
  obtain ⟨⟨hx, hb, hml, hown, hts⟩, htb, hR, hA, hK, hlk, hE⟩ := C
  intro H locs ls hP hD hS hl
  exact lv_isub hx hb (tb_at htb hi) (h H locs ls hP hD hS hl)

theorem x_imul (C : Cx x cc tb nL own Ts rm) (i pc : Nat) {a b : Int32} (hi : tb[i]? = some (pc, .imul, 1))  (h : Wx x nL ce sl ws lv (pc + 1) (.int (a * b) :: st)) : Wx x nL ce sl ws lv pc (.int b :: .int a :: st) := by
  obtain ⟨p, l, e, R, s, m, args, below, meth, c, Q, A, D, k, g⟩ := x
  obtain ⟨⟨hx, hb, hml, hown, hts⟩, htb, hR, hA, hK, hlk, hE⟩ := C
  intro H locs ls hP hD hS hl
  exact lv_imul hx hb (tb_at htb hi) (h H locs ls hP hD hS hl)

theorem x_iand (C : Cx x cc tb nL own Ts rm) (i pc : Nat) {a b : Int32} (hi : tb[i]? = some (pc, .iand, 1))  (h : Wx x nL ce sl ws lv (pc + 1) (.int (a &&& b) :: st)) : Wx x nL ce sl ws lv pc (.int b :: .int a :: st) := by
  obtain ⟨p, l, e, R, s, m, args, below, meth, c, Q, A, D, k, g⟩ := x
  obtain ⟨⟨hx, hb, hml, hown, hts⟩, htb, hR, hA, hK, hlk, hE⟩ := C
  intro H locs ls hP hD hS hl
  exact lv_iand hx hb (tb_at htb hi) (h H locs ls hP hD hS hl)

theorem x_ior (C : Cx x cc tb nL own Ts rm) (i pc : Nat) {a b : Int32} (hi : tb[i]? = some (pc, .ior, 1))  (h : Wx x nL ce sl ws lv (pc + 1) (.int (a ||| b) :: st)) : Wx x nL ce sl ws lv pc (.int b :: .int a :: st) := by
  obtain ⟨p, l, e, R, s, m, args, below, meth, c, Q, A, D, k, g⟩ := x
  obtain ⟨⟨hx, hb, hml, hown, hts⟩, htb, hR, hA, hK, hlk, hE⟩ := C
  intro H locs ls hP hD hS hl
  exact lv_ior hx hb (tb_at htb hi) (h H locs ls hP hD hS hl)

theorem x_ixor (C : Cx x cc tb nL own Ts rm) (i pc : Nat) {a b : Int32} (hi : tb[i]? = some (pc, .ixor, 1))  (h : Wx x nL ce sl ws lv (pc + 1) (.int (a ^^^ b) :: st)) : Wx x nL ce sl ws lv pc (.int b :: .int a :: st) := by
  obtain ⟨p, l, e, R, s, m, args, below, meth, c, Q, A, D, k, g⟩ := x
  obtain ⟨⟨hx, hb, hml, hown, hts⟩, htb, hR, hA, hK, hlk, hE⟩ := C
  intro H locs ls hP hD hS hl
  exact lv_ixor hx hb (tb_at htb hi) (h H locs ls hP hD hS hl)

theorem x_ishl (C : Cx x cc tb nL own Ts rm) (i pc : Nat) {a b : Int32} (hi : tb[i]? = some (pc, .ishl, 1))  (h : Wx x nL ce sl ws lv (pc + 1) (.int (a <<< (b &&& 31)) :: st)) : Wx x nL ce sl ws lv pc (.int b :: .int a :: st) := by
  obtain ⟨p, l, e, R, s, m, args, below, meth, c, Q, A, D, k, g⟩ := x
  obtain ⟨⟨hx, hb, hml, hown, hts⟩, htb, hR, hA, hK, hlk, hE⟩ := C
  intro H locs ls hP hD hS hl
  exact lv_ishl hx hb (tb_at htb hi) (h H locs ls hP hD hS hl)

theorem x_ishr (C : Cx x cc tb nL own Ts rm) (i pc : Nat) {a b : Int32} (hi : tb[i]? = some (pc, .ishr, 1))  (h : Wx x nL ce sl ws lv (pc + 1) (.int (a >>> (b &&& 31)) :: st)) : Wx x nL ce sl ws lv pc (.int b :: .int a :: st) := by
  obtain ⟨p, l, e, R, s, m, args, below, meth, c, Q, A, D, k, g⟩ := x
  obtain ⟨⟨hx, hb, hml, hown, hts⟩, htb, hR, hA, hK, hlk, hE⟩ := C
  intro H locs ls hP hD hS hl
  exact lv_ishr hx hb (tb_at htb hi) (h H locs ls hP hD hS hl)

theorem x_iushr (C : Cx x cc tb nL own Ts rm) (i pc : Nat) {a b : Int32} (hi : tb[i]? = some (pc, .iushr, 1))  (h : Wx x nL ce sl ws lv (pc + 1) (.int ((a.toUInt32 >>> (b.toUInt32 &&& Int32.toUInt32 31)).toInt32) :: st)) : Wx x nL ce sl ws lv pc (.int b :: .int a :: st) := by
  obtain ⟨p, l, e, R, s, m, args, below, meth, c, Q, A, D, k, g⟩ := x
  obtain ⟨⟨hx, hb, hml, hown, hts⟩, htb, hR, hA, hK, hlk, hE⟩ := C
  intro H locs ls hP hD hS hl
  exact lv_iushr hx hb (tb_at htb hi) rfl (h H locs ls hP hD hS hl)

theorem x_idiv (C : Cx x cc tb nL own Ts rm) (i pc : Nat) {a b : Int32} (hi : tb[i]? = some (pc, .idiv, 1)) (hne : ¬ b = 0) (h : Wx x nL ce sl ws lv (pc + 1) (.int (a / b) :: st)) : Wx x nL ce sl ws lv pc (.int b :: .int a :: st) := by
  obtain ⟨p, l, e, R, s, m, args, below, meth, c, Q, A, D, k, g⟩ := x
  obtain ⟨⟨hx, hb, hml, hown, hts⟩, htb, hR, hA, hK, hlk, hE⟩ := C
  intro H locs ls hP hD hS hl
  exact lv_idiv hx hb (tb_at htb hi) hne (h H locs ls hP hD hS hl)

theorem x_irem (C : Cx x cc tb nL own Ts rm) (i pc : Nat) {a b : Int32} (hi : tb[i]? = some (pc, .irem, 1)) (hne : ¬ b = 0) (h : Wx x nL ce sl ws lv (pc + 1) (.int (a - a / b * b) :: st)) : Wx x nL ce sl ws lv pc (.int b :: .int a :: st) := by
  obtain ⟨p, l, e, R, s, m, args, below, meth, c, Q, A, D, k, g⟩ := x
  obtain ⟨⟨hx, hb, hml, hown, hts⟩, htb, hR, hA, hK, hlk, hE⟩ := C
  intro H locs ls hP hD hS hl
  exact lv_irem hx hb (tb_at htb hi) hne (h H locs ls hP hD hS hl)

theorem x_i2l (C : Cx x cc tb nL own Ts rm) (i pc : Nat) {a : Int32} (hi : tb[i]? = some (pc, .i2l, 1))  (h : Wx x nL ce sl ws lv (pc + 1) (.long (a.toInt64) :: st)) : Wx x nL ce sl ws lv pc (.int a :: st) := by
  obtain ⟨p, l, e, R, s, m, args, below, meth, c, Q, A, D, k, g⟩ := x
  obtain ⟨⟨hx, hb, hml, hown, hts⟩, htb, hR, hA, hK, hlk, hE⟩ := C
  intro H locs ls hP hD hS hl
  exact lv_i2l hx hb (tb_at htb hi) rfl (h H locs ls hP hD hS hl)

theorem x_l2i (C : Cx x cc tb nL own Ts rm) (i pc : Nat) {a : Int64} (hi : tb[i]? = some (pc, .l2i, 1))  (h : Wx x nL ce sl ws lv (pc + 1) (.int (a.toInt32) :: st)) : Wx x nL ce sl ws lv pc (.long a :: st) := by
  obtain ⟨p, l, e, R, s, m, args, below, meth, c, Q, A, D, k, g⟩ := x
  obtain ⟨⟨hx, hb, hml, hown, hts⟩, htb, hR, hA, hK, hlk, hE⟩ := C
  intro H locs ls hP hD hS hl
  exact lv_l2i hx hb (tb_at htb hi) rfl (h H locs ls hP hD hS hl)

theorem x_ladd (C : Cx x cc tb nL own Ts rm) (i pc : Nat) {a b : Int64} (hi : tb[i]? = some (pc, .ladd, 1))  (h : Wx x nL ce sl ws lv (pc + 1) (.long (a + b) :: st)) : Wx x nL ce sl ws lv pc (.long b :: .long a :: st) := by
  obtain ⟨p, l, e, R, s, m, args, below, meth, c, Q, A, D, k, g⟩ := x
  obtain ⟨⟨hx, hb, hml, hown, hts⟩, htb, hR, hA, hK, hlk, hE⟩ := C
  intro H locs ls hP hD hS hl
  exact lv_ladd hx hb (tb_at htb hi) (h H locs ls hP hD hS hl)

theorem x_land (C : Cx x cc tb nL own Ts rm) (i pc : Nat) {a b : Int64} (hi : tb[i]? = some (pc, .land, 1))  (h : Wx x nL ce sl ws lv (pc + 1) (.long (a &&& b) :: st)) : Wx x nL ce sl ws lv pc (.long b :: .long a :: st) := by
  obtain ⟨p, l, e, R, s, m, args, below, meth, c, Q, A, D, k, g⟩ := x
  obtain ⟨⟨hx, hb, hml, hown, hts⟩, htb, hR, hA, hK, hlk, hE⟩ := C
  intro H locs ls hP hD hS hl
  exact lv_land hx hb (tb_at htb hi) (h H locs ls hP hD hS hl)

theorem x_lor (C : Cx x cc tb nL own Ts rm) (i pc : Nat) {a b : Int64} (hi : tb[i]? = some (pc, .lor, 1))  (h : Wx x nL ce sl ws lv (pc + 1) (.long (a ||| b) :: st)) : Wx x nL ce sl ws lv pc (.long b :: .long a :: st) := by
  obtain ⟨p, l, e, R, s, m, args, below, meth, c, Q, A, D, k, g⟩ := x
  obtain ⟨⟨hx, hb, hml, hown, hts⟩, htb, hR, hA, hK, hlk, hE⟩ := C
  intro H locs ls hP hD hS hl
  exact lv_lor hx hb (tb_at htb hi) (h H locs ls hP hD hS hl)

theorem x_lshl (C : Cx x cc tb nL own Ts rm) (i pc : Nat) {a : Int64} {b : Int32} (hi : tb[i]? = some (pc, .lshl, 1))  (h : Wx x nL ce sl ws lv (pc + 1) (.long (a <<< (b.toInt64 &&& 63)) :: st)) : Wx x nL ce sl ws lv pc (.int b :: .long a :: st) := by
  obtain ⟨p, l, e, R, s, m, args, below, meth, c, Q, A, D, k, g⟩ := x
  obtain ⟨⟨hx, hb, hml, hown, hts⟩, htb, hR, hA, hK, hlk, hE⟩ := C
  intro H locs ls hP hD hS hl
  exact lv_lshl hx hb (tb_at htb hi) rfl (h H locs ls hP hD hS hl)

theorem x_lshr (C : Cx x cc tb nL own Ts rm) (i pc : Nat) {a : Int64} {b : Int32} (hi : tb[i]? = some (pc, .lshr, 1))  (h : Wx x nL ce sl ws lv (pc + 1) (.long (a >>> (b.toInt64 &&& 63)) :: st)) : Wx x nL ce sl ws lv pc (.int b :: .long a :: st) := by
  obtain ⟨p, l, e, R, s, m, args, below, meth, c, Q, A, D, k, g⟩ := x
  obtain ⟨⟨hx, hb, hml, hown, hts⟩, htb, hR, hA, hK, hlk, hE⟩ := C
  intro H locs ls hP hD hS hl
  exact lv_lshr hx hb (tb_at htb hi) rfl (h H locs ls hP hD hS hl)

theorem x_lushr (C : Cx x cc tb nL own Ts rm) (i pc : Nat) {a : Int64} {b : Int32} (hi : tb[i]? = some (pc, .lushr, 1))  (h : Wx x nL ce sl ws lv (pc + 1) (.long ((a.toUInt64 >>> (b.toInt64.toUInt64 &&& Int64.toUInt64 63)).toInt64) :: st)) : Wx x nL ce sl ws lv pc (.int b :: .long a :: st) := by
  obtain ⟨p, l, e, R, s, m, args, below, meth, c, Q, A, D, k, g⟩ := x
  obtain ⟨⟨hx, hb, hml, hown, hts⟩, htb, hR, hA, hK, hlk, hE⟩ := C
  intro H locs ls hP hD hS hl
  exact lv_lushr hx hb (tb_at htb hi) rfl (h H locs ls hP hD hS hl)

theorem x_lcmp (C : Cx x cc tb nL own Ts rm) (i pc : Nat) {a b : Int64} (hi : tb[i]? = some (pc, .lcmp, 1))  (h : Wx x nL ce sl ws lv (pc + 1) (.int (lg_cmp a b) :: st)) : Wx x nL ce sl ws lv pc (.long b :: .long a :: st) := by
  obtain ⟨p, l, e, R, s, m, args, below, meth, c, Q, A, D, k, g⟩ := x
  obtain ⟨⟨hx, hb, hml, hown, hts⟩, htb, hR, hA, hK, hlk, hE⟩ := C
  intro H locs ls hP hD hS hl
  exact W.lcmp hx hb (tb_at htb hi) (h H locs ls hP hD hS hl)

theorem x_iconst (C : Cx x cc tb nL own Ts rm) (i pc : Nat) {n : Int} {v : Int32} (hi : tb[i]? = some (pc, .iconst n, 1)) (hv : Int32.ofInt n = v) (h : Wx x nL ce sl ws lv (pc + 1) (.int v :: st)) : Wx x nL ce sl ws lv pc (st) := by
  obtain ⟨p, l, e, R, s, m, args, below, meth, c, Q, A, D, k, g⟩ := x
  obtain ⟨⟨hx, hb, hml, hown, hts⟩, htb, hR, hA, hK, hlk, hE⟩ := C
  intro H locs ls hP hD hS hl
  exact lv_iconst hx hb (tb_at htb hi) hv (h H locs ls hP hD hS hl)

theorem x_bipush (C : Cx x cc tb nL own Ts rm) (i pc : Nat) {n : Int} {v : Int32} (hi : tb[i]? = some (pc, .bipush n, 2)) (hv : (Int8.ofInt n).toInt32 = v) (h : Wx x nL ce sl ws lv (pc + 2) (.int v :: st)) : Wx x nL ce sl ws lv pc (st) := by
  obtain ⟨p, l, e, R, s, m, args, below, meth, c, Q, A, D, k, g⟩ := x
  obtain ⟨⟨hx, hb, hml, hown, hts⟩, htb, hR, hA, hK, hlk, hE⟩ := C
  intro H locs ls hP hD hS hl
  exact lv_bipush hx hb (tb_at htb hi) hv (h H locs ls hP hD hS hl)

theorem x_sipush (C : Cx x cc tb nL own Ts rm) (i pc : Nat) {n : Int} {v : Int32} (hi : tb[i]? = some (pc, .sipush n, 3)) (hv : (Int16.ofInt n).toInt32 = v) (h : Wx x nL ce sl ws lv (pc + 3) (.int v :: st)) : Wx x nL ce sl ws lv pc (st) := by
  obtain ⟨p, l, e, R, s, m, args, below, meth, c, Q, A, D, k, g⟩ := x
  obtain ⟨⟨hx, hb, hml, hown, hts⟩, htb, hR, hA, hK, hlk, hE⟩ := C
  intro H locs ls hP hD hS hl
  exact lv_sipush hx hb (tb_at htb hi) hv (h H locs ls hP hD hS hl)

theorem x_lconst (C : Cx x cc tb nL own Ts rm) (i pc : Nat) {n : Fin 2} {v : Int64} (hi : tb[i]? = some (pc, .lconst n, 1)) (hv : Int64.ofNat (n : Nat) = v) (h : Wx x nL ce sl ws lv (pc + 1) (.long v :: st)) : Wx x nL ce sl ws lv pc (st) := by
  obtain ⟨p, l, e, R, s, m, args, below, meth, c, Q, A, D, k, g⟩ := x
  obtain ⟨⟨hx, hb, hml, hown, hts⟩, htb, hR, hA, hK, hlk, hE⟩ := C
  intro H locs ls hP hD hS hl
  exact lv_lconst hx hb (tb_at htb hi) hv (h H locs ls hP hD hS hl)

theorem x_ldc (C : Cx x cc tb nL own Ts rm) (i pc : Nat) {index : Nat} {v : Int32} (hi : tb[i]? = some (pc, .ldc index, 2)) (hc : Cond.constant own index v ∈ Ts) (h : Wx x nL ce sl ws lv (pc + 2) (.int v :: st)) : Wx x nL ce sl ws lv pc (st) := by
  obtain ⟨p, l, e, R, s, m, args, below, meth, c, Q, A, D, k, g⟩ := x
  obtain ⟨⟨hx, hb, hml, hown, hts⟩, htb, hR, hA, hK, hlk, hE⟩ := C
  intro H locs ls hP hD hS hl
  exact lv_ldc hx hb hown (hts _ hc) (tb_at htb hi) (h H locs ls hP hD hS hl)

theorem x_ldc2 (C : Cx x cc tb nL own Ts rm) (i pc : Nat) {index : Nat} {v : Int64} (hi : tb[i]? = some (pc, .ldc2_w index, 3)) (hc : Cond.constantLong own index v ∈ Ts) (h : Wx x nL ce sl ws lv (pc + 3) (.long v :: st)) : Wx x nL ce sl ws lv pc (st) := by
  obtain ⟨p, l, e, R, s, m, args, below, meth, c, Q, A, D, k, g⟩ := x
  obtain ⟨⟨hx, hb, hml, hown, hts⟩, htb, hR, hA, hK, hlk, hE⟩ := C
  intro H locs ls hP hD hS hl
  exact lv_ldc2 hx hb hown (hts _ hc) (tb_at htb hi) (h H locs ls hP hD hS hl)

theorem x_iload_n (C : Cx x cc tb nL own Ts rm) (i pc : Nat) {k : Fin 4} {j : Nat} {v : Int32} (hi : tb[i]? = some (pc, .iload_n k, 1)) (q : Nat) (hj : (k : Nat) = j) (hq : lv[q]? = some (j, .int v)) (h : Wx x nL ce sl ws lv (pc + 1) (.int v :: st)) : Wx x nL ce sl ws lv pc (st) := by
  obtain ⟨p, l, e, R, s, m, args, below, meth, c, Q, A, D, k, g⟩ := x
  obtain ⟨⟨hx, hb, hml, hown, hts⟩, htb, hR, hA, hK, hlk, hE⟩ := C
  intro H locs ls hP hD hS hl
  exact lv_iload_n hx hb (tb_at htb hi) hj (lv_at hl q hq) (h H locs ls hP hD hS hl)

theorem x_iload (C : Cx x cc tb nL own Ts rm) (i pc : Nat) {j : Nat} {v : Int32} (hi : tb[i]? = some (pc, .iload j, 2)) (q : Nat) (hq : lv[q]? = some (j, .int v)) (h : Wx x nL ce sl ws lv (pc + 2) (.int v :: st)) : Wx x nL ce sl ws lv pc (st) := by
  obtain ⟨p, l, e, R, s, m, args, below, meth, c, Q, A, D, k, g⟩ := x
  obtain ⟨⟨hx, hb, hml, hown, hts⟩, htb, hR, hA, hK, hlk, hE⟩ := C
  intro H locs ls hP hD hS hl
  exact lv_iload hx hb (tb_at htb hi) (lv_at hl q hq) (h H locs ls hP hD hS hl)

theorem x_lload_n (C : Cx x cc tb nL own Ts rm) (i pc : Nat) {k : Fin 4} {j : Nat} {v : Int64} (hi : tb[i]? = some (pc, .lload_n k, 1)) (q : Nat) (hj : (k : Nat) = j) (hq : lv[q]? = some (j, .long v)) (h : Wx x nL ce sl ws lv (pc + 1) (.long v :: st)) : Wx x nL ce sl ws lv pc (st) := by
  obtain ⟨p, l, e, R, s, m, args, below, meth, c, Q, A, D, k, g⟩ := x
  obtain ⟨⟨hx, hb, hml, hown, hts⟩, htb, hR, hA, hK, hlk, hE⟩ := C
  intro H locs ls hP hD hS hl
  exact lv_lload_n hx hb (tb_at htb hi) hj (lv_at hl q hq) (h H locs ls hP hD hS hl)

theorem x_lload (C : Cx x cc tb nL own Ts rm) (i pc : Nat) {j : Nat} {v : Int64} (hi : tb[i]? = some (pc, .lload j, 2)) (q : Nat) (hq : lv[q]? = some (j, .long v)) (h : Wx x nL ce sl ws lv (pc + 2) (.long v :: st)) : Wx x nL ce sl ws lv pc (st) := by
  obtain ⟨p, l, e, R, s, m, args, below, meth, c, Q, A, D, k, g⟩ := x
  obtain ⟨⟨hx, hb, hml, hown, hts⟩, htb, hR, hA, hK, hlk, hE⟩ := C
  intro H locs ls hP hD hS hl
  exact lv_lload hx hb (tb_at htb hi) (lv_at hl q hq) (h H locs ls hP hD hS hl)

theorem x_aload_n (C : Cx x cc tb nL own Ts rm) (i pc : Nat) {k : Fin 4} {j : Nat} {v : Nat} (hi : tb[i]? = some (pc, .aload_n k, 1)) (q : Nat) (hj : (k : Nat) = j) (hq : lv[q]? = some (j, .ref v)) (h : Wx x nL ce sl ws lv (pc + 1) (.ref v :: st)) : Wx x nL ce sl ws lv pc (st) := by
  obtain ⟨p, l, e, R, s, m, args, below, meth, c, Q, A, D, k, g⟩ := x
  obtain ⟨⟨hx, hb, hml, hown, hts⟩, htb, hR, hA, hK, hlk, hE⟩ := C
  intro H locs ls hP hD hS hl
  exact lv_aload_n hx hb (tb_at htb hi) hj (lv_at hl q hq) (h H locs ls hP hD hS hl)

theorem x_aload (C : Cx x cc tb nL own Ts rm) (i pc : Nat) {j : Nat} {v : Nat} (hi : tb[i]? = some (pc, .aload j, 2)) (q : Nat) (hq : lv[q]? = some (j, .ref v)) (h : Wx x nL ce sl ws lv (pc + 2) (.ref v :: st)) : Wx x nL ce sl ws lv pc (st) := by
  obtain ⟨p, l, e, R, s, m, args, below, meth, c, Q, A, D, k, g⟩ := x
  obtain ⟨⟨hx, hb, hml, hown, hts⟩, htb, hR, hA, hK, hlk, hE⟩ := C
  intro H locs ls hP hD hS hl
  exact lv_aload hx hb (tb_at htb hi) (lv_at hl q hq) (h H locs ls hP hD hS hl)

theorem x_istore_n (C : Cx x cc tb nL own Ts rm) (i pc : Nat) {k : Fin 4} {j : Nat} {v : Int32} {lv' : List (Nat × Value)} (hi : tb[i]? = some (pc, .istore_n k, 1)) (hj : (k : Nat) = j) (hn : j < nL) (ks : List Nat) (hl' : lv_pick ((j, Value.int v) :: lv.filter (fun q => !(q.1 == j) && !(q.1 + 1 == j && q.2.category == 2))) ks = lv') (h : Wx x nL ce sl ws lv' (pc + 1) st) : Wx x nL ce sl ws lv pc (.int v :: st) := by
  obtain ⟨p, l, e, R, s, m, args, below, meth, c, Q, A, D, k, g⟩ := x
  obtain ⟨⟨hx, hb, hml, hown, hts⟩, htb, hR, hA, hK, hlk, hE⟩ := C
  intro H locs ls hP hD hS hl
  exact lv_istore_n hx hb (tb_at htb hi) hj hl hn rfl (fun ls2 h2 => h H locs ls2 hP hD hS (lv_sub h2 ks hl'))
theorem x_istore (C : Cx x cc tb nL own Ts rm) (i pc : Nat) {j : Nat} {v : Int32} {lv' : List (Nat × Value)} (hi : tb[i]? = some (pc, .istore j, 2)) (hn : j < nL) (ks : List Nat) (hl' : lv_pick ((j, Value.int v) :: lv.filter (fun q => !(q.1 == j) && !(q.1 + 1 == j && q.2.category == 2))) ks = lv') (h : Wx x nL ce sl ws lv' (pc + 2) st) : Wx x nL ce sl ws lv pc (.int v :: st) := by
  obtain ⟨p, l, e, R, s, m, args, below, meth, c, Q, A, D, k, g⟩ := x
  obtain ⟨⟨hx, hb, hml, hown, hts⟩, htb, hR, hA, hK, hlk, hE⟩ := C
  intro H locs ls hP hD hS hl
  exact lv_istore hx hb (tb_at htb hi) hl hn rfl (fun ls2 h2 => h H locs ls2 hP hD hS (lv_sub h2 ks hl'))
theorem x_iinc (C : Cx x cc tb nL own Ts rm) (i pc : Nat) {j : Nat} {n : Int} {a v : Int32} {lv' : List (Nat × Value)} (hi : tb[i]? = some (pc, .iinc j n, 3)) (q : Nat) (hq : lv[q]? = some (j, .int a)) (hv : a + Int32.ofInt n = v) (hn : j < nL) (ks : List Nat) (hl' : lv_pick ((j, Value.int v) :: lv.filter (fun q => !(q.1 == j) && !(q.1 + 1 == j && q.2.category == 2))) ks = lv') (h : Wx x nL ce sl ws lv' (pc + 3) st) : Wx x nL ce sl ws lv pc st := by
  obtain ⟨p, l, e, R, s, m, args, below, meth, c, Q, A, D, k, g⟩ := x
  obtain ⟨⟨hx, hb, hml, hown, hts⟩, htb, hR, hA, hK, hlk, hE⟩ := C
  intro H locs ls hP hD hS hl
  exact lv_iinc hx hb (tb_at htb hi) hl hq hv hn rfl (fun ls2 h2 => h H locs ls2 hP hD hS (lv_sub h2 ks hl'))
theorem x_goto (C : Cx x cc tb nL own Ts rm) (i pc tgt : Nat) {off : Int} (hi : tb[i]? = some (pc, .goto off, 3)) (ht : (pc : Int) + off = (tgt : Int)) (h : Wx x nL ce sl ws lv tgt st) : Wx x nL ce sl ws lv pc st := by
  obtain ⟨p, l, e, R, s, m, args, below, meth, c, Q, A, D, k, g⟩ := x
  obtain ⟨⟨hx, hb, hml, hown, hts⟩, htb, hR, hA, hK, hlk, hE⟩ := C
  intro H locs ls hP hD hS hl
  exact lv_goto hx hb (tb_at htb hi) ht (h H locs ls hP hD hS hl)

theorem x_dup (C : Cx x cc tb nL own Ts rm) (i pc : Nat) {v : Value} (hi : tb[i]? = some (pc, .dup, 1)) (hv : v.category = 1) (h : Wx x nL ce sl ws lv (pc + 1) (v :: v :: st)) : Wx x nL ce sl ws lv pc (v :: st) := by
  obtain ⟨p, l, e, R, s, m, args, below, meth, c, Q, A, D, k, g⟩ := x
  obtain ⟨⟨hx, hb, hml, hown, hts⟩, htb, hR, hA, hK, hlk, hE⟩ := C
  intro H locs ls hP hD hS hl
  exact lv_dup hx hb (tb_at htb hi) hv (h H locs ls hP hD hS hl)

theorem x_pop (C : Cx x cc tb nL own Ts rm) (i pc : Nat) {v : Value} (hi : tb[i]? = some (pc, .pop, 1)) (hv : v.category = 1) (h : Wx x nL ce sl ws lv (pc + 1) (st)) : Wx x nL ce sl ws lv pc (v :: st) := by
  obtain ⟨p, l, e, R, s, m, args, below, meth, c, Q, A, D, k, g⟩ := x
  obtain ⟨⟨hx, hb, hml, hown, hts⟩, htb, hR, hA, hK, hlk, hE⟩ := C
  intro H locs ls hP hD hS hl
  exact lv_pop hx hb (tb_at htb hi) hv (h H locs ls hP hD hS hl)

theorem x_if_eq (C : Cx x cc tb nL own Ts rm) (i pc tgt : Nat) {a : Int32} {off : Int} (hi : tb[i]? = some (pc, .ifCond .eq off, 3)) (ht : (pc : Int) + off = (tgt : Int)) (kt : a = 0 → Wx x nL ce sl ws lv tgt st) (kf : ¬ a = 0 → Wx x nL ce sl ws lv (pc + 3) st) : Wx x nL ce sl ws lv pc (.int a :: st) := by
  obtain ⟨p, l, e, R, s, m, args, below, meth, c, Q, A, D, k, g⟩ := x
  obtain ⟨⟨hx, hb, hml, hown, hts⟩, htb, hR, hA, hK, hlk, hE⟩ := C
  intro H locs ls hP hD hS hl
  exact lv_if_eq hx hb (tb_at htb hi) ht (fun q => kt q H locs ls hP hD hS hl) (fun q => kf q H locs ls hP hD hS hl)

theorem x_if_ne (C : Cx x cc tb nL own Ts rm) (i pc tgt : Nat) {a : Int32} {off : Int} (hi : tb[i]? = some (pc, .ifCond .ne off, 3)) (ht : (pc : Int) + off = (tgt : Int)) (kt : ¬ a = 0 → Wx x nL ce sl ws lv tgt st) (kf : a = 0 → Wx x nL ce sl ws lv (pc + 3) st) : Wx x nL ce sl ws lv pc (.int a :: st) := by
  obtain ⟨p, l, e, R, s, m, args, below, meth, c, Q, A, D, k, g⟩ := x
  obtain ⟨⟨hx, hb, hml, hown, hts⟩, htb, hR, hA, hK, hlk, hE⟩ := C
  intro H locs ls hP hD hS hl
  exact lv_if_ne hx hb (tb_at htb hi) ht (fun q => kt q H locs ls hP hD hS hl) (fun q => kf q H locs ls hP hD hS hl)

theorem x_if_lt (C : Cx x cc tb nL own Ts rm) (i pc tgt : Nat) {a : Int32} {off : Int} (hi : tb[i]? = some (pc, .ifCond .lt off, 3)) (ht : (pc : Int) + off = (tgt : Int)) (kt : a < 0 → Wx x nL ce sl ws lv tgt st) (kf : ¬ a < 0 → Wx x nL ce sl ws lv (pc + 3) st) : Wx x nL ce sl ws lv pc (.int a :: st) := by
  obtain ⟨p, l, e, R, s, m, args, below, meth, c, Q, A, D, k, g⟩ := x
  obtain ⟨⟨hx, hb, hml, hown, hts⟩, htb, hR, hA, hK, hlk, hE⟩ := C
  intro H locs ls hP hD hS hl
  exact lv_if_lt hx hb (tb_at htb hi) ht (fun q => kt q H locs ls hP hD hS hl) (fun q => kf q H locs ls hP hD hS hl)

theorem x_if_ge (C : Cx x cc tb nL own Ts rm) (i pc tgt : Nat) {a : Int32} {off : Int} (hi : tb[i]? = some (pc, .ifCond .ge off, 3)) (ht : (pc : Int) + off = (tgt : Int)) (kt : 0 ≤ a → Wx x nL ce sl ws lv tgt st) (kf : ¬ 0 ≤ a → Wx x nL ce sl ws lv (pc + 3) st) : Wx x nL ce sl ws lv pc (.int a :: st) := by
  obtain ⟨p, l, e, R, s, m, args, below, meth, c, Q, A, D, k, g⟩ := x
  obtain ⟨⟨hx, hb, hml, hown, hts⟩, htb, hR, hA, hK, hlk, hE⟩ := C
  intro H locs ls hP hD hS hl
  exact lv_if_ge hx hb (tb_at htb hi) ht (fun q => kt q H locs ls hP hD hS hl) (fun q => kf q H locs ls hP hD hS hl)

theorem x_if_gt (C : Cx x cc tb nL own Ts rm) (i pc tgt : Nat) {a : Int32} {off : Int} (hi : tb[i]? = some (pc, .ifCond .gt off, 3)) (ht : (pc : Int) + off = (tgt : Int)) (kt : 0 < a → Wx x nL ce sl ws lv tgt st) (kf : ¬ 0 < a → Wx x nL ce sl ws lv (pc + 3) st) : Wx x nL ce sl ws lv pc (.int a :: st) := by
  obtain ⟨p, l, e, R, s, m, args, below, meth, c, Q, A, D, k, g⟩ := x
  obtain ⟨⟨hx, hb, hml, hown, hts⟩, htb, hR, hA, hK, hlk, hE⟩ := C
  intro H locs ls hP hD hS hl
  exact lv_if_gt hx hb (tb_at htb hi) ht (fun q => kt q H locs ls hP hD hS hl) (fun q => kf q H locs ls hP hD hS hl)

theorem x_if_le (C : Cx x cc tb nL own Ts rm) (i pc tgt : Nat) {a : Int32} {off : Int} (hi : tb[i]? = some (pc, .ifCond .le off, 3)) (ht : (pc : Int) + off = (tgt : Int)) (kt : a ≤ 0 → Wx x nL ce sl ws lv tgt st) (kf : ¬ a ≤ 0 → Wx x nL ce sl ws lv (pc + 3) st) : Wx x nL ce sl ws lv pc (.int a :: st) := by
  obtain ⟨p, l, e, R, s, m, args, below, meth, c, Q, A, D, k, g⟩ := x
  obtain ⟨⟨hx, hb, hml, hown, hts⟩, htb, hR, hA, hK, hlk, hE⟩ := C
  intro H locs ls hP hD hS hl
  exact lv_if_le hx hb (tb_at htb hi) ht (fun q => kt q H locs ls hP hD hS hl) (fun q => kf q H locs ls hP hD hS hl)

theorem x_icmp_eq (C : Cx x cc tb nL own Ts rm) (i pc tgt : Nat) {a b : Int32} {off : Int} (hi : tb[i]? = some (pc, .if_icmp .eq off, 3)) (ht : (pc : Int) + off = (tgt : Int)) (kt : a = b → Wx x nL ce sl ws lv tgt st) (kf : ¬ a = b → Wx x nL ce sl ws lv (pc + 3) st) : Wx x nL ce sl ws lv pc (.int b :: .int a :: st) := by
  obtain ⟨p, l, e, R, s, m, args, below, meth, c, Q, A, D, k, g⟩ := x
  obtain ⟨⟨hx, hb, hml, hown, hts⟩, htb, hR, hA, hK, hlk, hE⟩ := C
  intro H locs ls hP hD hS hl
  exact lv_icmp_eq hx hb (tb_at htb hi) ht (fun q => kt q H locs ls hP hD hS hl) (fun q => kf q H locs ls hP hD hS hl)

theorem x_icmp_ne (C : Cx x cc tb nL own Ts rm) (i pc tgt : Nat) {a b : Int32} {off : Int} (hi : tb[i]? = some (pc, .if_icmp .ne off, 3)) (ht : (pc : Int) + off = (tgt : Int)) (kt : ¬ a = b → Wx x nL ce sl ws lv tgt st) (kf : a = b → Wx x nL ce sl ws lv (pc + 3) st) : Wx x nL ce sl ws lv pc (.int b :: .int a :: st) := by
  obtain ⟨p, l, e, R, s, m, args, below, meth, c, Q, A, D, k, g⟩ := x
  obtain ⟨⟨hx, hb, hml, hown, hts⟩, htb, hR, hA, hK, hlk, hE⟩ := C
  intro H locs ls hP hD hS hl
  exact lv_icmp_ne hx hb (tb_at htb hi) ht (fun q => kt q H locs ls hP hD hS hl) (fun q => kf q H locs ls hP hD hS hl)

theorem x_icmp_lt (C : Cx x cc tb nL own Ts rm) (i pc tgt : Nat) {a b : Int32} {off : Int} (hi : tb[i]? = some (pc, .if_icmp .lt off, 3)) (ht : (pc : Int) + off = (tgt : Int)) (kt : a < b → Wx x nL ce sl ws lv tgt st) (kf : ¬ a < b → Wx x nL ce sl ws lv (pc + 3) st) : Wx x nL ce sl ws lv pc (.int b :: .int a :: st) := by
  obtain ⟨p, l, e, R, s, m, args, below, meth, c, Q, A, D, k, g⟩ := x
  obtain ⟨⟨hx, hb, hml, hown, hts⟩, htb, hR, hA, hK, hlk, hE⟩ := C
  intro H locs ls hP hD hS hl
  exact lv_icmp_lt hx hb (tb_at htb hi) ht (fun q => kt q H locs ls hP hD hS hl) (fun q => kf q H locs ls hP hD hS hl)

theorem x_icmp_ge (C : Cx x cc tb nL own Ts rm) (i pc tgt : Nat) {a b : Int32} {off : Int} (hi : tb[i]? = some (pc, .if_icmp .ge off, 3)) (ht : (pc : Int) + off = (tgt : Int)) (kt : b ≤ a → Wx x nL ce sl ws lv tgt st) (kf : ¬ b ≤ a → Wx x nL ce sl ws lv (pc + 3) st) : Wx x nL ce sl ws lv pc (.int b :: .int a :: st) := by
  obtain ⟨p, l, e, R, s, m, args, below, meth, c, Q, A, D, k, g⟩ := x
  obtain ⟨⟨hx, hb, hml, hown, hts⟩, htb, hR, hA, hK, hlk, hE⟩ := C
  intro H locs ls hP hD hS hl
  exact lv_icmp_ge hx hb (tb_at htb hi) ht (fun q => kt q H locs ls hP hD hS hl) (fun q => kf q H locs ls hP hD hS hl)

theorem x_icmp_gt (C : Cx x cc tb nL own Ts rm) (i pc tgt : Nat) {a b : Int32} {off : Int} (hi : tb[i]? = some (pc, .if_icmp .gt off, 3)) (ht : (pc : Int) + off = (tgt : Int)) (kt : b < a → Wx x nL ce sl ws lv tgt st) (kf : ¬ b < a → Wx x nL ce sl ws lv (pc + 3) st) : Wx x nL ce sl ws lv pc (.int b :: .int a :: st) := by
  obtain ⟨p, l, e, R, s, m, args, below, meth, c, Q, A, D, k, g⟩ := x
  obtain ⟨⟨hx, hb, hml, hown, hts⟩, htb, hR, hA, hK, hlk, hE⟩ := C
  intro H locs ls hP hD hS hl
  exact lv_icmp_gt hx hb (tb_at htb hi) ht (fun q => kt q H locs ls hP hD hS hl) (fun q => kf q H locs ls hP hD hS hl)

theorem x_icmp_le (C : Cx x cc tb nL own Ts rm) (i pc tgt : Nat) {a b : Int32} {off : Int} (hi : tb[i]? = some (pc, .if_icmp .le off, 3)) (ht : (pc : Int) + off = (tgt : Int)) (kt : a ≤ b → Wx x nL ce sl ws lv tgt st) (kf : ¬ a ≤ b → Wx x nL ce sl ws lv (pc + 3) st) : Wx x nL ce sl ws lv pc (.int b :: .int a :: st) := by
  obtain ⟨p, l, e, R, s, m, args, below, meth, c, Q, A, D, k, g⟩ := x
  obtain ⟨⟨hx, hb, hml, hown, hts⟩, htb, hR, hA, hK, hlk, hE⟩ := C
  intro H locs ls hP hD hS hl
  exact lv_icmp_le hx hb (tb_at htb hi) ht (fun q => kt q H locs ls hP hD hS hl) (fun q => kf q H locs ls hP hD hS hl)

theorem x_tabIn (C : Cx x cc tb nL own Ts rm) (i pc tgt j : Nat) {dflt lo hi' : Int} {offs : Array Int} {len : Nat} {a : Int32} {off : Int} (hi : tb[i]? = some (pc, .tableswitch dflt lo hi' offs, len)) (v : Int32) (ha : a = v) (hv : v.toInt = lo + j) (hj : lo + j ≤ hi') (ho : offs[j]? = some off) (ht : (pc : Int) + off = (tgt : Int)) (h : Wx x nL ce sl ws lv tgt st) : Wx x nL ce sl ws lv pc (.int a :: st) := by
  obtain ⟨p, l, e, R, s, m, args, below, meth, c, Q, A, D, k, g⟩ := x
  obtain ⟨⟨hx, hb, hml, hown, hts⟩, htb, hR, hA, hK, hlk, hE⟩ := C
  intro H locs ls hP hD hS hl
  subst ha
  refine lv_tableIn hx hb (tb_at htb hi) (by omega) (by omega) (off := off) ?_ ht (h H locs ls hP hD hS hl)
  rw [hv, show (lo + (j : Int) - lo).toNat = j by omega]
  exact ho
theorem x_tabOut (C : Cx x cc tb nL own Ts rm) (i pc tgt : Nat) {dflt lo hi' : Int} {offs : Array Int} {len : Nat} {a : Int32} (hi : tb[i]? = some (pc, .tableswitch dflt lo hi' offs, len)) (ha : a.toInt < lo ∨ hi' < a.toInt) (ht : (pc : Int) + dflt = (tgt : Int)) (h : Wx x nL ce sl ws lv tgt st) : Wx x nL ce sl ws lv pc (.int a :: st) := by
  obtain ⟨p, l, e, R, s, m, args, below, meth, c, Q, A, D, k, g⟩ := x
  obtain ⟨⟨hx, hb, hml, hown, hts⟩, htb, hR, hA, hK, hlk, hE⟩ := C
  intro H locs ls hP hD hS hl
  exact lv_tableOut hx hb (tb_at htb hi) ha ht (h H locs ls hP hD hS hl)
theorem x_get (C : Cx x cc tb nL own Ts rm) (i pc : Nat) {index ci N a : Nat} {Cn : String} {T : u_T} {fs : List Value} {v : Value} (hi : tb[i]? = some (pc, .getfield index, 3)) (hin : ∀ w ∈ u_ws Cn T N, w ∈ Ts) (q0 : Nat) (he : ws[q0]? = some (a, .inr (ci, fs))) (hc : vwCl[ci]? = some (Cn, T, N)) (f : Nat) (hf : f < N) (hlink : Cond.fieldLink own index (T f).1 (T f).2.1 (T f).2.2.1 ∈ Ts) (hv : fs[f]? = some v) (h : Wx x nL ce sl ws lv (pc + 3) (v :: st)) : Wx x nL ce sl ws lv pc (.ref a :: st) := by
  obtain ⟨p, l, e, R, s, m, args, below, meth, c, Q, A, D, k, g⟩ := x
  obtain ⟨⟨hx, hb, hml, hown, hts⟩, htb, hR, hA, hK, hlk, hE⟩ := C
  intro H locs ls hP hD hS hl
  exact va_get hx hb hts hin hown hK hP q0 he hc f hf (hts _ hlink) (fun _ h9 => h9) hv (tb_at htb hi) (h H locs ls hP hD hS hl)
theorem x_put (C : Cx x cc tb nL own Ts rm) (i pc : Nat) {index ci N a : Nat} {Cn : String} {T : u_T} {fs : List Value} {v : Value} {ws' : va_W} (hi : tb[i]? = some (pc, .putfield index, 3)) (hin : ∀ w ∈ u_ws Cn T N, w ∈ Ts) (ty0 : Nat → FieldType) (hty : ∀ k, k < N → parseFieldDescriptor (T k).2.2.1 = some (ty0 k)) (hnm : ∀ a, a < N → ∀ b, b < N → a ≠ b → (T a).2.1 ≠ (T b).2.1) (q0 : Nat) (he : ws[q0]? = some (a, .inr (ci, fs))) (hc : vwCl[ci]? = some (Cn, T, N)) (f : Nat) (hf : f < N) (hlink : Cond.fieldLink own index (T f).1 (T f).2.1 (T f).2.2.1 ∈ Ts) (hfin : (T f).2.2.2 = false) (hn : narrow (ty0 f) v = v) (hfit : fits (ty0 f) v = true) (hl0 : f < fs.length) (hw : ws.set q0 (a, .inr (ci, fs.set f v)) = ws') (h : Wx x nL ce sl ws' lv (pc + 3) st) : Wx x nL ce sl ws lv pc (v :: .ref a :: st) := by
  obtain ⟨p, l, e, R, s, m, args, below, meth, c, Q, A, D, k, g⟩ := x
  obtain ⟨⟨hx, hb, hml, hown, hts⟩, htb, hR, hA, hK, hlk, hE⟩ := C
  intro H locs ls hP hD hS hl
  exact va_put hx hb hts hin ty0 hty hnm hown hK hP hD hS q0 he hc f hf (hts _ hlink) (fun _ h9 => h9) hfin (hty f hf) hn hfit hl0 (tb_at htb hi) (fun H1 locs1 hP1 hD1 hS1 => h H1 locs1 ls (hw ▸ hP1) (hw ▸ hD1) hS1 hl)
theorem x_iald (C : Cx x cc tb nL own Ts rm) (i pc : Nat) {a n : Nat} {f : Nat → Int32} {j : Int32} (hi : tb[i]? = some (pc, .iaload, 1)) (q0 : Nat) (ha : ws[q0]? = some (a, .inl ((xk x).1, n, .inl f))) (hin : vp_in j n) (h : Wx x nL ce sl ws lv (pc + 1) (.int (f j.toNatClampNeg) :: st)) : Wx x nL ce sl ws lv pc (.int j :: .ref a :: st) := by
  obtain ⟨p, l, e, R, s, m, args, below, meth, c, Q, A, D, k, g⟩ := x
  obtain ⟨⟨hx, hb, hml, hown, hts⟩, htb, hR, hA, hK, hlk, hE⟩ := C
  intro H locs ls hP hD hS hl
  exact va_iald hx hb hK hP q0 0 ha rfl hin (tb_at htb hi) (h H locs ls hP hD hS hl)
theorem x_iast (C : Cx x cc tb nL own Ts rm) (i pc : Nat) {a n : Nat} {f : Nat → Int32} {j v : Int32} {ws' : va_W} (hi : tb[i]? = some (pc, .iastore, 1)) (q0 : Nat) (ha : ws[q0]? = some (a, .inl ((xk x).1, n, .inl f))) (hin : vp_in j n) (hw : ws.set q0 (a, .inl ((xk x).1, n, .inl (upd f j.toNatClampNeg v))) = ws') (h : Wx x nL ce sl ws' lv (pc + 1) st) : Wx x nL ce sl ws lv pc (.int v :: .int j :: .ref a :: st) := by
  obtain ⟨p, l, e, R, s, m, args, below, meth, c, Q, A, D, k, g⟩ := x
  obtain ⟨⟨hx, hb, hml, hown, hts⟩, htb, hR, hA, hK, hlk, hE⟩ := C
  intro H locs ls hP hD hS hl
  exact va_iast hx hb hK hP hD hS q0 0 ha rfl hin (tb_at htb hi) (fun H1 locs1 hP1 hD1 hS1 => h H1 locs1 ls (hw ▸ hP1) (hw ▸ hD1) hS1 hl)
theorem x_zald (C : Cx x cc tb nL own Ts rm) (i pc : Nat) {a n : Nat} {f : Nat → Int32} {j : Int32} (hi : tb[i]? = some (pc, .baload, 1)) (q0 : Nat) (ha : ws[q0]? = some (a, .inl ((xk x).2, n, .inl f))) (hin : vp_in j n) (h : Wx x nL ce sl ws lv (pc + 1) (.int (f j.toNatClampNeg) :: st)) : Wx x nL ce sl ws lv pc (.int j :: .ref a :: st) := by
  obtain ⟨p, l, e, R, s, m, args, below, meth, c, Q, A, D, k, g⟩ := x
  obtain ⟨⟨hx, hb, hml, hown, hts⟩, htb, hR, hA, hK, hlk, hE⟩ := C
  intro H locs ls hP hD hS hl
  exact va_zald hx hb hK hP q0 1 ha rfl hin (tb_at htb hi) (h H locs ls hP hD hS hl)
theorem x_zast (C : Cx x cc tb nL own Ts rm) (i pc : Nat) {a n : Nat} {f : Nat → Int32} {j v : Int32} {ws' : va_W} (hi : tb[i]? = some (pc, .bastore, 1)) (q0 : Nat) (ha : ws[q0]? = some (a, .inl ((xk x).2, n, .inl f))) (hin : vp_in j n) (hz : zb v) (hw : ws.set q0 (a, .inl ((xk x).2, n, .inl (upd f j.toNatClampNeg v))) = ws') (h : Wx x nL ce sl ws' lv (pc + 1) st) : Wx x nL ce sl ws lv pc (.int v :: .int j :: .ref a :: st) := by
  obtain ⟨p, l, e, R, s, m, args, below, meth, c, Q, A, D, k, g⟩ := x
  obtain ⟨⟨hx, hb, hml, hown, hts⟩, htb, hR, hA, hK, hlk, hE⟩ := C
  intro H locs ls hP hD hS hl
  exact va_zast hx hb hK hP hD hS q0 1 ha rfl hin (tb_at htb hi) (fun H1 locs1 hP1 hD1 hS1 => by rw [zb_v hz] at hP1 hD1; exact h H1 locs1 ls (hw ▸ hP1) (hw ▸ hD1) hS1 hl)
theorem x_alen (C : Cx x cc tb nL own Ts rm) (i pc : Nat) {a n : Nat} {f : Nat → Int32} {v : Int32} (hi : tb[i]? = some (pc, .arraylength, 1)) (q0 : Nat) (ha : ws[q0]? = some (a, .inl ((xk x).1, n, .inl f))) (hv : Int32.ofNat n = v) (h : Wx x nL ce sl ws lv (pc + 1) (.int v :: st)) : Wx x nL ce sl ws lv pc (.ref a :: st) := by
  obtain ⟨p, l, e, R, s, m, args, below, meth, c, Q, A, D, k, g⟩ := x
  obtain ⟨⟨hx, hb, hml, hown, hts⟩, htb, hR, hA, hK, hlk, hE⟩ := C
  intro H locs ls hP hD hS hl
  exact va_alen hx hb hK hP q0 0 ha (ty := .int) rfl hv (tb_at htb hi) (h H locs ls hP hD hS hl)
theorem x_gets0 (C : Cx x cc tb nL own Ts rm) (i pc : Nat) {index : Nat} (hi : tb[i]? = some (pc, .getstatic index, 3)) (hlink : Cond.fieldLink own index "ShrinkingCalls" "ORDERS" "[I" ∈ Ts) (h : Wx x nL ce sl ws lv (pc + 3) (.ref (xg x 0) :: st)) : Wx x nL ce sl ws lv pc st := by
  obtain ⟨p, l, e, R, s, m, args, below, meth, c, Q, A, D, k, g⟩ := x
  obtain ⟨⟨hx, hb, hml, hown, hts⟩, htb, hR, hA, hK, hlk, hE⟩ := C
  intro H locs ls hP hD hS hl
  exact va_gets hx hb hE.1.1 hS hown (hts _ hlink) (fun _ h9 => h9) (tb_at htb hi) (h H locs ls hP hD hS hl)
theorem x_gets1 (C : Cx x cc tb nL own Ts rm) (i pc : Nat) {index : Nat} (hi : tb[i]? = some (pc, .getstatic index, 3)) (hlink : Cond.fieldLink own index "ShrinkingCalls$Closure" "GAPS" "[I" ∈ Ts) (h : Wx x nL ce sl ws lv (pc + 3) (.ref (xg x 1) :: st)) : Wx x nL ce sl ws lv pc st := by
  obtain ⟨p, l, e, R, s, m, args, below, meth, c, Q, A, D, k, g⟩ := x
  obtain ⟨⟨hx, hb, hml, hown, hts⟩, htb, hR, hA, hK, hlk, hE⟩ := C
  intro H locs ls hP hD hS hl
  exact va_gets hx hb hE.2.1.1 hS hown (hts _ hlink) (fun _ h9 => h9) (tb_at htb hi) (h H locs ls hP hD hS hl)
theorem x_tld0 (C : Cx x cc tb nL own Ts rm) (i pc : Nat) {j : Int32} (hi : tb[i]? = some (pc, .iaload, 1)) (hin : vp_in j 16) (h : Wx x nL ce sl ws lv (pc + 1) (.int (ORD j.toNatClampNeg) :: st)) : Wx x nL ce sl ws lv pc (.int j :: .ref (xg x 0) :: st) := by
  obtain ⟨p, l, e, R, s, m, args, below, meth, c, Q, A, D, k, g⟩ := x
  obtain ⟨⟨hx, hb, hml, hown, hts⟩, htb, hR, hA, hK, hlk, hE⟩ := C
  intro H locs ls hP hD hS hl
  exact va_ti hx hb hE.1.2 hS hin rfl (tb_at htb hi) (h H locs ls hP hD hS hl)
theorem x_tld1 (C : Cx x cc tb nL own Ts rm) (i pc : Nat) {j : Int32} (hi : tb[i]? = some (pc, .iaload, 1)) (hin : vp_in j 8) (h : Wx x nL ce sl ws lv (pc + 1) (.int (GAP j.toNatClampNeg) :: st)) : Wx x nL ce sl ws lv pc (.int j :: .ref (xg x 1) :: st) := by
  obtain ⟨p, l, e, R, s, m, args, below, meth, c, Q, A, D, k, g⟩ := x
  obtain ⟨⟨hx, hb, hml, hown, hts⟩, htb, hR, hA, hK, hlk, hE⟩ := C
  intro H locs ls hP hD hS hl
  exact va_ti hx hb hE.2.1.2 hS hin rfl (tb_at htb hi) (h H locs ls hP hD hS hl)
theorem x_tlen0 (C : Cx x cc tb nL own Ts rm) (i pc : Nat) (hi : tb[i]? = some (pc, .arraylength, 1)) (h : Wx x nL ce sl ws lv (pc + 1) (.int 16 :: st)) : Wx x nL ce sl ws lv pc (.ref (xg x 0) :: st) := by
  obtain ⟨p, l, e, R, s, m, args, below, meth, c, Q, A, D, k, g⟩ := x
  obtain ⟨⟨hx, hb, hml, hown, hts⟩, htb, hR, hA, hK, hlk, hE⟩ := C
  intro H locs ls hP hD hS hl
  exact va_tlen hx hb hE.1.2 hS rfl (tb_at htb hi) (h H locs ls hP hD hS hl)
theorem x_tlen1 (C : Cx x cc tb nL own Ts rm) (i pc : Nat) (hi : tb[i]? = some (pc, .arraylength, 1)) (h : Wx x nL ce sl ws lv (pc + 1) (.int 8 :: st)) : Wx x nL ce sl ws lv pc (.ref (xg x 1) :: st) := by
  obtain ⟨p, l, e, R, s, m, args, below, meth, c, Q, A, D, k, g⟩ := x
  obtain ⟨⟨hx, hb, hml, hown, hts⟩, htb, hR, hA, hK, hlk, hE⟩ := C
  intro H locs ls hP hD hS hl
  exact va_tlen hx hb hE.2.1.2 hS rfl (tb_at htb hi) (h H locs ls hP hD hS hl)
theorem x_max (C : Cx x cc tb nL own Ts rm) (i pc : Nat) {index : Nat} {a b : Int32} (hi : tb[i]? = some (pc, .invokestatic index, 3)) (h1 : Cond.methodLink own index Lib.Math.max.name ∈ Ts) (h2 : Cond.static Lib.Math.max.name ∈ Ts) (h3 : Cond.initialized "java/lang/Math" ∈ Ts) (h4 : Cond.code Lib.Math.max.name Lib.Math.max.code 2 (some .int) ∈ Ts) (hf : 1 ≤ rm.frames ∧ (st.map fun v => v.category).sum + 13 ≤ rm.locals) (hc : ce ≤ rm.cells ∧ sl ≤ rm.slots) (h : Wx x nL ce sl ws lv (pc + 3) (.int (if a < b then b else a) :: st)) : Wx x nL ce sl ws lv pc (.int b :: .int a :: st) := by
  obtain ⟨p, l, e, R, s, m, args, below, meth, c, Q, A, D, k, g⟩ := x
  obtain ⟨⟨hx, hb, hml, hown, hts⟩, htb, hR, hA, hK, hlk, hE⟩ := C
  intro H locs ls hP hD hS hl
  subst hR
  exact va_mmax hx hb (hml.trans hl.1.symm) hown (hts _ h1) (hts _ h2) (hts _ h3) (hts _ h4) hf.1 hf.2 hc.1 hc.2 (tb_at htb hi) (h H locs ls hP hD hS hl)
theorem x_min (C : Cx x cc tb nL own Ts rm) (i pc : Nat) {index : Nat} {a b : Int32} (hi : tb[i]? = some (pc, .invokestatic index, 3)) (h1 : Cond.methodLink own index Lib.Math.min.name ∈ Ts) (h2 : Cond.static Lib.Math.min.name ∈ Ts) (h3 : Cond.initialized "java/lang/Math" ∈ Ts) (h4 : Cond.code Lib.Math.min.name Lib.Math.min.code 2 (some .int) ∈ Ts) (hf : 1 ≤ rm.frames ∧ (st.map fun v => v.category).sum + 13 ≤ rm.locals) (hc : ce ≤ rm.cells ∧ sl ≤ rm.slots) (h : Wx x nL ce sl ws lv (pc + 3) (.int (if b < a then b else a) :: st)) : Wx x nL ce sl ws lv pc (.int b :: .int a :: st) := by
  obtain ⟨p, l, e, R, s, m, args, below, meth, c, Q, A, D, k, g⟩ := x
  obtain ⟨⟨hx, hb, hml, hown, hts⟩, htb, hR, hA, hK, hlk, hE⟩ := C
  intro H locs ls hP hD hS hl
  subst hR
  exact va_mmin hx hb (hml.trans hl.1.symm) hown (hts _ h1) (hts _ h2) (hts _ h3) (hts _ h4) hf.1 hf.2 hc.1 hc.2 (tb_at htb hi) (h H locs ls hP hD hS hl)
theorem x_copy (C : Cx x cc tb nL own Ts rm) (i pc : Nat) {index : Nat} (hi : tb[i]? = some (pc, .invokestatic index, 3)) (h1 : Cond.methodLink own index arraycopyName ∈ Ts) (h2 : Cond.native arraycopyName ∈ Ts) (h3 : Cond.static arraycopyName ∈ Ts) (h4 : Cond.initialized "java/lang/System" ∈ Ts) (q0 q1 : Nat) {a0 a1 n0 n1 : Nat} {f0 f1 : Nat → Int32} {ws' : va_W} (ha0 : ws[q0]? = some (a0, .inl ((xk x).1, n0, .inl f0))) (ha1 : ws[q1]? = some (a1, .inl ((xk x).1, n1, .inl f1))) {sp dp n : Int32} (hs : ¬ sp < 0) (hd : ¬ dp < 0) (hn : ¬ n < 0) (h5 : sp.toNatClampNeg + n.toNatClampNeg ≤ n0) (h6 : dp.toNatClampNeg + n.toNatClampNeg ≤ n1) (hf : 1 ≤ rm.frames ∧ (st.map fun v => v.category).sum + (nativeFrameWords "java/lang/System" "arraycopy" 5 + 11) ≤ rm.locals) (hw : ws.set q1 (a1, .inl ((xk x).1, n1, .inl (va_cpy f0 f1 sp.toNatClampNeg dp.toNatClampNeg n.toNatClampNeg))) = ws') (h : Wx x nL ce sl ws' lv (pc + 3) st) : Wx x nL ce sl ws lv pc (.int n :: .int dp :: .ref a1 :: .int sp :: .ref a0 :: st) := by
  obtain ⟨p, l, e, R, s, m, args, below, meth, c, Q, A, D, k, g⟩ := x
  obtain ⟨⟨hx, hb, hml, hown, hts⟩, htb, hR, hA, hK, hlk, hE⟩ := C
  intro H locs ls hP hD hS hl
  subst hR
  exact va_copyi hx hb (hml.trans hl.1.symm) hown (hts _ h1) (hts _ h2) (hts _ h3) (hts _ h4) hK hP hD hS q0 q1 0 0 ha0 ha1 (ty := .int) rfl rfl rfl hs hd hn h5 h6 (fun _ _ => rfl) hf.1 hf.2 (tb_at htb hi) (fun H1 locs1 hP1 hD1 hS1 => h H1 locs1 ls (hw ▸ hP1) (hw ▸ hD1) hS1 hl)
end XR

/-- a contract: from the cells ws to the cells wu u, with the answer -/
def ConI (l : Launch) (y : MethodName) (wsc : List Cond) (rm : Room) (D : va_G) (k : ClassId × ClassId) (g : Nat → Nat) (av : List Value) (ws : va_W) {S : Type} (wu : S → va_W) (post : Int32 → S → Prop) : Prop :=
  ∀ sz : Nat, Met l y wsc rm (va_Pc av (fun U => U.heap.size = sz ∧ va_P D vwCl ws U.heap ∧ va_K D vwCl (tyL k) U ∧ va_D (fun _ => True) ws ∧ EXT g (va_A ws sz) U U.heap)) (va_Qi post (fun u t => va_P D vwCl (wu u) t.heap ∧ va_D (va_A ws sz) (wu u)) (va_A ws sz)) rm.cells rm.slots (va_A ws sz)
def RetI (x : CT) (ce sl : Nat) {S : Type} (wu : S → va_W) (post : Int32 → S → Prop) : Prop := match x with
  | (p, l, e, R, s, m, args, below, meth, c, Q, A, D, k, g) => meth.sig.returnType = some .int ∧ Q = MQ below (va_Qi post (fun u t => va_P D vwCl (wu u) t.heap ∧ va_D A (wu u)) A) args s ce sl A
theorem ConI.of {l : Launch} {y : MethodName} {wsc ws' : List Cond} {rm : Room} {D : va_G} {k : ClassId × ClassId} {g : Nat → Nat} {av : List Value} {ws : va_W} {S : Type} {wu : S → va_W} {post : Int32 → S → Prop} {cc : ByteArray} {tb : Tb} {nL : Nat} (hy : plainName y.cls = true) (hw : wsc = Cond.code y cc nL (some .int) :: ws') (htb : tbOk cc tb = true) (hn : (lg_sl av).length ≤ nL)
    (body : ∀ x : CT, xl x = l → xD x = D → xk x = k → xg x = g → Cx x cc tb nL y.cls wsc rm → RetI x rm.cells rm.slots wu post → Wx x nL 0 0 ws (lv_args 0 av) 0 []) : ConI l y wsc rm D k g av ws wu post := by
  intro sz
  refine Met.ofW (cc := cc) (maxL := nL) (ret := some .int) hy hw ?_
  intro p e s m args below meth c s₁ B hml hv
  obtain ⟨rfl, hsz, hP, hK, hD0, hE⟩ := hv
  have hts := atoms_spec (ws := wsc) B.pre
  have hown : s.vm.findClass y.cls = some m.cls := findClass_of_methodNamed B.named
  subst hsz
  have hl := lv_entry av (n := nL) hn
  rw [lg_entry_eq]
  exact body (p, l, e, rm, s, m, av.toArray, below, meth, c, _, va_A ws s.heap.size, D, k, g) rfl rfl rfl rfl ⟨⟨B.exec, B.bytes, hml, hown, hts⟩, htb, rfl, fun q h => Or.inr h, hK, B.notSynchronized, hE⟩ ⟨B.returns, rfl⟩ s.heap [] _ hP hD0.self va_S.rf hl

/-- a contract: from the cells ws to the cells wu u, with the answer -/
def ConZ (l : Launch) (y : MethodName) (wsc : List Cond) (rm : Room) (D : va_G) (k : ClassId × ClassId) (g : Nat → Nat) (av : List Value) (ws : va_W) {S : Type} (wu : S → va_W) (post : Int32 → S → Prop) : Prop :=
  ∀ sz : Nat, Met l y wsc rm (va_Pc av (fun U => U.heap.size = sz ∧ va_P D vwCl ws U.heap ∧ va_K D vwCl (tyL k) U ∧ va_D (fun _ => True) ws ∧ EXT g (va_A ws sz) U U.heap)) (va_Qi post (fun u t => va_P D vwCl (wu u) t.heap ∧ va_D (va_A ws sz) (wu u)) (va_A ws sz)) rm.cells rm.slots (va_A ws sz)
def RetZ (x : CT) (ce sl : Nat) {S : Type} (wu : S → va_W) (post : Int32 → S → Prop) : Prop := match x with
  | (p, l, e, R, s, m, args, below, meth, c, Q, A, D, k, g) => meth.sig.returnType = some .boolean ∧ Q = MQ below (va_Qi post (fun u t => va_P D vwCl (wu u) t.heap ∧ va_D A (wu u)) A) args s ce sl A
theorem ConZ.of {l : Launch} {y : MethodName} {wsc ws' : List Cond} {rm : Room} {D : va_G} {k : ClassId × ClassId} {g : Nat → Nat} {av : List Value} {ws : va_W} {S : Type} {wu : S → va_W} {post : Int32 → S → Prop} {cc : ByteArray} {tb : Tb} {nL : Nat} (hy : plainName y.cls = true) (hw : wsc = Cond.code y cc nL (some .boolean) :: ws') (htb : tbOk cc tb = true) (hn : (lg_sl av).length ≤ nL)
    (body : ∀ x : CT, xl x = l → xD x = D → xk x = k → xg x = g → Cx x cc tb nL y.cls wsc rm → RetZ x rm.cells rm.slots wu post → Wx x nL 0 0 ws (lv_args 0 av) 0 []) : ConZ l y wsc rm D k g av ws wu post := by
  intro sz
  refine Met.ofW (cc := cc) (maxL := nL) (ret := some .boolean) hy hw ?_
  intro p e s m args below meth c s₁ B hml hv
  obtain ⟨rfl, hsz, hP, hK, hD0, hE⟩ := hv
  have hts := atoms_spec (ws := wsc) B.pre
  have hown : s.vm.findClass y.cls = some m.cls := findClass_of_methodNamed B.named
  subst hsz
  have hl := lv_entry av (n := nL) hn
  rw [lg_entry_eq]
  exact body (p, l, e, rm, s, m, av.toArray, below, meth, c, _, va_A ws s.heap.size, D, k, g) rfl rfl rfl rfl ⟨⟨B.exec, B.bytes, hml, hown, hts⟩, htb, rfl, fun q h => Or.inr h, hK, B.notSynchronized, hE⟩ ⟨B.returns, rfl⟩ s.heap [] _ hP hD0.self va_S.rf hl

/-- a contract: from the cells ws to the cells wu u, with the answer -/
def ConL (l : Launch) (y : MethodName) (wsc : List Cond) (rm : Room) (D : va_G) (k : ClassId × ClassId) (g : Nat → Nat) (av : List Value) (ws : va_W) {S : Type} (wu : S → va_W) (post : Int64 → S → Prop) : Prop :=
  ∀ sz : Nat, Met l y wsc rm (va_Pc av (fun U => U.heap.size = sz ∧ va_P D vwCl ws U.heap ∧ va_K D vwCl (tyL k) U ∧ va_D (fun _ => True) ws ∧ EXT g (va_A ws sz) U U.heap)) (va_Ql post (fun u t => va_P D vwCl (wu u) t.heap ∧ va_D (va_A ws sz) (wu u)) (va_A ws sz)) rm.cells rm.slots (va_A ws sz)
def RetL (x : CT) (ce sl : Nat) {S : Type} (wu : S → va_W) (post : Int64 → S → Prop) : Prop := match x with
  | (p, l, e, R, s, m, args, below, meth, c, Q, A, D, k, g) => meth.sig.returnType = some .long ∧ Q = MQ below (va_Ql post (fun u t => va_P D vwCl (wu u) t.heap ∧ va_D A (wu u)) A) args s ce sl A
theorem ConL.of {l : Launch} {y : MethodName} {wsc ws' : List Cond} {rm : Room} {D : va_G} {k : ClassId × ClassId} {g : Nat → Nat} {av : List Value} {ws : va_W} {S : Type} {wu : S → va_W} {post : Int64 → S → Prop} {cc : ByteArray} {tb : Tb} {nL : Nat} (hy : plainName y.cls = true) (hw : wsc = Cond.code y cc nL (some .long) :: ws') (htb : tbOk cc tb = true) (hn : (lg_sl av).length ≤ nL)
    (body : ∀ x : CT, xl x = l → xD x = D → xk x = k → xg x = g → Cx x cc tb nL y.cls wsc rm → RetL x rm.cells rm.slots wu post → Wx x nL 0 0 ws (lv_args 0 av) 0 []) : ConL l y wsc rm D k g av ws wu post := by
  intro sz
  refine Met.ofW (cc := cc) (maxL := nL) (ret := some .long) hy hw ?_
  intro p e s m args below meth c s₁ B hml hv
  obtain ⟨rfl, hsz, hP, hK, hD0, hE⟩ := hv
  have hts := atoms_spec (ws := wsc) B.pre
  have hown : s.vm.findClass y.cls = some m.cls := findClass_of_methodNamed B.named
  subst hsz
  have hl := lv_entry av (n := nL) hn
  rw [lg_entry_eq]
  exact body (p, l, e, rm, s, m, av.toArray, below, meth, c, _, va_A ws s.heap.size, D, k, g) rfl rfl rfl rfl ⟨⟨B.exec, B.bytes, hml, hown, hts⟩, htb, rfl, fun q h => Or.inr h, hK, B.notSynchronized, hE⟩ ⟨B.returns, rfl⟩ s.heap [] _ hP hD0.self va_S.rf hl

/-- a contract: from the cells ws to the cells wu u, with the answer -/
def ConV (l : Launch) (y : MethodName) (wsc : List Cond) (rm : Room) (D : va_G) (k : ClassId × ClassId) (g : Nat → Nat) (av : List Value) (ws : va_W) {S : Type} (wu : S → va_W) (post : S → Prop) : Prop :=
  ∀ sz : Nat, Met l y wsc rm (va_Pc av (fun U => U.heap.size = sz ∧ va_P D vwCl ws U.heap ∧ va_K D vwCl (tyL k) U ∧ va_D (fun _ => True) ws ∧ EXT g (va_A ws sz) U U.heap)) (va_Qv post (fun u t => va_P D vwCl (wu u) t.heap ∧ va_D (va_A ws sz) (wu u)) (va_A ws sz)) rm.cells rm.slots (va_A ws sz)
def RetV (x : CT) (ce sl : Nat) {S : Type} (wu : S → va_W) (post : S → Prop) : Prop := match x with
  | (p, l, e, R, s, m, args, below, meth, c, Q, A, D, k, g) => meth.sig.returnType = none ∧ Q = MQ below (va_Qv post (fun u t => va_P D vwCl (wu u) t.heap ∧ va_D A (wu u)) A) args s ce sl A
theorem ConV.of {l : Launch} {y : MethodName} {wsc ws' : List Cond} {rm : Room} {D : va_G} {k : ClassId × ClassId} {g : Nat → Nat} {av : List Value} {ws : va_W} {S : Type} {wu : S → va_W} {post : S → Prop} {cc : ByteArray} {tb : Tb} {nL : Nat} (hy : plainName y.cls = true) (hw : wsc = Cond.code y cc nL (none) :: ws') (htb : tbOk cc tb = true) (hn : (lg_sl av).length ≤ nL)
    (body : ∀ x : CT, xl x = l → xD x = D → xk x = k → xg x = g → Cx x cc tb nL y.cls wsc rm → RetV x rm.cells rm.slots wu post → Wx x nL 0 0 ws (lv_args 0 av) 0 []) : ConV l y wsc rm D k g av ws wu post := by
  intro sz
  refine Met.ofW (cc := cc) (maxL := nL) (ret := none) hy hw ?_
  intro p e s m args below meth c s₁ B hml hv
  obtain ⟨rfl, hsz, hP, hK, hD0, hE⟩ := hv
  have hts := atoms_spec (ws := wsc) B.pre
  have hown : s.vm.findClass y.cls = some m.cls := findClass_of_methodNamed B.named
  subst hsz
  have hl := lv_entry av (n := nL) hn
  rw [lg_entry_eq]
  exact body (p, l, e, rm, s, m, av.toArray, below, meth, c, _, va_A ws s.heap.size, D, k, g) rfl rfl rfl rfl ⟨⟨B.exec, B.bytes, hml, hown, hts⟩, htb, rfl, fun q h => Or.inr h, hK, B.notSynchronized, hE⟩ ⟨B.returns, rfl⟩ s.heap [] _ hP hD0.self va_S.rf hl

section XRET
variable {x : CT} {cc : ByteArray} {tb : Tb} {nL : Nat} {own : String} {Ts : List Cond} {rm : Room} {ce sl : Nat} {ws : va_W} {lv : List (Nat × Value)}
theorem x_iret (C : Cx x cc tb nL own Ts rm) {S : Type} {wu : S → va_W} {post : Int32 → S → Prop} (r : RetI x ce sl wu post) (i pc : Nat) {v : Int32} (hi : tb[i]? = some (pc, .ireturn, 1)) (u : S) (hw : wu u = ws) (hp : post v u) : Wx x nL ce sl ws lv pc [.int v] := by
  obtain ⟨p, l, e, R, s, m, args, below, meth, c, Q, A, D, k, g⟩ := x
  obtain ⟨⟨hx, hb, hml, hown, hts⟩, htb, hR, hA, hK, hlk, hE⟩ := C
  obtain ⟨hr, hQ⟩ := r
  subst hQ
  subst hw
  intro H locs ls hP hD hS hl
  exact W.iret hx hb hr (fun t ht hW => ⟨⟨v, u, rfl, hp, by rw [ht]; exact hP, hD⟩, hS.F ht⟩) hS.2.2 (tb_at htb hi) hlk
theorem x_zret (C : Cx x cc tb nL own Ts rm) {S : Type} {wu : S → va_W} {post : Int32 → S → Prop} (r : RetZ x ce sl wu post) (i pc : Nat) {v : Int32} (hi : tb[i]? = some (pc, .ireturn, 1)) (hz : zb v) (u : S) (hw : wu u = ws) (hp : post v u) : Wx x nL ce sl ws lv pc [.int v] := by
  obtain ⟨p, l, e, R, s, m, args, below, meth, c, Q, A, D, k, g⟩ := x
  obtain ⟨⟨hx, hb, hml, hown, hts⟩, htb, hR, hA, hK, hlk, hE⟩ := C
  obtain ⟨hr, hQ⟩ := r
  subst hQ
  subst hw
  intro H locs ls hP hD hS hl
  exact W.zret hx hb hr (zb_n hz) (fun t ht hW => ⟨⟨v, u, rfl, hp, by rw [ht]; exact hP, hD⟩, hS.F ht⟩) hS.2.2 (tb_at htb hi) hlk
theorem x_lret (C : Cx x cc tb nL own Ts rm) {S : Type} {wu : S → va_W} {post : Int64 → S → Prop} (r : RetL x ce sl wu post) (i pc : Nat) {v : Int64} (hi : tb[i]? = some (pc, .lreturn, 1)) (u : S) (hw : wu u = ws) (hp : post v u) : Wx x nL ce sl ws lv pc [.long v] := by
  obtain ⟨p, l, e, R, s, m, args, below, meth, c, Q, A, D, k, g⟩ := x
  obtain ⟨⟨hx, hb, hml, hown, hts⟩, htb, hR, hA, hK, hlk, hE⟩ := C
  obtain ⟨hr, hQ⟩ := r
  subst hQ
  subst hw
  intro H locs ls hP hD hS hl
  exact W.lret hx hb hr (fun t ht hW => ⟨⟨v, u, rfl, hp, by rw [ht]; exact hP, hD⟩, hS.F ht⟩) hS.2.2 (tb_at htb hi) hlk
theorem x_vret (C : Cx x cc tb nL own Ts rm) {S : Type} {wu : S → va_W} {post : S → Prop} (r : RetV x ce sl wu post) (i pc : Nat) (hi : tb[i]? = some (pc, .return_, 1)) (u : S) (hw : wu u = ws) (hp : post u) : Wx x nL ce sl ws lv pc [] := by
  obtain ⟨p, l, e, R, s, m, args, below, meth, c, Q, A, D, k, g⟩ := x
  obtain ⟨⟨hx, hb, hml, hown, hts⟩, htb, hR, hA, hK, hlk, hE⟩ := C
  obtain ⟨hr, hQ⟩ := r
  subst hQ
  subst hw
  intro H locs ls hP hD hS hl
  exact W.vret hx hb hr (fun t ht hW => ⟨⟨u, rfl, hp, by rw [ht]; exact hP, hD⟩, hS.F ht⟩) hS.2.2 (tb_at htb hi) hlk
end XRET
/-- a callee of the one word list: its own code, then all words -/
def calleeOk (WW : List Cond) (y : MethodName) (n : Nat) : Prop := (y.cls ≠ "java/lang/invoke/MethodHandle" ∧ y.cls ≠ "java/lang/invoke/VarHandle" ∧ (parseMethodDescriptor y.desc).map (fun d => d.parameters.length) = some n)
theorem good_ww {WW : List Cond} (hg : WW.all goodWord = true) {a : Cond} {hd : List Cond} {b : Cond} (hh : ∀ w ∈ hd, w ∈ WW) (hb : b ∈ WW) : GoodIn (a :: WW) (hd ++ (b :: WW)) := by
  have all := List.all_eq_true.mp hg
  intro w hw
  rcases List.mem_append.mp hw with h | h
  · exact ⟨List.mem_cons_of_mem _ (hh w h), good_of_word (all w (hh w h))⟩
  · rcases List.mem_cons.mp h with h | h
    · subst h; exact ⟨List.mem_cons_of_mem _ hb, good_of_word (all _ hb)⟩
    · exact ⟨List.mem_cons_of_mem _ h, good_of_word (all w h)⟩
theorem free_kept {D : va_G} {cl : List vw_C} {ws : va_W} {H H1 : Heap} (hP : va_P D cl ws H) (hk : ∀ q : Nat, q < H.size → ¬ va_A [] H.size q → H1[q]? = H[q]?) : va_P D cl ws H1 := hP.kept (fun k q hq => by
  have hl := (hP k q hq).lt
  exact hk q.1 hl (fun h => by rcases h with ⟨k2, e, h⟩ | h
                               · simp at h
                               · omega))
theorem x_callVI {x : CT} {cc : ByteArray} {tb : Tb} {nL : Nat} {own : String} {WW : List Cond} {c0 : Cond} {rm : Room} {ce sl : Nat} {ws wc : va_W} {lv : List (Nat × Value)} {st : List Value} {y : MethodName} {bytes : ByteArray} {maxL index : Nat} {rmc : Room} {b : Nat} {As : List Value} {S : Type} {wu : S → va_W} {post : Int32 → S → Prop} {wr : va_W} {w2 : S → va_W} (C : Cx x cc tb nL own (c0 :: WW) rm) (i pc : Nat) (hM : ConI (xl x) y (Cond.code y bytes maxL (some .int) :: WW) rmc (xD x) (xk x) (xg x) (.ref b :: As) wc wu post) (hi : tb[i]? = some (pc, .invokevirtual index, 3)) (hg : WW.all goodWord = true) (hh : ∀ w ∈ [Cond.methodLink own index y, .instanceMethod y, .selects y.cls y y, .initialized y.cls], w ∈ WW) (hcode : Cond.code y bytes maxL (some .int) ∈ WW) (n : Nat) (hd : calleeOk WW y n) (hn : As.length = n) (hrm : rmc.frames + 1 ≤ rm.frames ∧ 8 + (maxL + 11) + rmc.locals ≤ rm.locals) (hst : (st.map fun v => v.category).sum ≤ 8) (hcs : ce + rmc.cells ≤ rm.cells ∧ sl + rmc.slots ≤ rm.slots) {ci q0 : Nat} {q : vw_C} {fs : List Value} (hci : vwCl[ci]? = some (y.cls, q.2)) (he : wc[q0]? = some (b, .inr (ci, fs))) (isC isR pm : List Nat) (hC : isC.map (fun i => ws[i]?) = wc.map some) (hC2 : isC.filterMap (fun i => ws[i]?) = wc) (hCn : va_nd isC = true) (hRr : isR.map (fun i => ws[i]?) = wr.map some) (hRn : va_nd isR = true) (hdis : ∀ i ∈ isR, i ∉ isC) (hpm : ∀ u, pm.map (fun i => (wr ++ wu u)[i]?) = (w2 u).map some) (hpm2 : ∀ u, pm.filterMap (fun i => (wr ++ wu u)[i]?) = w2 u) (hpn : va_nd pm = true)
    (h : ∀ (r : Int32) (u : S), post r u → Wx x nL (ce + rmc.cells) (sl + rmc.slots) (w2 u) lv (pc + 3) (.int r :: st)) : Wx x nL ce sl ws lv pc (As.reverse ++ .ref b :: st) := by
  obtain ⟨p, l, e, R, s, m, args, below, meth, c, Q, A, D, k, g⟩ := x
  obtain ⟨⟨hx, hb, hml, hown, hts⟩, htb, hR, hA, hK, hlk, hE⟩ := C
  intro H locs ls hP hD hS hl
  subst hR
  have hPc := hP.sub (ws' := wc) isC hC2
  have hDc := hD.sub (ws' := wc) isC hCn hC
  have hKc := hK
  have hFc := va_free (wc := wc) hD hS hA isC hC
  have hEc : EXT g (va_A wc H.size) s H := (hE.kept (fun a h1 h2 => hS.2.1 a h1 h2)).narrow hFc
  refine va_calli (va_runV (As := As) (rest := st) ⟨hx, hb, hml, hown, hts⟩ (hM H.size) (cwV n hts (good_ww hg hh hcode) rfl rfl rfl ⟨rfl, hd⟩ hrm) ⟨fun a U gf mk q => by obtain ⟨z0, z1, zP, zK, zD, zE⟩ := q; exact ⟨z0, z1, zP, va_K.moved (u := U) (U := U.calling gf mk a) (Vm.Alike.refl U.vm) zK, zD, zE.calling⟩, va_recv hKc hPc (ci := ci) (q0 := q0) hci he, fun U hU hW => ⟨rfl, by rw [hU], by rw [hU]; exact hPc, va_K.moved hW.alike hKc, hDc.weaken (fun _ _ _ _ => trivial), by rw [hU]; exact hEc.warm hW⟩⟩ rfl hn hl.1 rfl (lv_room hst) (tb_at htb hi) hcs) hS (fun q _ h => hFc q h) hFc (fun r u t H1 locs1 ht hvm hw hB hz1 hk1 hS1 => ?_)
  obtain ⟨hP1, hD1⟩ := hB
  rw [ht] at hP1
  obtain ⟨hP2, hD2⟩ := va_join (wr := wr) (w1 := wu u) hP hD isC isR hC hRr hRn hdis hk1 hFc hP1 hD1
  exact h r u hw H1 locs1 ls (hP2.sub pm (hpm2 u)) (hD2.sub pm hpn (hpm u)) hS1 hl

theorem x_callWVI {x : CT} {cc : ByteArray} {tb : Tb} {nL : Nat} {own : String} {WW : List Cond} {c0 : Cond} {rm : Room} {ce sl : Nat} {ws wc : va_W} {lv : List (Nat × Value)} {st : List Value} {y : MethodName} {bytes : ByteArray} {maxL index : Nat} {rmc : Room} {b : Nat} {As : List Value} {S : Type} {wu : S → va_W} {post : Int32 → S → Prop} (C : Cx x cc tb nL own (c0 :: WW) rm) (i pc : Nat) (hM : ConI (xl x) y (Cond.code y bytes maxL (some .int) :: WW) rmc (xD x) (xk x) (xg x) (.ref b :: As) wc wu post) (hi : tb[i]? = some (pc, .invokevirtual index, 3)) (hg : WW.all goodWord = true) (hh : ∀ w ∈ [Cond.methodLink own index y, .instanceMethod y, .selects y.cls y y, .initialized y.cls], w ∈ WW) (hcode : Cond.code y bytes maxL (some .int) ∈ WW) (n : Nat) (hd : calleeOk WW y n) (hn : As.length = n) (hrm : rmc.frames + 1 ≤ rm.frames ∧ 8 + (maxL + 11) + rmc.locals ≤ rm.locals) (hst : (st.map fun v => v.category).sum ≤ 8) (hcs : ce + rmc.cells ≤ rm.cells ∧ sl + rmc.slots ≤ rm.slots) {ci q0 : Nat} {q : vw_C} {fs : List Value} (hci : vwCl[ci]? = some (y.cls, q.2)) (he : wc[q0]? = some (b, .inr (ci, fs))) (hws : wc = ws)
    (h : ∀ (r : Int32) (u : S), post r u → Wx x nL (ce + rmc.cells) (sl + rmc.slots) (wu u) lv (pc + 3) (.int r :: st)) : Wx x nL ce sl ws lv pc (As.reverse ++ .ref b :: st) := by
  obtain ⟨p, l, e, R, s, m, args, below, meth, c, Q, A, D, k, g⟩ := x
  obtain ⟨⟨hx, hb, hml, hown, hts⟩, htb, hR, hA, hK, hlk, hE⟩ := C
  intro H locs ls hP hD hS hl
  subst hR
  subst hws
  have hPc := hP
  have hDc := hD
  have hKc := hK
  have hFc : ∀ q, va_A wc H.size q → A q := fun q h => by rcases h with ⟨k, e, h⟩ | h; exact hD.2 k (q, e) h; exact hA q (Nat.le_trans hS.1 h)
  have hEc : EXT g (va_A wc H.size) s H := (hE.kept (fun a h1 h2 => hS.2.1 a h1 h2)).narrow hFc
  refine va_calli (va_runV (As := As) (rest := st) ⟨hx, hb, hml, hown, hts⟩ (hM H.size) (cwV n hts (good_ww hg hh hcode) rfl rfl rfl ⟨rfl, hd⟩ hrm) ⟨fun a U gf mk q => by obtain ⟨z0, z1, zP, zK, zD, zE⟩ := q; exact ⟨z0, z1, zP, va_K.moved (u := U) (U := U.calling gf mk a) (Vm.Alike.refl U.vm) zK, zD, zE.calling⟩, va_recv hKc hPc (ci := ci) (q0 := q0) hci he, fun U hU hW => ⟨rfl, by rw [hU], by rw [hU]; exact hPc, va_K.moved hW.alike hKc, hDc.weaken (fun _ _ _ _ => trivial), by rw [hU]; exact hEc.warm hW⟩⟩ rfl hn hl.1 rfl (lv_room hst) (tb_at htb hi) hcs) hS (fun q _ h => hFc q h) hFc (fun r u t H1 locs1 ht hvm hw hB hz1 hk1 hS1 => ?_)
  obtain ⟨hP1, hD1⟩ := hB
  rw [ht] at hP1
  exact h r u hw H1 locs1 ls hP1 (hD1.weaken (fun _ q _ h => hFc q.1 h)) hS1 hl

theorem x_callSI {x : CT} {cc : ByteArray} {tb : Tb} {nL : Nat} {own : String} {WW : List Cond} {c0 : Cond} {rm : Room} {ce sl : Nat} {ws wc : va_W} {lv : List (Nat × Value)} {st : List Value} {y : MethodName} {bytes : ByteArray} {maxL index : Nat} {rmc : Room} {As : List Value} {S : Type} {wu : S → va_W} {post : Int32 → S → Prop} {wr : va_W} {w2 : S → va_W} (C : Cx x cc tb nL own (c0 :: WW) rm) (i pc : Nat) (hM : ConI (xl x) y (Cond.code y bytes maxL (some .int) :: WW) rmc (xD x) (xk x) (xg x) As wc wu post) (hi : tb[i]? = some (pc, .invokestatic index, 3)) (hg : WW.all goodWord = true) (hh : ∀ w ∈ [Cond.methodLink own index y, .static y, .initialized y.cls], w ∈ WW) (hcode : Cond.code y bytes maxL (some .int) ∈ WW) (n : Nat) (hd : calleeOk WW y n) (hn : As.length = n) (hrm : rmc.frames + 1 ≤ rm.frames ∧ 8 + (maxL + 11) + rmc.locals ≤ rm.locals) (hst : (st.map fun v => v.category).sum ≤ 8) (hcs : ce + rmc.cells ≤ rm.cells ∧ sl + rmc.slots ≤ rm.slots) (isC isR pm : List Nat) (hC : isC.map (fun i => ws[i]?) = wc.map some) (hC2 : isC.filterMap (fun i => ws[i]?) = wc) (hCn : va_nd isC = true) (hRr : isR.map (fun i => ws[i]?) = wr.map some) (hRn : va_nd isR = true) (hdis : ∀ i ∈ isR, i ∉ isC) (hpm : ∀ u, pm.map (fun i => (wr ++ wu u)[i]?) = (w2 u).map some) (hpm2 : ∀ u, pm.filterMap (fun i => (wr ++ wu u)[i]?) = w2 u) (hpn : va_nd pm = true)
    (h : ∀ (r : Int32) (u : S), post r u → Wx x nL (ce + rmc.cells) (sl + rmc.slots) (w2 u) lv (pc + 3) (.int r :: st)) : Wx x nL ce sl ws lv pc (As.reverse ++ st) := by
  obtain ⟨p, l, e, R, s, m, args, below, meth, c, Q, A, D, k, g⟩ := x
  obtain ⟨⟨hx, hb, hml, hown, hts⟩, htb, hR, hA, hK, hlk, hE⟩ := C
  intro H locs ls hP hD hS hl
  subst hR
  have hPc := hP.sub (ws' := wc) isC hC2
  have hDc := hD.sub (ws' := wc) isC hCn hC
  have hKc := hK
  have hFc := va_free (wc := wc) hD hS hA isC hC
  have hEc : EXT g (va_A wc H.size) s H := (hE.kept (fun a h1 h2 => hS.2.1 a h1 h2)).narrow hFc
  refine va_calli (va_runS (As := As) (rest := st) ⟨hx, hb, hml, hown, hts⟩ (hM H.size) (va_cwS n hts (good_ww hg hh hcode) rfl rfl rfl hd hrm) ⟨fun a U gf mk q => by obtain ⟨z0, z1, zP, zK, zD, zE⟩ := q; exact ⟨z0, z1, zP, va_K.moved (u := U) (U := U.calling gf mk a) (Vm.Alike.refl U.vm) zK, zD, zE.calling⟩, fun U hU hW => ⟨rfl, by rw [hU], by rw [hU]; exact hPc, va_K.moved hW.alike hKc, hDc.weaken (fun _ _ _ _ => trivial), by rw [hU]; exact hEc.warm hW⟩⟩ rfl hn hl.1 rfl (lv_room hst) (tb_at htb hi) hcs) hS (fun q _ h => hFc q h) hFc (fun r u t H1 locs1 ht hvm hw hB hz1 hk1 hS1 => ?_)
  obtain ⟨hP1, hD1⟩ := hB
  rw [ht] at hP1
  obtain ⟨hP2, hD2⟩ := va_join (wr := wr) (w1 := wu u) hP hD isC isR hC hRr hRn hdis hk1 hFc hP1 hD1
  exact h r u hw H1 locs1 ls (hP2.sub pm (hpm2 u)) (hD2.sub pm hpn (hpm u)) hS1 hl

theorem x_callWSI {x : CT} {cc : ByteArray} {tb : Tb} {nL : Nat} {own : String} {WW : List Cond} {c0 : Cond} {rm : Room} {ce sl : Nat} {ws wc : va_W} {lv : List (Nat × Value)} {st : List Value} {y : MethodName} {bytes : ByteArray} {maxL index : Nat} {rmc : Room} {As : List Value} {S : Type} {wu : S → va_W} {post : Int32 → S → Prop} (C : Cx x cc tb nL own (c0 :: WW) rm) (i pc : Nat) (hM : ConI (xl x) y (Cond.code y bytes maxL (some .int) :: WW) rmc (xD x) (xk x) (xg x) As wc wu post) (hi : tb[i]? = some (pc, .invokestatic index, 3)) (hg : WW.all goodWord = true) (hh : ∀ w ∈ [Cond.methodLink own index y, .static y, .initialized y.cls], w ∈ WW) (hcode : Cond.code y bytes maxL (some .int) ∈ WW) (n : Nat) (hd : calleeOk WW y n) (hn : As.length = n) (hrm : rmc.frames + 1 ≤ rm.frames ∧ 8 + (maxL + 11) + rmc.locals ≤ rm.locals) (hst : (st.map fun v => v.category).sum ≤ 8) (hcs : ce + rmc.cells ≤ rm.cells ∧ sl + rmc.slots ≤ rm.slots) (hws : wc = ws)
    (h : ∀ (r : Int32) (u : S), post r u → Wx x nL (ce + rmc.cells) (sl + rmc.slots) (wu u) lv (pc + 3) (.int r :: st)) : Wx x nL ce sl ws lv pc (As.reverse ++ st) := by
  obtain ⟨p, l, e, R, s, m, args, below, meth, c, Q, A, D, k, g⟩ := x
  obtain ⟨⟨hx, hb, hml, hown, hts⟩, htb, hR, hA, hK, hlk, hE⟩ := C
  intro H locs ls hP hD hS hl
  subst hR
  subst hws
  have hPc := hP
  have hDc := hD
  have hKc := hK
  have hFc : ∀ q, va_A wc H.size q → A q := fun q h => by rcases h with ⟨k, e, h⟩ | h; exact hD.2 k (q, e) h; exact hA q (Nat.le_trans hS.1 h)
  have hEc : EXT g (va_A wc H.size) s H := (hE.kept (fun a h1 h2 => hS.2.1 a h1 h2)).narrow hFc
  refine va_calli (va_runS (As := As) (rest := st) ⟨hx, hb, hml, hown, hts⟩ (hM H.size) (va_cwS n hts (good_ww hg hh hcode) rfl rfl rfl hd hrm) ⟨fun a U gf mk q => by obtain ⟨z0, z1, zP, zK, zD, zE⟩ := q; exact ⟨z0, z1, zP, va_K.moved (u := U) (U := U.calling gf mk a) (Vm.Alike.refl U.vm) zK, zD, zE.calling⟩, fun U hU hW => ⟨rfl, by rw [hU], by rw [hU]; exact hPc, va_K.moved hW.alike hKc, hDc.weaken (fun _ _ _ _ => trivial), by rw [hU]; exact hEc.warm hW⟩⟩ rfl hn hl.1 rfl (lv_room hst) (tb_at htb hi) hcs) hS (fun q _ h => hFc q h) hFc (fun r u t H1 locs1 ht hvm hw hB hz1 hk1 hS1 => ?_)
  obtain ⟨hP1, hD1⟩ := hB
  rw [ht] at hP1
  exact h r u hw H1 locs1 ls hP1 (hD1.weaken (fun _ q _ h => hFc q.1 h)) hS1 hl

theorem x_call0SI {x : CT} {cc : ByteArray} {tb : Tb} {nL : Nat} {own : String} {WW : List Cond} {c0 : Cond} {rm : Room} {ce sl : Nat} {ws wc : va_W} {lv : List (Nat × Value)} {st : List Value} {y : MethodName} {bytes : ByteArray} {maxL index : Nat} {rmc : Room} {As : List Value} {S : Type} {wu : S → va_W} {post : Int32 → S → Prop} (C : Cx x cc tb nL own (c0 :: WW) rm) (i pc : Nat) (hM : ConI (xl x) y (Cond.code y bytes maxL (some .int) :: WW) rmc (xD x) (xk x) (xg x) As wc wu post) (hi : tb[i]? = some (pc, .invokestatic index, 3)) (hg : WW.all goodWord = true) (hh : ∀ w ∈ [Cond.methodLink own index y, .static y, .initialized y.cls], w ∈ WW) (hcode : Cond.code y bytes maxL (some .int) ∈ WW) (n : Nat) (hd : calleeOk WW y n) (hn : As.length = n) (hrm : rmc.frames + 1 ≤ rm.frames ∧ 8 + (maxL + 11) + rmc.locals ≤ rm.locals) (hst : (st.map fun v => v.category).sum ≤ 8) (hcs : ce + rmc.cells ≤ rm.cells ∧ sl + rmc.slots ≤ rm.slots) (hws : wc = []) 
    (h : ∀ (r : Int32) (u : S), post r u → Wx x nL (ce + rmc.cells) (sl + rmc.slots) ws lv (pc + 3) (.int r :: st)) : Wx x nL ce sl ws lv pc (As.reverse ++ st) := by
  obtain ⟨p, l, e, R, s, m, args, below, meth, c, Q, A, D, k, g⟩ := x
  obtain ⟨⟨hx, hb, hml, hown, hts⟩, htb, hR, hA, hK, hlk, hE⟩ := C
  intro H locs ls hP hD hS hl
  subst hR
  subst hws
  have hPc : va_P D vwCl [] H := fun k q h => by simp at h
  have hDc : va_D A [] := ⟨fun i j p q h => by simp at h, fun k q h => by simp at h⟩
  have hKc := hK
  have hFc : ∀ q, va_A [] H.size q → A q := fun q h => by rcases h with ⟨k, e, h⟩ | h; simp at h; exact hA q (Nat.le_trans hS.1 h)
  have hEc : EXT g (va_A [] H.size) s H := (hE.kept (fun a h1 h2 => hS.2.1 a h1 h2)).narrow hFc
  refine va_calli (va_runS (As := As) (rest := st) ⟨hx, hb, hml, hown, hts⟩ (hM H.size) (va_cwS n hts (good_ww hg hh hcode) rfl rfl rfl hd hrm) ⟨fun a U gf mk q => by obtain ⟨z0, z1, zP, zK, zD, zE⟩ := q; exact ⟨z0, z1, zP, va_K.moved (u := U) (U := U.calling gf mk a) (Vm.Alike.refl U.vm) zK, zD, zE.calling⟩, fun U hU hW => ⟨rfl, by rw [hU], by rw [hU]; exact hPc, va_K.moved hW.alike hKc, hDc.weaken (fun _ _ _ _ => trivial), by rw [hU]; exact hEc.warm hW⟩⟩ rfl hn hl.1 rfl (lv_room hst) (tb_at htb hi) hcs) hS (fun q _ h => hFc q h) hFc (fun r u t H1 locs1 ht hvm hw hB hz1 hk1 hS1 => ?_)
  obtain ⟨hP1, hD1⟩ := hB
  rw [ht] at hP1
  exact h r u hw H1 locs1 ls (free_kept hP hk1) hD hS1 hl

theorem x_callVZ {x : CT} {cc : ByteArray} {tb : Tb} {nL : Nat} {own : String} {WW : List Cond} {c0 : Cond} {rm : Room} {ce sl : Nat} {ws wc : va_W} {lv : List (Nat × Value)} {st : List Value} {y : MethodName} {bytes : ByteArray} {maxL index : Nat} {rmc : Room} {b : Nat} {As : List Value} {S : Type} {wu : S → va_W} {post : Int32 → S → Prop} {wr : va_W} {w2 : S → va_W} (C : Cx x cc tb nL own (c0 :: WW) rm) (i pc : Nat) (hM : ConZ (xl x) y (Cond.code y bytes maxL (some .boolean) :: WW) rmc (xD x) (xk x) (xg x) (.ref b :: As) wc wu post) (hi : tb[i]? = some (pc, .invokevirtual index, 3)) (hg : WW.all goodWord = true) (hh : ∀ w ∈ [Cond.methodLink own index y, .instanceMethod y, .selects y.cls y y, .initialized y.cls], w ∈ WW) (hcode : Cond.code y bytes maxL (some .boolean) ∈ WW) (n : Nat) (hd : calleeOk WW y n) (hn : As.length = n) (hrm : rmc.frames + 1 ≤ rm.frames ∧ 8 + (maxL + 11) + rmc.locals ≤ rm.locals) (hst : (st.map fun v => v.category).sum ≤ 8) (hcs : ce + rmc.cells ≤ rm.cells ∧ sl + rmc.slots ≤ rm.slots) {ci q0 : Nat} {q : vw_C} {fs : List Value} (hci : vwCl[ci]? = some (y.cls, q.2)) (he : wc[q0]? = some (b, .inr (ci, fs))) (isC isR pm : List Nat) (hC : isC.map (fun i => ws[i]?) = wc.map some) (hC2 : isC.filterMap (fun i => ws[i]?) = wc) (hCn : va_nd isC = true) (hRr : isR.map (fun i => ws[i]?) = wr.map some) (hRn : va_nd isR = true) (hdis : ∀ i ∈ isR, i ∉ isC) (hpm : ∀ u, pm.map (fun i => (wr ++ wu u)[i]?) = (w2 u).map some) (hpm2 : ∀ u, pm.filterMap (fun i => (wr ++ wu u)[i]?) = w2 u) (hpn : va_nd pm = true)
    (h : ∀ (r : Int32) (u : S), post r u → Wx x nL (ce + rmc.cells) (sl + rmc.slots) (w2 u) lv (pc + 3) (.int r :: st)) : Wx x nL ce sl ws lv pc (As.reverse ++ .ref b :: st) := by
  obtain ⟨p, l, e, R, s, m, args, below, meth, c, Q, A, D, k, g⟩ := x
  obtain ⟨⟨hx, hb, hml, hown, hts⟩, htb, hR, hA, hK, hlk, hE⟩ := C
  intro H locs ls hP hD hS hl
  subst hR
  have hPc := hP.sub (ws' := wc) isC hC2
  have hDc := hD.sub (ws' := wc) isC hCn hC
  have hKc := hK
  have hFc := va_free (wc := wc) hD hS hA isC hC
  have hEc : EXT g (va_A wc H.size) s H := (hE.kept (fun a h1 h2 => hS.2.1 a h1 h2)).narrow hFc
  refine va_calli (va_runV (As := As) (rest := st) ⟨hx, hb, hml, hown, hts⟩ (hM H.size) (cwV n hts (good_ww hg hh hcode) rfl rfl rfl ⟨rfl, hd⟩ hrm) ⟨fun a U gf mk q => by obtain ⟨z0, z1, zP, zK, zD, zE⟩ := q; exact ⟨z0, z1, zP, va_K.moved (u := U) (U := U.calling gf mk a) (Vm.Alike.refl U.vm) zK, zD, zE.calling⟩, va_recv hKc hPc (ci := ci) (q0 := q0) hci he, fun U hU hW => ⟨rfl, by rw [hU], by rw [hU]; exact hPc, va_K.moved hW.alike hKc, hDc.weaken (fun _ _ _ _ => trivial), by rw [hU]; exact hEc.warm hW⟩⟩ rfl hn hl.1 rfl (lv_room hst) (tb_at htb hi) hcs) hS (fun q _ h => hFc q h) hFc (fun r u t H1 locs1 ht hvm hw hB hz1 hk1 hS1 => ?_)
  obtain ⟨hP1, hD1⟩ := hB
  rw [ht] at hP1
  obtain ⟨hP2, hD2⟩ := va_join (wr := wr) (w1 := wu u) hP hD isC isR hC hRr hRn hdis hk1 hFc hP1 hD1
  exact h r u hw H1 locs1 ls (hP2.sub pm (hpm2 u)) (hD2.sub pm hpn (hpm u)) hS1 hl

theorem x_callWVZ {x : CT} {cc : ByteArray} {tb : Tb} {nL : Nat} {own : String} {WW : List Cond} {c0 : Cond} {rm : Room} {ce sl : Nat} {ws wc : va_W} {lv : List (Nat × Value)} {st : List Value} {y : MethodName} {bytes : ByteArray} {maxL index : Nat} {rmc : Room} {b : Nat} {As : List Value} {S : Type} {wu : S → va_W} {post : Int32 → S → Prop} (C : Cx x cc tb nL own (c0 :: WW) rm) (i pc : Nat) (hM : ConZ (xl x) y (Cond.code y bytes maxL (some .boolean) :: WW) rmc (xD x) (xk x) (xg x) (.ref b :: As) wc wu post) (hi : tb[i]? = some (pc, .invokevirtual index, 3)) (hg : WW.all goodWord = true) (hh : ∀ w ∈ [Cond.methodLink own index y, .instanceMethod y, .selects y.cls y y, .initialized y.cls], w ∈ WW) (hcode : Cond.code y bytes maxL (some .boolean) ∈ WW) (n : Nat) (hd : calleeOk WW y n) (hn : As.length = n) (hrm : rmc.frames + 1 ≤ rm.frames ∧ 8 + (maxL + 11) + rmc.locals ≤ rm.locals) (hst : (st.map fun v => v.category).sum ≤ 8) (hcs : ce + rmc.cells ≤ rm.cells ∧ sl + rmc.slots ≤ rm.slots) {ci q0 : Nat} {q : vw_C} {fs : List Value} (hci : vwCl[ci]? = some (y.cls, q.2)) (he : wc[q0]? = some (b, .inr (ci, fs))) (hws : wc = ws)
    (h : ∀ (r : Int32) (u : S), post r u → Wx x nL (ce + rmc.cells) (sl + rmc.slots) (wu u) lv (pc + 3) (.int r :: st)) : Wx x nL ce sl ws lv pc (As.reverse ++ .ref b :: st) := by
  obtain ⟨p, l, e, R, s, m, args, below, meth, c, Q, A, D, k, g⟩ := x
  obtain ⟨⟨hx, hb, hml, hown, hts⟩, htb, hR, hA, hK, hlk, hE⟩ := C
  intro H locs ls hP hD hS hl
  subst hR
  subst hws
  have hPc := hP
  have hDc := hD
  have hKc := hK
  have hFc : ∀ q, va_A wc H.size q → A q := fun q h => by rcases h with ⟨k, e, h⟩ | h; exact hD.2 k (q, e) h; exact hA q (Nat.le_trans hS.1 h)
  have hEc : EXT g (va_A wc H.size) s H := (hE.kept (fun a h1 h2 => hS.2.1 a h1 h2)).narrow hFc
  refine va_calli (va_runV (As := As) (rest := st) ⟨hx, hb, hml, hown, hts⟩ (hM H.size) (cwV n hts (good_ww hg hh hcode) rfl rfl rfl ⟨rfl, hd⟩ hrm) ⟨fun a U gf mk q => by obtain ⟨z0, z1, zP, zK, zD, zE⟩ := q; exact ⟨z0, z1, zP, va_K.moved (u := U) (U := U.calling gf mk a) (Vm.Alike.refl U.vm) zK, zD, zE.calling⟩, va_recv hKc hPc (ci := ci) (q0 := q0) hci he, fun U hU hW => ⟨rfl, by rw [hU], by rw [hU]; exact hPc, va_K.moved hW.alike hKc, hDc.weaken (fun _ _ _ _ => trivial), by rw [hU]; exact hEc.warm hW⟩⟩ rfl hn hl.1 rfl (lv_room hst) (tb_at htb hi) hcs) hS (fun q _ h => hFc q h) hFc (fun r u t H1 locs1 ht hvm hw hB hz1 hk1 hS1 => ?_)
  obtain ⟨hP1, hD1⟩ := hB
  rw [ht] at hP1
  exact h r u hw H1 locs1 ls hP1 (hD1.weaken (fun _ q _ h => hFc q.1 h)) hS1 hl

theorem x_callSZ {x : CT} {cc : ByteArray} {tb : Tb} {nL : Nat} {own : String} {WW : List Cond} {c0 : Cond} {rm : Room} {ce sl : Nat} {ws wc : va_W} {lv : List (Nat × Value)} {st : List Value} {y : MethodName} {bytes : ByteArray} {maxL index : Nat} {rmc : Room} {As : List Value} {S : Type} {wu : S → va_W} {post : Int32 → S → Prop} {wr : va_W} {w2 : S → va_W} (C : Cx x cc tb nL own (c0 :: WW) rm) (i pc : Nat) (hM : ConZ (xl x) y (Cond.code y bytes maxL (some .boolean) :: WW) rmc (xD x) (xk x) (xg x) As wc wu post) (hi : tb[i]? = some (pc, .invokestatic index, 3)) (hg : WW.all goodWord = true) (hh : ∀ w ∈ [Cond.methodLink own index y, .static y, .initialized y.cls], w ∈ WW) (hcode : Cond.code y bytes maxL (some .boolean) ∈ WW) (n : Nat) (hd : calleeOk WW y n) (hn : As.length = n) (hrm : rmc.frames + 1 ≤ rm.frames ∧ 8 + (maxL + 11) + rmc.locals ≤ rm.locals) (hst : (st.map fun v => v.category).sum ≤ 8) (hcs : ce + rmc.cells ≤ rm.cells ∧ sl + rmc.slots ≤ rm.slots) (isC isR pm : List Nat) (hC : isC.map (fun i => ws[i]?) = wc.map some) (hC2 : isC.filterMap (fun i => ws[i]?) = wc) (hCn : va_nd isC = true) (hRr : isR.map (fun i => ws[i]?) = wr.map some) (hRn : va_nd isR = true) (hdis : ∀ i ∈ isR, i ∉ isC) (hpm : ∀ u, pm.map (fun i => (wr ++ wu u)[i]?) = (w2 u).map some) (hpm2 : ∀ u, pm.filterMap (fun i => (wr ++ wu u)[i]?) = w2 u) (hpn : va_nd pm = true)
    (h : ∀ (r : Int32) (u : S), post r u → Wx x nL (ce + rmc.cells) (sl + rmc.slots) (w2 u) lv (pc + 3) (.int r :: st)) : Wx x nL ce sl ws lv pc (As.reverse ++ st) := by
  obtain ⟨p, l, e, R, s, m, args, below, meth, c, Q, A, D, k, g⟩ := x
  obtain ⟨⟨hx, hb, hml, hown, hts⟩, htb, hR, hA, hK, hlk, hE⟩ := C
  intro H locs ls hP hD hS hl
  subst hR
  have hPc := hP.sub (ws' := wc) isC hC2
  have hDc := hD.sub (ws' := wc) isC hCn hC
  have hKc := hK
  have hFc := va_free (wc := wc) hD hS hA isC hC
  have hEc : EXT g (va_A wc H.size) s H := (hE.kept (fun a h1 h2 => hS.2.1 a h1 h2)).narrow hFc
  refine va_calli (va_runS (As := As) (rest := st) ⟨hx, hb, hml, hown, hts⟩ (hM H.size) (va_cwS n hts (good_ww hg hh hcode) rfl rfl rfl hd hrm) ⟨fun a U gf mk q => by obtain ⟨z0, z1, zP, zK, zD, zE⟩ := q; exact ⟨z0, z1, zP, va_K.moved (u := U) (U := U.calling gf mk a) (Vm.Alike.refl U.vm) zK, zD, zE.calling⟩, fun U hU hW => ⟨rfl, by rw [hU], by rw [hU]; exact hPc, va_K.moved hW.alike hKc, hDc.weaken (fun _ _ _ _ => trivial), by rw [hU]; exact hEc.warm hW⟩⟩ rfl hn hl.1 rfl (lv_room hst) (tb_at htb hi) hcs) hS (fun q _ h => hFc q h) hFc (fun r u t H1 locs1 ht hvm hw hB hz1 hk1 hS1 => ?_)
  obtain ⟨hP1, hD1⟩ := hB
  rw [ht] at hP1
  obtain ⟨hP2, hD2⟩ := va_join (wr := wr) (w1 := wu u) hP hD isC isR hC hRr hRn hdis hk1 hFc hP1 hD1
  exact h r u hw H1 locs1 ls (hP2.sub pm (hpm2 u)) (hD2.sub pm hpn (hpm u)) hS1 hl

theorem x_callWSZ {x : CT} {cc : ByteArray} {tb : Tb} {nL : Nat} {own : String} {WW : List Cond} {c0 : Cond} {rm : Room} {ce sl : Nat} {ws wc : va_W} {lv : List (Nat × Value)} {st : List Value} {y : MethodName} {bytes : ByteArray} {maxL index : Nat} {rmc : Room} {As : List Value} {S : Type} {wu : S → va_W} {post : Int32 → S → Prop} (C : Cx x cc tb nL own (c0 :: WW) rm) (i pc : Nat) (hM : ConZ (xl x) y (Cond.code y bytes maxL (some .boolean) :: WW) rmc (xD x) (xk x) (xg x) As wc wu post) (hi : tb[i]? = some (pc, .invokestatic index, 3)) (hg : WW.all goodWord = true) (hh : ∀ w ∈ [Cond.methodLink own index y, .static y, .initialized y.cls], w ∈ WW) (hcode : Cond.code y bytes maxL (some .boolean) ∈ WW) (n : Nat) (hd : calleeOk WW y n) (hn : As.length = n) (hrm : rmc.frames + 1 ≤ rm.frames ∧ 8 + (maxL + 11) + rmc.locals ≤ rm.locals) (hst : (st.map fun v => v.category).sum ≤ 8) (hcs : ce + rmc.cells ≤ rm.cells ∧ sl + rmc.slots ≤ rm.slots) (hws : wc = ws)
    (h : ∀ (r : Int32) (u : S), post r u → Wx x nL (ce + rmc.cells) (sl + rmc.slots) (wu u) lv (pc + 3) (.int r :: st)) : Wx x nL ce sl ws lv pc (As.reverse ++ st) := by
  obtain ⟨p, l, e, R, s, m, args, below, meth, c, Q, A, D, k, g⟩ := x
  obtain ⟨⟨hx, hb, hml, hown, hts⟩, htb, hR, hA, hK, hlk, hE⟩ := C
  intro H locs ls hP hD hS hl
  subst hR
  subst hws
  have hPc := hP
  have hDc := hD
  have hKc := hK
  have hFc : ∀ q, va_A wc H.size q → A q := fun q h => by rcases h with ⟨k, e, h⟩ | h; exact hD.2 k (q, e) h; exact hA q (Nat.le_trans hS.1 h)
  have hEc : EXT g (va_A wc H.size) s H := (hE.kept (fun a h1 h2 => hS.2.1 a h1 h2)).narrow hFc
  refine va_calli (va_runS (As := As) (rest := st) ⟨hx, hb, hml, hown, hts⟩ (hM H.size) (va_cwS n hts (good_ww hg hh hcode) rfl rfl rfl hd hrm) ⟨fun a U gf mk q => by obtain ⟨z0, z1, zP, zK, zD, zE⟩ := q; exact ⟨z0, z1, zP, va_K.moved (u := U) (U := U.calling gf mk a) (Vm.Alike.refl U.vm) zK, zD, zE.calling⟩, fun U hU hW => ⟨rfl, by rw [hU], by rw [hU]; exact hPc, va_K.moved hW.alike hKc, hDc.weaken (fun _ _ _ _ => trivial), by rw [hU]; exact hEc.warm hW⟩⟩ rfl hn hl.1 rfl (lv_room hst) (tb_at htb hi) hcs) hS (fun q _ h => hFc q h) hFc (fun r u t H1 locs1 ht hvm hw hB hz1 hk1 hS1 => ?_)
  obtain ⟨hP1, hD1⟩ := hB
  rw [ht] at hP1
  exact h r u hw H1 locs1 ls hP1 (hD1.weaken (fun _ q _ h => hFc q.1 h)) hS1 hl

theorem x_call0SZ {x : CT} {cc : ByteArray} {tb : Tb} {nL : Nat} {own : String} {WW : List Cond} {c0 : Cond} {rm : Room} {ce sl : Nat} {ws wc : va_W} {lv : List (Nat × Value)} {st : List Value} {y : MethodName} {bytes : ByteArray} {maxL index : Nat} {rmc : Room} {As : List Value} {S : Type} {wu : S → va_W} {post : Int32 → S → Prop} (C : Cx x cc tb nL own (c0 :: WW) rm) (i pc : Nat) (hM : ConZ (xl x) y (Cond.code y bytes maxL (some .boolean) :: WW) rmc (xD x) (xk x) (xg x) As wc wu post) (hi : tb[i]? = some (pc, .invokestatic index, 3)) (hg : WW.all goodWord = true) (hh : ∀ w ∈ [Cond.methodLink own index y, .static y, .initialized y.cls], w ∈ WW) (hcode : Cond.code y bytes maxL (some .boolean) ∈ WW) (n : Nat) (hd : calleeOk WW y n) (hn : As.length = n) (hrm : rmc.frames + 1 ≤ rm.frames ∧ 8 + (maxL + 11) + rmc.locals ≤ rm.locals) (hst : (st.map fun v => v.category).sum ≤ 8) (hcs : ce + rmc.cells ≤ rm.cells ∧ sl + rmc.slots ≤ rm.slots) (hws : wc = []) 
    (h : ∀ (r : Int32) (u : S), post r u → Wx x nL (ce + rmc.cells) (sl + rmc.slots) ws lv (pc + 3) (.int r :: st)) : Wx x nL ce sl ws lv pc (As.reverse ++ st) := by
  obtain ⟨p, l, e, R, s, m, args, below, meth, c, Q, A, D, k, g⟩ := x
  obtain ⟨⟨hx, hb, hml, hown, hts⟩, htb, hR, hA, hK, hlk, hE⟩ := C
  intro H locs ls hP hD hS hl
  subst hR
  subst hws
  have hPc : va_P D vwCl [] H := fun k q h => by simp at h
  have hDc : va_D A [] := ⟨fun i j p q h => by simp at h, fun k q h => by simp at h⟩
  have hKc := hK
  have hFc : ∀ q, va_A [] H.size q → A q := fun q h => by rcases h with ⟨k, e, h⟩ | h; simp at h; exact hA q (Nat.le_trans hS.1 h)
  have hEc : EXT g (va_A [] H.size) s H := (hE.kept (fun a h1 h2 => hS.2.1 a h1 h2)).narrow hFc
  refine va_calli (va_runS (As := As) (rest := st) ⟨hx, hb, hml, hown, hts⟩ (hM H.size) (va_cwS n hts (good_ww hg hh hcode) rfl rfl rfl hd hrm) ⟨fun a U gf mk q => by obtain ⟨z0, z1, zP, zK, zD, zE⟩ := q; exact ⟨z0, z1, zP, va_K.moved (u := U) (U := U.calling gf mk a) (Vm.Alike.refl U.vm) zK, zD, zE.calling⟩, fun U hU hW => ⟨rfl, by rw [hU], by rw [hU]; exact hPc, va_K.moved hW.alike hKc, hDc.weaken (fun _ _ _ _ => trivial), by rw [hU]; exact hEc.warm hW⟩⟩ rfl hn hl.1 rfl (lv_room hst) (tb_at htb hi) hcs) hS (fun q _ h => hFc q h) hFc (fun r u t H1 locs1 ht hvm hw hB hz1 hk1 hS1 => ?_)
  obtain ⟨hP1, hD1⟩ := hB
  rw [ht] at hP1
  exact h r u hw H1 locs1 ls (free_kept hP hk1) hD hS1 hl

theorem x_callVL {x : CT} {cc : ByteArray} {tb : Tb} {nL : Nat} {own : String} {WW : List Cond} {c0 : Cond} {rm : Room} {ce sl : Nat} {ws wc : va_W} {lv : List (Nat × Value)} {st : List Value} {y : MethodName} {bytes : ByteArray} {maxL index : Nat} {rmc : Room} {b : Nat} {As : List Value} {S : Type} {wu : S → va_W} {post : Int64 → S → Prop} {wr : va_W} {w2 : S → va_W} (C : Cx x cc tb nL own (c0 :: WW) rm) (i pc : Nat) (hM : ConL (xl x) y (Cond.code y bytes maxL (some .long) :: WW) rmc (xD x) (xk x) (xg x) (.ref b :: As) wc wu post) (hi : tb[i]? = some (pc, .invokevirtual index, 3)) (hg : WW.all goodWord = true) (hh : ∀ w ∈ [Cond.methodLink own index y, .instanceMethod y, .selects y.cls y y, .initialized y.cls], w ∈ WW) (hcode : Cond.code y bytes maxL (some .long) ∈ WW) (n : Nat) (hd : calleeOk WW y n) (hn : As.length = n) (hrm : rmc.frames + 1 ≤ rm.frames ∧ 8 + (maxL + 11) + rmc.locals ≤ rm.locals) (hst : (st.map fun v => v.category).sum ≤ 8) (hcs : ce + rmc.cells ≤ rm.cells ∧ sl + rmc.slots ≤ rm.slots) {ci q0 : Nat} {q : vw_C} {fs : List Value} (hci : vwCl[ci]? = some (y.cls, q.2)) (he : wc[q0]? = some (b, .inr (ci, fs))) (isC isR pm : List Nat) (hC : isC.map (fun i => ws[i]?) = wc.map some) (hC2 : isC.filterMap (fun i => ws[i]?) = wc) (hCn : va_nd isC = true) (hRr : isR.map (fun i => ws[i]?) = wr.map some) (hRn : va_nd isR = true) (hdis : ∀ i ∈ isR, i ∉ isC) (hpm : ∀ u, pm.map (fun i => (wr ++ wu u)[i]?) = (w2 u).map some) (hpm2 : ∀ u, pm.filterMap (fun i => (wr ++ wu u)[i]?) = w2 u) (hpn : va_nd pm = true)
    (h : ∀ (r : Int64) (u : S), post r u → Wx x nL (ce + rmc.cells) (sl + rmc.slots) (w2 u) lv (pc + 3) (.long r :: st)) : Wx x nL ce sl ws lv pc (As.reverse ++ .ref b :: st) := by
  obtain ⟨p, l, e, R, s, m, args, below, meth, c, Q, A, D, k, g⟩ := x
  obtain ⟨⟨hx, hb, hml, hown, hts⟩, htb, hR, hA, hK, hlk, hE⟩ := C
  intro H locs ls hP hD hS hl
  subst hR
  have hPc := hP.sub (ws' := wc) isC hC2
  have hDc := hD.sub (ws' := wc) isC hCn hC
  have hKc := hK
  have hFc := va_free (wc := wc) hD hS hA isC hC
  have hEc : EXT g (va_A wc H.size) s H := (hE.kept (fun a h1 h2 => hS.2.1 a h1 h2)).narrow hFc
  refine va_calll (va_runV (As := As) (rest := st) ⟨hx, hb, hml, hown, hts⟩ (hM H.size) (cwV n hts (good_ww hg hh hcode) rfl rfl rfl ⟨rfl, hd⟩ hrm) ⟨fun a U gf mk q => by obtain ⟨z0, z1, zP, zK, zD, zE⟩ := q; exact ⟨z0, z1, zP, va_K.moved (u := U) (U := U.calling gf mk a) (Vm.Alike.refl U.vm) zK, zD, zE.calling⟩, va_recv hKc hPc (ci := ci) (q0 := q0) hci he, fun U hU hW => ⟨rfl, by rw [hU], by rw [hU]; exact hPc, va_K.moved hW.alike hKc, hDc.weaken (fun _ _ _ _ => trivial), by rw [hU]; exact hEc.warm hW⟩⟩ rfl hn hl.1 rfl (lv_room hst) (tb_at htb hi) hcs) hS (fun q _ h => hFc q h) hFc (fun r u t H1 locs1 ht hvm hw hB hz1 hk1 hS1 => ?_)
  obtain ⟨hP1, hD1⟩ := hB
  rw [ht] at hP1
  obtain ⟨hP2, hD2⟩ := va_join (wr := wr) (w1 := wu u) hP hD isC isR hC hRr hRn hdis hk1 hFc hP1 hD1
  exact h r u hw H1 locs1 ls (hP2.sub pm (hpm2 u)) (hD2.sub pm hpn (hpm u)) hS1 hl

theorem x_callWVL {x : CT} {cc : ByteArray} {tb : Tb} {nL : Nat} {own : String} {WW : List Cond} {c0 : Cond} {rm : Room} {ce sl : Nat} {ws wc : va_W} {lv : List (Nat × Value)} {st : List Value} {y : MethodName} {bytes : ByteArray} {maxL index : Nat} {rmc : Room} {b : Nat} {As : List Value} {S : Type} {wu : S → va_W} {post : Int64 → S → Prop} (C : Cx x cc tb nL own (c0 :: WW) rm) (i pc : Nat) (hM : ConL (xl x) y (Cond.code y bytes maxL (some .long) :: WW) rmc (xD x) (xk x) (xg x) (.ref b :: As) wc wu post) (hi : tb[i]? = some (pc, .invokevirtual index, 3)) (hg : WW.all goodWord = true) (hh : ∀ w ∈ [Cond.methodLink own index y, .instanceMethod y, .selects y.cls y y, .initialized y.cls], w ∈ WW) (hcode : Cond.code y bytes maxL (some .long) ∈ WW) (n : Nat) (hd : calleeOk WW y n) (hn : As.length = n) (hrm : rmc.frames + 1 ≤ rm.frames ∧ 8 + (maxL + 11) + rmc.locals ≤ rm.locals) (hst : (st.map fun v => v.category).sum ≤ 8) (hcs : ce + rmc.cells ≤ rm.cells ∧ sl + rmc.slots ≤ rm.slots) {ci q0 : Nat} {q : vw_C} {fs : List Value} (hci : vwCl[ci]? = some (y.cls, q.2)) (he : wc[q0]? = some (b, .inr (ci, fs))) (hws : wc = ws)
    (h : ∀ (r : Int64) (u : S), post r u → Wx x nL (ce + rmc.cells) (sl + rmc.slots) (wu u) lv (pc + 3) (.long r :: st)) : Wx x nL ce sl ws lv pc (As.reverse ++ .ref b :: st) := by
  obtain ⟨p, l, e, R, s, m, args, below, meth, c, Q, A, D, k, g⟩ := x
  obtain ⟨⟨hx, hb, hml, hown, hts⟩, htb, hR, hA, hK, hlk, hE⟩ := C
  intro H locs ls hP hD hS hl
  subst hR
  subst hws
  have hPc := hP
  have hDc := hD
  have hKc := hK
  have hFc : ∀ q, va_A wc H.size q → A q := fun q h => by rcases h with ⟨k, e, h⟩ | h; exact hD.2 k (q, e) h; exact hA q (Nat.le_trans hS.1 h)
  have hEc : EXT g (va_A wc H.size) s H := (hE.kept (fun a h1 h2 => hS.2.1 a h1 h2)).narrow hFc
  refine va_calll (va_runV (As := As) (rest := st) ⟨hx, hb, hml, hown, hts⟩ (hM H.size) (cwV n hts (good_ww hg hh hcode) rfl rfl rfl ⟨rfl, hd⟩ hrm) ⟨fun a U gf mk q => by obtain ⟨z0, z1, zP, zK, zD, zE⟩ := q; exact ⟨z0, z1, zP, va_K.moved (u := U) (U := U.calling gf mk a) (Vm.Alike.refl U.vm) zK, zD, zE.calling⟩, va_recv hKc hPc (ci := ci) (q0 := q0) hci he, fun U hU hW => ⟨rfl, by rw [hU], by rw [hU]; exact hPc, va_K.moved hW.alike hKc, hDc.weaken (fun _ _ _ _ => trivial), by rw [hU]; exact hEc.warm hW⟩⟩ rfl hn hl.1 rfl (lv_room hst) (tb_at htb hi) hcs) hS (fun q _ h => hFc q h) hFc (fun r u t H1 locs1 ht hvm hw hB hz1 hk1 hS1 => ?_)
  obtain ⟨hP1, hD1⟩ := hB
  rw [ht] at hP1
  exact h r u hw H1 locs1 ls hP1 (hD1.weaken (fun _ q _ h => hFc q.1 h)) hS1 hl

theorem x_callSL {x : CT} {cc : ByteArray} {tb : Tb} {nL : Nat} {own : String} {WW : List Cond} {c0 : Cond} {rm : Room} {ce sl : Nat} {ws wc : va_W} {lv : List (Nat × Value)} {st : List Value} {y : MethodName} {bytes : ByteArray} {maxL index : Nat} {rmc : Room} {As : List Value} {S : Type} {wu : S → va_W} {post : Int64 → S → Prop} {wr : va_W} {w2 : S → va_W} (C : Cx x cc tb nL own (c0 :: WW) rm) (i pc : Nat) (hM : ConL (xl x) y (Cond.code y bytes maxL (some .long) :: WW) rmc (xD x) (xk x) (xg x) As wc wu post) (hi : tb[i]? = some (pc, .invokestatic index, 3)) (hg : WW.all goodWord = true) (hh : ∀ w ∈ [Cond.methodLink own index y, .static y, .initialized y.cls], w ∈ WW) (hcode : Cond.code y bytes maxL (some .long) ∈ WW) (n : Nat) (hd : calleeOk WW y n) (hn : As.length = n) (hrm : rmc.frames + 1 ≤ rm.frames ∧ 8 + (maxL + 11) + rmc.locals ≤ rm.locals) (hst : (st.map fun v => v.category).sum ≤ 8) (hcs : ce + rmc.cells ≤ rm.cells ∧ sl + rmc.slots ≤ rm.slots) (isC isR pm : List Nat) (hC : isC.map (fun i => ws[i]?) = wc.map some) (hC2 : isC.filterMap (fun i => ws[i]?) = wc) (hCn : va_nd isC = true) (hRr : isR.map (fun i => ws[i]?) = wr.map some) (hRn : va_nd isR = true) (hdis : ∀ i ∈ isR, i ∉ isC) (hpm : ∀ u, pm.map (fun i => (wr ++ wu u)[i]?) = (w2 u).map some) (hpm2 : ∀ u, pm.filterMap (fun i => (wr ++ wu u)[i]?) = w2 u) (hpn : va_nd pm = true)
    (h : ∀ (r : Int64) (u : S), post r u → Wx x nL (ce + rmc.cells) (sl + rmc.slots) (w2 u) lv (pc + 3) (.long r :: st)) : Wx x nL ce sl ws lv pc (As.reverse ++ st) := by
  obtain ⟨p, l, e, R, s, m, args, below, meth, c, Q, A, D, k, g⟩ := x
  obtain ⟨⟨hx, hb, hml, hown, hts⟩, htb, hR, hA, hK, hlk, hE⟩ := C
  intro H locs ls hP hD hS hl
  subst hR
  have hPc := hP.sub (ws' := wc) isC hC2
  have hDc := hD.sub (ws' := wc) isC hCn hC
  have hKc := hK
  have hFc := va_free (wc := wc) hD hS hA isC hC
  have hEc : EXT g (va_A wc H.size) s H := (hE.kept (fun a h1 h2 => hS.2.1 a h1 h2)).narrow hFc
  refine va_calll (va_runS (As := As) (rest := st) ⟨hx, hb, hml, hown, hts⟩ (hM H.size) (va_cwS n hts (good_ww hg hh hcode) rfl rfl rfl hd hrm) ⟨fun a U gf mk q => by obtain ⟨z0, z1, zP, zK, zD, zE⟩ := q; exact ⟨z0, z1, zP, va_K.moved (u := U) (U := U.calling gf mk a) (Vm.Alike.refl U.vm) zK, zD, zE.calling⟩, fun U hU hW => ⟨rfl, by rw [hU], by rw [hU]; exact hPc, va_K.moved hW.alike hKc, hDc.weaken (fun _ _ _ _ => trivial), by rw [hU]; exact hEc.warm hW⟩⟩ rfl hn hl.1 rfl (lv_room hst) (tb_at htb hi) hcs) hS (fun q _ h => hFc q h) hFc (fun r u t H1 locs1 ht hvm hw hB hz1 hk1 hS1 => ?_)
  obtain ⟨hP1, hD1⟩ := hB
  rw [ht] at hP1
  obtain ⟨hP2, hD2⟩ := va_join (wr := wr) (w1 := wu u) hP hD isC isR hC hRr hRn hdis hk1 hFc hP1 hD1
  exact h r u hw H1 locs1 ls (hP2.sub pm (hpm2 u)) (hD2.sub pm hpn (hpm u)) hS1 hl

theorem x_callWSL {x : CT} {cc : ByteArray} {tb : Tb} {nL : Nat} {own : String} {WW : List Cond} {c0 : Cond} {rm : Room} {ce sl : Nat} {ws wc : va_W} {lv : List (Nat × Value)} {st : List Value} {y : MethodName} {bytes : ByteArray} {maxL index : Nat} {rmc : Room} {As : List Value} {S : Type} {wu : S → va_W} {post : Int64 → S → Prop} (C : Cx x cc tb nL own (c0 :: WW) rm) (i pc : Nat) (hM : ConL (xl x) y (Cond.code y bytes maxL (some .long) :: WW) rmc (xD x) (xk x) (xg x) As wc wu post) (hi : tb[i]? = some (pc, .invokestatic index, 3)) (hg : WW.all goodWord = true) (hh : ∀ w ∈ [Cond.methodLink own index y, .static y, .initialized y.cls], w ∈ WW) (hcode : Cond.code y bytes maxL (some .long) ∈ WW) (n : Nat) (hd : calleeOk WW y n) (hn : As.length = n) (hrm : rmc.frames + 1 ≤ rm.frames ∧ 8 + (maxL + 11) + rmc.locals ≤ rm.locals) (hst : (st.map fun v => v.category).sum ≤ 8) (hcs : ce + rmc.cells ≤ rm.cells ∧ sl + rmc.slots ≤ rm.slots) (hws : wc = ws)
    (h : ∀ (r : Int64) (u : S), post r u → Wx x nL (ce + rmc.cells) (sl + rmc.slots) (wu u) lv (pc + 3) (.long r :: st)) : Wx x nL ce sl ws lv pc (As.reverse ++ st) := by
  obtain ⟨p, l, e, R, s, m, args, below, meth, c, Q, A, D, k, g⟩ := x
  obtain ⟨⟨hx, hb, hml, hown, hts⟩, htb, hR, hA, hK, hlk, hE⟩ := C
  intro H locs ls hP hD hS hl
  subst hR
  subst hws
  have hPc := hP
  have hDc := hD
  have hKc := hK
  have hFc : ∀ q, va_A wc H.size q → A q := fun q h => by rcases h with ⟨k, e, h⟩ | h; exact hD.2 k (q, e) h; exact hA q (Nat.le_trans hS.1 h)
  have hEc : EXT g (va_A wc H.size) s H := (hE.kept (fun a h1 h2 => hS.2.1 a h1 h2)).narrow hFc
  refine va_calll (va_runS (As := As) (rest := st) ⟨hx, hb, hml, hown, hts⟩ (hM H.size) (va_cwS n hts (good_ww hg hh hcode) rfl rfl rfl hd hrm) ⟨fun a U gf mk q => by obtain ⟨z0, z1, zP, zK, zD, zE⟩ := q; exact ⟨z0, z1, zP, va_K.moved (u := U) (U := U.calling gf mk a) (Vm.Alike.refl U.vm) zK, zD, zE.calling⟩, fun U hU hW => ⟨rfl, by rw [hU], by rw [hU]; exact hPc, va_K.moved hW.alike hKc, hDc.weaken (fun _ _ _ _ => trivial), by rw [hU]; exact hEc.warm hW⟩⟩ rfl hn hl.1 rfl (lv_room hst) (tb_at htb hi) hcs) hS (fun q _ h => hFc q h) hFc (fun r u t H1 locs1 ht hvm hw hB hz1 hk1 hS1 => ?_)
  obtain ⟨hP1, hD1⟩ := hB
  rw [ht] at hP1
  exact h r u hw H1 locs1 ls hP1 (hD1.weaken (fun _ q _ h => hFc q.1 h)) hS1 hl

theorem x_call0SL {x : CT} {cc : ByteArray} {tb : Tb} {nL : Nat} {own : String} {WW : List Cond} {c0 : Cond} {rm : Room} {ce sl : Nat} {ws wc : va_W} {lv : List (Nat × Value)} {st : List Value} {y : MethodName} {bytes : ByteArray} {maxL index : Nat} {rmc : Room} {As : List Value} {S : Type} {wu : S → va_W} {post : Int64 → S → Prop} (C : Cx x cc tb nL own (c0 :: WW) rm) (i pc : Nat) (hM : ConL (xl x) y (Cond.code y bytes maxL (some .long) :: WW) rmc (xD x) (xk x) (xg x) As wc wu post) (hi : tb[i]? = some (pc, .invokestatic index, 3)) (hg : WW.all goodWord = true) (hh : ∀ w ∈ [Cond.methodLink own index y, .static y, .initialized y.cls], w ∈ WW) (hcode : Cond.code y bytes maxL (some .long) ∈ WW) (n : Nat) (hd : calleeOk WW y n) (hn : As.length = n) (hrm : rmc.frames + 1 ≤ rm.frames ∧ 8 + (maxL + 11) + rmc.locals ≤ rm.locals) (hst : (st.map fun v => v.category).sum ≤ 8) (hcs : ce + rmc.cells ≤ rm.cells ∧ sl + rmc.slots ≤ rm.slots) (hws : wc = []) 
    (h : ∀ (r : Int64) (u : S), post r u → Wx x nL (ce + rmc.cells) (sl + rmc.slots) ws lv (pc + 3) (.long r :: st)) : Wx x nL ce sl ws lv pc (As.reverse ++ st) := by
  obtain ⟨p, l, e, R, s, m, args, below, meth, c, Q, A, D, k, g⟩ := x
  obtain ⟨⟨hx, hb, hml, hown, hts⟩, htb, hR, hA, hK, hlk, hE⟩ := C
  intro H locs ls hP hD hS hl
  subst hR
  subst hws
  have hPc : va_P D vwCl [] H := fun k q h => by simp at h
  have hDc : va_D A [] := ⟨fun i j p q h => by simp at h, fun k q h => by simp at h⟩
  have hKc := hK
  have hFc : ∀ q, va_A [] H.size q → A q := fun q h => by rcases h with ⟨k, e, h⟩ | h; simp at h; exact hA q (Nat.le_trans hS.1 h)
  have hEc : EXT g (va_A [] H.size) s H := (hE.kept (fun a h1 h2 => hS.2.1 a h1 h2)).narrow hFc
  refine va_calll (va_runS (As := As) (rest := st) ⟨hx, hb, hml, hown, hts⟩ (hM H.size) (va_cwS n hts (good_ww hg hh hcode) rfl rfl rfl hd hrm) ⟨fun a U gf mk q => by obtain ⟨z0, z1, zP, zK, zD, zE⟩ := q; exact ⟨z0, z1, zP, va_K.moved (u := U) (U := U.calling gf mk a) (Vm.Alike.refl U.vm) zK, zD, zE.calling⟩, fun U hU hW => ⟨rfl, by rw [hU], by rw [hU]; exact hPc, va_K.moved hW.alike hKc, hDc.weaken (fun _ _ _ _ => trivial), by rw [hU]; exact hEc.warm hW⟩⟩ rfl hn hl.1 rfl (lv_room hst) (tb_at htb hi) hcs) hS (fun q _ h => hFc q h) hFc (fun r u t H1 locs1 ht hvm hw hB hz1 hk1 hS1 => ?_)
  obtain ⟨hP1, hD1⟩ := hB
  rw [ht] at hP1
  exact h r u hw H1 locs1 ls (free_kept hP hk1) hD hS1 hl

theorem x_callVV {x : CT} {cc : ByteArray} {tb : Tb} {nL : Nat} {own : String} {WW : List Cond} {c0 : Cond} {rm : Room} {ce sl : Nat} {ws wc : va_W} {lv : List (Nat × Value)} {st : List Value} {y : MethodName} {bytes : ByteArray} {maxL index : Nat} {rmc : Room} {b : Nat} {As : List Value} {S : Type} {wu : S → va_W} {post : S → Prop} {wr : va_W} {w2 : S → va_W} (C : Cx x cc tb nL own (c0 :: WW) rm) (i pc : Nat) (hM : ConV (xl x) y (Cond.code y bytes maxL (none) :: WW) rmc (xD x) (xk x) (xg x) (.ref b :: As) wc wu post) (hi : tb[i]? = some (pc, .invokevirtual index, 3)) (hg : WW.all goodWord = true) (hh : ∀ w ∈ [Cond.methodLink own index y, .instanceMethod y, .selects y.cls y y, .initialized y.cls], w ∈ WW) (hcode : Cond.code y bytes maxL (none) ∈ WW) (n : Nat) (hd : calleeOk WW y n) (hn : As.length = n) (hrm : rmc.frames + 1 ≤ rm.frames ∧ 8 + (maxL + 11) + rmc.locals ≤ rm.locals) (hst : (st.map fun v => v.category).sum ≤ 8) (hcs : ce + rmc.cells ≤ rm.cells ∧ sl + rmc.slots ≤ rm.slots) {ci q0 : Nat} {q : vw_C} {fs : List Value} (hci : vwCl[ci]? = some (y.cls, q.2)) (he : wc[q0]? = some (b, .inr (ci, fs))) (isC isR pm : List Nat) (hC : isC.map (fun i => ws[i]?) = wc.map some) (hC2 : isC.filterMap (fun i => ws[i]?) = wc) (hCn : va_nd isC = true) (hRr : isR.map (fun i => ws[i]?) = wr.map some) (hRn : va_nd isR = true) (hdis : ∀ i ∈ isR, i ∉ isC) (hpm : ∀ u, pm.map (fun i => (wr ++ wu u)[i]?) = (w2 u).map some) (hpm2 : ∀ u, pm.filterMap (fun i => (wr ++ wu u)[i]?) = w2 u) (hpn : va_nd pm = true)
    (h : ∀ (u : S), post u → Wx x nL (ce + rmc.cells) (sl + rmc.slots) (w2 u) lv (pc + 3) (st)) : Wx x nL ce sl ws lv pc (As.reverse ++ .ref b :: st) := by
  obtain ⟨p, l, e, R, s, m, args, below, meth, c, Q, A, D, k, g⟩ := x
  obtain ⟨⟨hx, hb, hml, hown, hts⟩, htb, hR, hA, hK, hlk, hE⟩ := C
  intro H locs ls hP hD hS hl
  subst hR
  have hPc := hP.sub (ws' := wc) isC hC2
  have hDc := hD.sub (ws' := wc) isC hCn hC
  have hKc := hK
  have hFc := va_free (wc := wc) hD hS hA isC hC
  have hEc : EXT g (va_A wc H.size) s H := (hE.kept (fun a h1 h2 => hS.2.1 a h1 h2)).narrow hFc
  refine va_callv (va_runV (As := As) (rest := st) ⟨hx, hb, hml, hown, hts⟩ (hM H.size) (cwV n hts (good_ww hg hh hcode) rfl rfl rfl ⟨rfl, hd⟩ hrm) ⟨fun a U gf mk q => by obtain ⟨z0, z1, zP, zK, zD, zE⟩ := q; exact ⟨z0, z1, zP, va_K.moved (u := U) (U := U.calling gf mk a) (Vm.Alike.refl U.vm) zK, zD, zE.calling⟩, va_recv hKc hPc (ci := ci) (q0 := q0) hci he, fun U hU hW => ⟨rfl, by rw [hU], by rw [hU]; exact hPc, va_K.moved hW.alike hKc, hDc.weaken (fun _ _ _ _ => trivial), by rw [hU]; exact hEc.warm hW⟩⟩ rfl hn hl.1 rfl (lv_room hst) (tb_at htb hi) hcs) hS (fun q _ h => hFc q h) hFc (fun u t H1 locs1 ht hvm hw hB hz1 hk1 hS1 => ?_)
  obtain ⟨hP1, hD1⟩ := hB
  rw [ht] at hP1
  obtain ⟨hP2, hD2⟩ := va_join (wr := wr) (w1 := wu u) hP hD isC isR hC hRr hRn hdis hk1 hFc hP1 hD1
  exact h u hw H1 locs1 ls (hP2.sub pm (hpm2 u)) (hD2.sub pm hpn (hpm u)) hS1 hl

theorem x_callWVV {x : CT} {cc : ByteArray} {tb : Tb} {nL : Nat} {own : String} {WW : List Cond} {c0 : Cond} {rm : Room} {ce sl : Nat} {ws wc : va_W} {lv : List (Nat × Value)} {st : List Value} {y : MethodName} {bytes : ByteArray} {maxL index : Nat} {rmc : Room} {b : Nat} {As : List Value} {S : Type} {wu : S → va_W} {post : S → Prop} (C : Cx x cc tb nL own (c0 :: WW) rm) (i pc : Nat) (hM : ConV (xl x) y (Cond.code y bytes maxL (none) :: WW) rmc (xD x) (xk x) (xg x) (.ref b :: As) wc wu post) (hi : tb[i]? = some (pc, .invokevirtual index, 3)) (hg : WW.all goodWord = true) (hh : ∀ w ∈ [Cond.methodLink own index y, .instanceMethod y, .selects y.cls y y, .initialized y.cls], w ∈ WW) (hcode : Cond.code y bytes maxL (none) ∈ WW) (n : Nat) (hd : calleeOk WW y n) (hn : As.length = n) (hrm : rmc.frames + 1 ≤ rm.frames ∧ 8 + (maxL + 11) + rmc.locals ≤ rm.locals) (hst : (st.map fun v => v.category).sum ≤ 8) (hcs : ce + rmc.cells ≤ rm.cells ∧ sl + rmc.slots ≤ rm.slots) {ci q0 : Nat} {q : vw_C} {fs : List Value} (hci : vwCl[ci]? = some (y.cls, q.2)) (he : wc[q0]? = some (b, .inr (ci, fs))) (hws : wc = ws)
    (h : ∀ (u : S), post u → Wx x nL (ce + rmc.cells) (sl + rmc.slots) (wu u) lv (pc + 3) (st)) : Wx x nL ce sl ws lv pc (As.reverse ++ .ref b :: st) := by
  obtain ⟨p, l, e, R, s, m, args, below, meth, c, Q, A, D, k, g⟩ := x
  obtain ⟨⟨hx, hb, hml, hown, hts⟩, htb, hR, hA, hK, hlk, hE⟩ := C
  intro H locs ls hP hD hS hl
  subst hR
  subst hws
  have hPc := hP
  have hDc := hD
  have hKc := hK
  have hFc : ∀ q, va_A wc H.size q → A q := fun q h => by rcases h with ⟨k, e, h⟩ | h; exact hD.2 k (q, e) h; exact hA q (Nat.le_trans hS.1 h)
  have hEc : EXT g (va_A wc H.size) s H := (hE.kept (fun a h1 h2 => hS.2.1 a h1 h2)).narrow hFc
  refine va_callv (va_runV (As := As) (rest := st) ⟨hx, hb, hml, hown, hts⟩ (hM H.size) (cwV n hts (good_ww hg hh hcode) rfl rfl rfl ⟨rfl, hd⟩ hrm) ⟨fun a U gf mk q => by obtain ⟨z0, z1, zP, zK, zD, zE⟩ := q; exact ⟨z0, z1, zP, va_K.moved (u := U) (U := U.calling gf mk a) (Vm.Alike.refl U.vm) zK, zD, zE.calling⟩, va_recv hKc hPc (ci := ci) (q0 := q0) hci he, fun U hU hW => ⟨rfl, by rw [hU], by rw [hU]; exact hPc, va_K.moved hW.alike hKc, hDc.weaken (fun _ _ _ _ => trivial), by rw [hU]; exact hEc.warm hW⟩⟩ rfl hn hl.1 rfl (lv_room hst) (tb_at htb hi) hcs) hS (fun q _ h => hFc q h) hFc (fun u t H1 locs1 ht hvm hw hB hz1 hk1 hS1 => ?_)
  obtain ⟨hP1, hD1⟩ := hB
  rw [ht] at hP1
  exact h u hw H1 locs1 ls hP1 (hD1.weaken (fun _ q _ h => hFc q.1 h)) hS1 hl

theorem x_callSV {x : CT} {cc : ByteArray} {tb : Tb} {nL : Nat} {own : String} {WW : List Cond} {c0 : Cond} {rm : Room} {ce sl : Nat} {ws wc : va_W} {lv : List (Nat × Value)} {st : List Value} {y : MethodName} {bytes : ByteArray} {maxL index : Nat} {rmc : Room} {As : List Value} {S : Type} {wu : S → va_W} {post : S → Prop} {wr : va_W} {w2 : S → va_W} (C : Cx x cc tb nL own (c0 :: WW) rm) (i pc : Nat) (hM : ConV (xl x) y (Cond.code y bytes maxL (none) :: WW) rmc (xD x) (xk x) (xg x) As wc wu post) (hi : tb[i]? = some (pc, .invokestatic index, 3)) (hg : WW.all goodWord = true) (hh : ∀ w ∈ [Cond.methodLink own index y, .static y, .initialized y.cls], w ∈ WW) (hcode : Cond.code y bytes maxL (none) ∈ WW) (n : Nat) (hd : calleeOk WW y n) (hn : As.length = n) (hrm : rmc.frames + 1 ≤ rm.frames ∧ 8 + (maxL + 11) + rmc.locals ≤ rm.locals) (hst : (st.map fun v => v.category).sum ≤ 8) (hcs : ce + rmc.cells ≤ rm.cells ∧ sl + rmc.slots ≤ rm.slots) (isC isR pm : List Nat) (hC : isC.map (fun i => ws[i]?) = wc.map some) (hC2 : isC.filterMap (fun i => ws[i]?) = wc) (hCn : va_nd isC = true) (hRr : isR.map (fun i => ws[i]?) = wr.map some) (hRn : va_nd isR = true) (hdis : ∀ i ∈ isR, i ∉ isC) (hpm : ∀ u, pm.map (fun i => (wr ++ wu u)[i]?) = (w2 u).map some) (hpm2 : ∀ u, pm.filterMap (fun i => (wr ++ wu u)[i]?) = w2 u) (hpn : va_nd pm = true)
    (h : ∀ (u : S), post u → Wx x nL (ce + rmc.cells) (sl + rmc.slots) (w2 u) lv (pc + 3) (st)) : Wx x nL ce sl ws lv pc (As.reverse ++ st) := by
  obtain ⟨p, l, e, R, s, m, args, below, meth, c, Q, A, D, k, g⟩ := x
  obtain ⟨⟨hx, hb, hml, hown, hts⟩, htb, hR, hA, hK, hlk, hE⟩ := C
  intro H locs ls hP hD hS hl
  subst hR
  have hPc := hP.sub (ws' := wc) isC hC2
  have hDc := hD.sub (ws' := wc) isC hCn hC
  have hKc := hK
  have hFc := va_free (wc := wc) hD hS hA isC hC
  have hEc : EXT g (va_A wc H.size) s H := (hE.kept (fun a h1 h2 => hS.2.1 a h1 h2)).narrow hFc
  refine va_callv (va_runS (As := As) (rest := st) ⟨hx, hb, hml, hown, hts⟩ (hM H.size) (va_cwS n hts (good_ww hg hh hcode) rfl rfl rfl hd hrm) ⟨fun a U gf mk q => by obtain ⟨z0, z1, zP, zK, zD, zE⟩ := q; exact ⟨z0, z1, zP, va_K.moved (u := U) (U := U.calling gf mk a) (Vm.Alike.refl U.vm) zK, zD, zE.calling⟩, fun U hU hW => ⟨rfl, by rw [hU], by rw [hU]; exact hPc, va_K.moved hW.alike hKc, hDc.weaken (fun _ _ _ _ => trivial), by rw [hU]; exact hEc.warm hW⟩⟩ rfl hn hl.1 rfl (lv_room hst) (tb_at htb hi) hcs) hS (fun q _ h => hFc q h) hFc (fun u t H1 locs1 ht hvm hw hB hz1 hk1 hS1 => ?_)
  obtain ⟨hP1, hD1⟩ := hB
  rw [ht] at hP1
  obtain ⟨hP2, hD2⟩ := va_join (wr := wr) (w1 := wu u) hP hD isC isR hC hRr hRn hdis hk1 hFc hP1 hD1
  exact h u hw H1 locs1 ls (hP2.sub pm (hpm2 u)) (hD2.sub pm hpn (hpm u)) hS1 hl

theorem x_callWSV {x : CT} {cc : ByteArray} {tb : Tb} {nL : Nat} {own : String} {WW : List Cond} {c0 : Cond} {rm : Room} {ce sl : Nat} {ws wc : va_W} {lv : List (Nat × Value)} {st : List Value} {y : MethodName} {bytes : ByteArray} {maxL index : Nat} {rmc : Room} {As : List Value} {S : Type} {wu : S → va_W} {post : S → Prop} (C : Cx x cc tb nL own (c0 :: WW) rm) (i pc : Nat) (hM : ConV (xl x) y (Cond.code y bytes maxL (none) :: WW) rmc (xD x) (xk x) (xg x) As wc wu post) (hi : tb[i]? = some (pc, .invokestatic index, 3)) (hg : WW.all goodWord = true) (hh : ∀ w ∈ [Cond.methodLink own index y, .static y, .initialized y.cls], w ∈ WW) (hcode : Cond.code y bytes maxL (none) ∈ WW) (n : Nat) (hd : calleeOk WW y n) (hn : As.length = n) (hrm : rmc.frames + 1 ≤ rm.frames ∧ 8 + (maxL + 11) + rmc.locals ≤ rm.locals) (hst : (st.map fun v => v.category).sum ≤ 8) (hcs : ce + rmc.cells ≤ rm.cells ∧ sl + rmc.slots ≤ rm.slots) (hws : wc = ws)
    (h : ∀ (u : S), post u → Wx x nL (ce + rmc.cells) (sl + rmc.slots) (wu u) lv (pc + 3) (st)) : Wx x nL ce sl ws lv pc (As.reverse ++ st) := by
  obtain ⟨p, l, e, R, s, m, args, below, meth, c, Q, A, D, k, g⟩ := x
  obtain ⟨⟨hx, hb, hml, hown, hts⟩, htb, hR, hA, hK, hlk, hE⟩ := C
  intro H locs ls hP hD hS hl
  subst hR
  subst hws
  have hPc := hP
  have hDc := hD
  have hKc := hK
  have hFc : ∀ q, va_A wc H.size q → A q := fun q h => by rcases h with ⟨k, e, h⟩ | h; exact hD.2 k (q, e) h; exact hA q (Nat.le_trans hS.1 h)
  have hEc : EXT g (va_A wc H.size) s H := (hE.kept (fun a h1 h2 => hS.2.1 a h1 h2)).narrow hFc
  refine va_callv (va_runS (As := As) (rest := st) ⟨hx, hb, hml, hown, hts⟩ (hM H.size) (va_cwS n hts (good_ww hg hh hcode) rfl rfl rfl hd hrm) ⟨fun a U gf mk q => by obtain ⟨z0, z1, zP, zK, zD, zE⟩ := q; exact ⟨z0, z1, zP, va_K.moved (u := U) (U := U.calling gf mk a) (Vm.Alike.refl U.vm) zK, zD, zE.calling⟩, fun U hU hW => ⟨rfl, by rw [hU], by rw [hU]; exact hPc, va_K.moved hW.alike hKc, hDc.weaken (fun _ _ _ _ => trivial), by rw [hU]; exact hEc.warm hW⟩⟩ rfl hn hl.1 rfl (lv_room hst) (tb_at htb hi) hcs) hS (fun q _ h => hFc q h) hFc (fun u t H1 locs1 ht hvm hw hB hz1 hk1 hS1 => ?_)
  obtain ⟨hP1, hD1⟩ := hB
  rw [ht] at hP1
  exact h u hw H1 locs1 ls hP1 (hD1.weaken (fun _ q _ h => hFc q.1 h)) hS1 hl

theorem x_call0SV {x : CT} {cc : ByteArray} {tb : Tb} {nL : Nat} {own : String} {WW : List Cond} {c0 : Cond} {rm : Room} {ce sl : Nat} {ws wc : va_W} {lv : List (Nat × Value)} {st : List Value} {y : MethodName} {bytes : ByteArray} {maxL index : Nat} {rmc : Room} {As : List Value} {S : Type} {wu : S → va_W} {post : S → Prop} (C : Cx x cc tb nL own (c0 :: WW) rm) (i pc : Nat) (hM : ConV (xl x) y (Cond.code y bytes maxL (none) :: WW) rmc (xD x) (xk x) (xg x) As wc wu post) (hi : tb[i]? = some (pc, .invokestatic index, 3)) (hg : WW.all goodWord = true) (hh : ∀ w ∈ [Cond.methodLink own index y, .static y, .initialized y.cls], w ∈ WW) (hcode : Cond.code y bytes maxL (none) ∈ WW) (n : Nat) (hd : calleeOk WW y n) (hn : As.length = n) (hrm : rmc.frames + 1 ≤ rm.frames ∧ 8 + (maxL + 11) + rmc.locals ≤ rm.locals) (hst : (st.map fun v => v.category).sum ≤ 8) (hcs : ce + rmc.cells ≤ rm.cells ∧ sl + rmc.slots ≤ rm.slots) (hws : wc = []) 
    (h : ∀ (u : S), post u → Wx x nL (ce + rmc.cells) (sl + rmc.slots) ws lv (pc + 3) (st)) : Wx x nL ce sl ws lv pc (As.reverse ++ st) := by
  obtain ⟨p, l, e, R, s, m, args, below, meth, c, Q, A, D, k, g⟩ := x
  obtain ⟨⟨hx, hb, hml, hown, hts⟩, htb, hR, hA, hK, hlk, hE⟩ := C
  intro H locs ls hP hD hS hl
  subst hR
  subst hws
  have hPc : va_P D vwCl [] H := fun k q h => by simp at h
  have hDc : va_D A [] := ⟨fun i j p q h => by simp at h, fun k q h => by simp at h⟩
  have hKc := hK
  have hFc : ∀ q, va_A [] H.size q → A q := fun q h => by rcases h with ⟨k, e, h⟩ | h; simp at h; exact hA q (Nat.le_trans hS.1 h)
  have hEc : EXT g (va_A [] H.size) s H := (hE.kept (fun a h1 h2 => hS.2.1 a h1 h2)).narrow hFc
  refine va_callv (va_runS (As := As) (rest := st) ⟨hx, hb, hml, hown, hts⟩ (hM H.size) (va_cwS n hts (good_ww hg hh hcode) rfl rfl rfl hd hrm) ⟨fun a U gf mk q => by obtain ⟨z0, z1, zP, zK, zD, zE⟩ := q; exact ⟨z0, z1, zP, va_K.moved (u := U) (U := U.calling gf mk a) (Vm.Alike.refl U.vm) zK, zD, zE.calling⟩, fun U hU hW => ⟨rfl, by rw [hU], by rw [hU]; exact hPc, va_K.moved hW.alike hKc, hDc.weaken (fun _ _ _ _ => trivial), by rw [hU]; exact hEc.warm hW⟩⟩ rfl hn hl.1 rfl (lv_room hst) (tb_at htb hi) hcs) hS (fun q _ h => hFc q h) hFc (fun u t H1 locs1 ht hvm hw hB hz1 hk1 hS1 => ?_)
  obtain ⟨hP1, hD1⟩ := hB
  rw [ht] at hP1
  exact h u hw H1 locs1 ls (free_kept hP hk1) hD hS1 hl

theorem x_callIV {x : CT} {cc : ByteArray} {tb : Tb} {nL : Nat} {own : String} {WW : List Cond} {c0 : Cond} {rm : Room} {ce sl : Nat} {ws wc : va_W} {lv : List (Nat × Value)} {st : List Value} {y : MethodName} {bytes : ByteArray} {maxL index : Nat} {rmc : Room} {b : Nat} {As : List Value} {S : Type} {wu : S → va_W} {post : S → Prop} {wr : va_W} {w2 : S → va_W} (C : Cx x cc tb nL own (c0 :: WW) rm) (i pc : Nat) (hM : ConV (xl x) y (Cond.code y bytes maxL (none) :: WW) rmc (xD x) (xk x) (xg x) (.ref b :: As) wc wu post) (hi : tb[i]? = some (pc, .invokespecial index, 3)) (hg : WW.all goodWord = true) (hh : ∀ w ∈ [Cond.methodLink own index y, .instanceMethod y, .initialized y.cls], w ∈ WW) (hcode : Cond.code y bytes maxL (none) ∈ WW) (n : Nat) (hd : calleeOk WW y n) (hn : As.length = n) (hrm : rmc.frames + 1 ≤ rm.frames ∧ 8 + (maxL + 11) + rmc.locals ≤ rm.locals) (hst : (st.map fun v => v.category).sum ≤ 8) (hcs : ce + rmc.cells ≤ rm.cells ∧ sl + rmc.slots ≤ rm.slots) (hnm : y.name = "<init>") (isC isR pm : List Nat) (hC : isC.map (fun i => ws[i]?) = wc.map some) (hC2 : isC.filterMap (fun i => ws[i]?) = wc) (hCn : va_nd isC = true) (hRr : isR.map (fun i => ws[i]?) = wr.map some) (hRn : va_nd isR = true) (hdis : ∀ i ∈ isR, i ∉ isC) (hpm : ∀ u, pm.map (fun i => (wr ++ wu u)[i]?) = (w2 u).map some) (hpm2 : ∀ u, pm.filterMap (fun i => (wr ++ wu u)[i]?) = w2 u) (hpn : va_nd pm = true)
    (h : ∀ (u : S), post u → Wx x nL (ce + rmc.cells) (sl + rmc.slots) (w2 u) lv (pc + 3) (st)) : Wx x nL ce sl ws lv pc (As.reverse ++ .ref b :: st) := by
  obtain ⟨p, l, e, R, s, m, args, below, meth, c, Q, A, D, k, g⟩ := x
  obtain ⟨⟨hx, hb, hml, hown, hts⟩, htb, hR, hA, hK, hlk, hE⟩ := C
  intro H locs ls hP hD hS hl
  subst hR
  have hPc := hP.sub (ws' := wc) isC hC2
  have hDc := hD.sub (ws' := wc) isC hCn hC
  have hKc := hK
  have hFc := va_free (wc := wc) hD hS hA isC hC
  have hEc : EXT g (va_A wc H.size) s H := (hE.kept (fun a h1 h2 => hS.2.1 a h1 h2)).narrow hFc
  refine va_callv (va_runI (As := As) (rest := st) ⟨hx, hb, hml, hown, hts⟩ (hM H.size) (cwI n hts (fun w hw => good_ww hg (hd := []) (fun _ h => absurd h List.not_mem_nil) hcode w hw) rfl rfl rfl (hts _ (List.mem_cons_of_mem _ (hh _ (by simp)))) (hts _ (List.mem_cons_of_mem _ (hh _ (by simp)))) (hts _ (List.mem_cons_of_mem _ (hh _ (by simp)))) hnm hd hrm) ⟨fun a U gf mk q => by obtain ⟨z0, z1, zP, zK, zD, zE⟩ := q; exact ⟨z0, z1, zP, va_K.moved (u := U) (U := U.calling gf mk a) (Vm.Alike.refl U.vm) zK, zD, zE.calling⟩, fun U hU hW => ⟨rfl, by rw [hU], by rw [hU]; exact hPc, va_K.moved hW.alike hKc, hDc.weaken (fun _ _ _ _ => trivial), by rw [hU]; exact hEc.warm hW⟩⟩ rfl hn hl.1 rfl (lv_room hst) (tb_at htb hi) hcs) hS (fun q _ h => hFc q h) hFc (fun u t H1 locs1 ht hvm hw hB hz1 hk1 hS1 => ?_)
  obtain ⟨hP1, hD1⟩ := hB
  rw [ht] at hP1
  obtain ⟨hP2, hD2⟩ := va_join (wr := wr) (w1 := wu u) hP hD isC isR hC hRr hRn hdis hk1 hFc hP1 hD1
  exact h u hw H1 locs1 ls (hP2.sub pm (hpm2 u)) (hD2.sub pm hpn (hpm u)) hS1 hl

theorem x_callWIV {x : CT} {cc : ByteArray} {tb : Tb} {nL : Nat} {own : String} {WW : List Cond} {c0 : Cond} {rm : Room} {ce sl : Nat} {ws wc : va_W} {lv : List (Nat × Value)} {st : List Value} {y : MethodName} {bytes : ByteArray} {maxL index : Nat} {rmc : Room} {b : Nat} {As : List Value} {S : Type} {wu : S → va_W} {post : S → Prop} (C : Cx x cc tb nL own (c0 :: WW) rm) (i pc : Nat) (hM : ConV (xl x) y (Cond.code y bytes maxL (none) :: WW) rmc (xD x) (xk x) (xg x) (.ref b :: As) wc wu post) (hi : tb[i]? = some (pc, .invokespecial index, 3)) (hg : WW.all goodWord = true) (hh : ∀ w ∈ [Cond.methodLink own index y, .instanceMethod y, .initialized y.cls], w ∈ WW) (hcode : Cond.code y bytes maxL (none) ∈ WW) (n : Nat) (hd : calleeOk WW y n) (hn : As.length = n) (hrm : rmc.frames + 1 ≤ rm.frames ∧ 8 + (maxL + 11) + rmc.locals ≤ rm.locals) (hst : (st.map fun v => v.category).sum ≤ 8) (hcs : ce + rmc.cells ≤ rm.cells ∧ sl + rmc.slots ≤ rm.slots) (hnm : y.name = "<init>") (hws : wc = ws)
    (h : ∀ (u : S), post u → Wx x nL (ce + rmc.cells) (sl + rmc.slots) (wu u) lv (pc + 3) (st)) : Wx x nL ce sl ws lv pc (As.reverse ++ .ref b :: st) := by
  obtain ⟨p, l, e, R, s, m, args, below, meth, c, Q, A, D, k, g⟩ := x
  obtain ⟨⟨hx, hb, hml, hown, hts⟩, htb, hR, hA, hK, hlk, hE⟩ := C
  intro H locs ls hP hD hS hl
  subst hR
  subst hws
  have hPc := hP
  have hDc := hD
  have hKc := hK
  have hFc : ∀ q, va_A wc H.size q → A q := fun q h => by rcases h with ⟨k, e, h⟩ | h; exact hD.2 k (q, e) h; exact hA q (Nat.le_trans hS.1 h)
  have hEc : EXT g (va_A wc H.size) s H := (hE.kept (fun a h1 h2 => hS.2.1 a h1 h2)).narrow hFc
  refine va_callv (va_runI (As := As) (rest := st) ⟨hx, hb, hml, hown, hts⟩ (hM H.size) (cwI n hts (fun w hw => good_ww hg (hd := []) (fun _ h => absurd h List.not_mem_nil) hcode w hw) rfl rfl rfl (hts _ (List.mem_cons_of_mem _ (hh _ (by simp)))) (hts _ (List.mem_cons_of_mem _ (hh _ (by simp)))) (hts _ (List.mem_cons_of_mem _ (hh _ (by simp)))) hnm hd hrm) ⟨fun a U gf mk q => by obtain ⟨z0, z1, zP, zK, zD, zE⟩ := q; exact ⟨z0, z1, zP, va_K.moved (u := U) (U := U.calling gf mk a) (Vm.Alike.refl U.vm) zK, zD, zE.calling⟩, fun U hU hW => ⟨rfl, by rw [hU], by rw [hU]; exact hPc, va_K.moved hW.alike hKc, hDc.weaken (fun _ _ _ _ => trivial), by rw [hU]; exact hEc.warm hW⟩⟩ rfl hn hl.1 rfl (lv_room hst) (tb_at htb hi) hcs) hS (fun q _ h => hFc q h) hFc (fun u t H1 locs1 ht hvm hw hB hz1 hk1 hS1 => ?_)
  obtain ⟨hP1, hD1⟩ := hB
  rw [ht] at hP1
  exact h u hw H1 locs1 ls hP1 (hD1.weaken (fun _ q _ h => hFc q.1 h)) hS1 hl

/-- loops: a body over what comes next, gone a number of times -/
def lpF {α : Type} (F : (α → Prop) → α → Prop) : Nat → α → Prop
  | 0, _ => False
  | n + 1, a => F (lpF F n) a
def Lp {α : Type} (F : (α → Prop) → α → Prop) (a : α) : Prop := ∃ n, lpF F n a
theorem lp_ind {α : Type} {F : (α → Prop) → α → Prop} (I : α → Prop) (μ : α → Nat) (h : ∀ (a : α) (R : α → Prop), I a → (∀ b, I b → μ b < μ a → R b) → F R a) (a : α) (ha : I a) : Lp F a := by
  have key : ∀ (n : Nat) (a : α), μ a < n → I a → lpF F n a := by
    intro n
    induction n with
    | zero => intro a h; omega
    | succ n ih => intro a h1 h2; exact h a (lpF F n) h2 (fun b hb h3 => ih b (by omega) hb)
  exact ⟨μ a + 1, key _ a (by omega) ha⟩
theorem lp_walk {α : Type} {F : (α → Prop) → α → Prop} {P : α → Prop} (h : ∀ (a : α) (R : α → Prop), (∀ b, R b → P b) → F R a → P a) {a : α} (ha : Lp F a) : P a := by
  obtain ⟨n, hn⟩ := ha
  induction n generalizing a with
  | zero => exact absurd hn id
  | succ n ih => exact h a (lpF F n) (fun b hb => ih hb) hn
theorem ne_toInt {a v : Int32} (h : ¬ a = v) : a.toInt ≠ v.toInt := fun e => h (Int32.toInt_inj.mp e)
end
