section
-- ===== PART A: goes FIRST, ahead of the names: the tables' words, and 'selects' of the private methods out of them =====
/-- a private method of a class that the tables say can be made, by its rows of tables_1 -/
def lw_okq (q : MethodName × Nat) : Prop := (q.1.cls ≠ "java/lang/invoke/MethodHandle" ∧ q.1.cls ≠ "java/lang/invoke/VarHandle") ∧ Cond.instantiable q.1.cls q.2 ∈ tables_1 ∧ Cond.privateMethod q.1 ∈ tables_1 ∧ Cond.instanceMethod q.1 ∈ tables_1
theorem lw_p0 : lw_okq (⟨"CreaseFlat", "addPaper", "(III)I"⟩, 15) := ⟨⟨by decide +kernel, by decide +kernel⟩, List.mem_of_getElem? (i := 12) (by decide +kernel), List.mem_of_getElem? (i := 151) (by decide +kernel), List.mem_of_getElem? (i := 152) (by decide +kernel)⟩
theorem lw_p1 : lw_okq (⟨"CreaseFlat$Paper", "joinFaces", "()V"⟩, 18) := ⟨⟨by decide +kernel, by decide +kernel⟩, List.mem_of_getElem? (i := 154) (by decide +kernel), List.mem_of_getElem? (i := 163) (by decide +kernel), List.mem_of_getElem? (i := 164) (by decide +kernel)⟩
theorem lw_p2 : lw_okq (⟨"CreaseFlat$Paper", "join", "(III)V"⟩, 18) := ⟨⟨by decide +kernel, by decide +kernel⟩, List.mem_of_getElem? (i := 154) (by decide +kernel), List.mem_of_getElem? (i := 167) (by decide +kernel), List.mem_of_getElem? (i := 168) (by decide +kernel)⟩
theorem lw_p3 : lw_okq (⟨"CreaseFlat$Paper", "sideOf", "(I)I"⟩, 18) := ⟨⟨by decide +kernel, by decide +kernel⟩, List.mem_of_getElem? (i := 154) (by decide +kernel), List.mem_of_getElem? (i := 179) (by decide +kernel), List.mem_of_getElem? (i := 180) (by decide +kernel)⟩
theorem lw_p4 : lw_okq (⟨"CreaseFlat$Paper", "facesOver", "(I)I"⟩, 18) := ⟨⟨by decide +kernel, by decide +kernel⟩, List.mem_of_getElem? (i := 154) (by decide +kernel), List.mem_of_getElem? (i := 183) (by decide +kernel), List.mem_of_getElem? (i := 184) (by decide +kernel)⟩
theorem lw_p5 : lw_okq (⟨"CreaseFlat$Paper", "rivalsOf", "(I)I"⟩, 18) := ⟨⟨by decide +kernel, by decide +kernel⟩, List.mem_of_getElem? (i := 154) (by decide +kernel), List.mem_of_getElem? (i := 196) (by decide +kernel), List.mem_of_getElem? (i := 197) (by decide +kernel)⟩
theorem lw_p6 : lw_okq (⟨"CreaseFlat$Paper", "onOneSide", "(II)Z"⟩, 18) := ⟨⟨by decide +kernel, by decide +kernel⟩, List.mem_of_getElem? (i := 154) (by decide +kernel), List.mem_of_getElem? (i := 200) (by decide +kernel), List.mem_of_getElem? (i := 201) (by decide +kernel)⟩
theorem lw_p7 : lw_okq (⟨"CreaseFlat$Paper", "haveFourFaces", "(II)Z"⟩, 18) := ⟨⟨by decide +kernel, by decide +kernel⟩, List.mem_of_getElem? (i := 154) (by decide +kernel), List.mem_of_getElem? (i := 204) (by decide +kernel), List.mem_of_getElem? (i := 205) (by decide +kernel)⟩
theorem lw_p8 : lw_okq (⟨"CreaseFlat", "find", "(I)LCreaseFlat$Paper;"⟩, 15) := ⟨⟨by decide +kernel, by decide +kernel⟩, List.mem_of_getElem? (i := 12) (by decide +kernel), List.mem_of_getElem? (i := 304) (by decide +kernel), List.mem_of_getElem? (i := 305) (by decide +kernel)⟩
theorem lw_p9 : lw_okq (⟨"CreaseFlat$Pile", "demandsClash", "(LCreaseFlat$Paper;)Z"⟩, 10) := ⟨⟨by decide +kernel, by decide +kernel⟩, List.mem_of_getElem? (i := 22) (by decide +kernel), List.mem_of_getElem? (i := 374) (by decide +kernel), List.mem_of_getElem? (i := 375) (by decide +kernel)⟩
theorem lw_p10 : lw_okq (⟨"CreaseFlat$Pile", "candidates", "(LCreaseFlat$Paper;)I"⟩, 10) := ⟨⟨by decide +kernel, by decide +kernel⟩, List.mem_of_getElem? (i := 22) (by decide +kernel), List.mem_of_getElem? (i := 378) (by decide +kernel), List.mem_of_getElem? (i := 379) (by decide +kernel)⟩
theorem lw_p11 : lw_okq (⟨"CreaseFlat$Pile", "barredFromClosing", "(LCreaseFlat$Paper;I)I"⟩, 10) := ⟨⟨by decide +kernel, by decide +kernel⟩, List.mem_of_getElem? (i := 22) (by decide +kernel), List.mem_of_getElem? (i := 382) (by decide +kernel), List.mem_of_getElem? (i := 383) (by decide +kernel)⟩
theorem lw_p12 : lw_okq (⟨"CreaseFlat$Pile", "readyAmong", "(LCreaseFlat$Paper;I)I"⟩, 10) := ⟨⟨by decide +kernel, by decide +kernel⟩, List.mem_of_getElem? (i := 22) (by decide +kernel), List.mem_of_getElem? (i := 386) (by decide +kernel), List.mem_of_getElem? (i := 387) (by decide +kernel)⟩
theorem lw_p13 : lw_okq (⟨"CreaseFlat$Pile", "leastUntried", "()I"⟩, 10) := ⟨⟨by decide +kernel, by decide +kernel⟩, List.mem_of_getElem? (i := 22) (by decide +kernel), List.mem_of_getElem? (i := 391) (by decide +kernel), List.mem_of_getElem? (i := 392) (by decide +kernel)⟩
theorem lw_p14 : lw_okq (⟨"CreaseFlat$Pile", "put", "(LCreaseFlat$Paper;I)V"⟩, 10) := ⟨⟨by decide +kernel, by decide +kernel⟩, List.mem_of_getElem? (i := 22) (by decide +kernel), List.mem_of_getElem? (i := 395) (by decide +kernel), List.mem_of_getElem? (i := 396) (by decide +kernel)⟩
theorem lw_p15 : lw_okq (⟨"CreaseFlat$Pile", "takeOff", "()V"⟩, 10) := ⟨⟨by decide +kernel, by decide +kernel⟩, List.mem_of_getElem? (i := 22) (by decide +kernel), List.mem_of_getElem? (i := 399) (by decide +kernel), List.mem_of_getElem? (i := 400) (by decide +kernel)⟩
def lw_privs_1 : List (MethodName × Nat) := [(⟨"CreaseFlat", "addPaper", "(III)I"⟩, 15), (⟨"CreaseFlat$Paper", "joinFaces", "()V"⟩, 18), (⟨"CreaseFlat$Paper", "join", "(III)V"⟩, 18), (⟨"CreaseFlat$Paper", "sideOf", "(I)I"⟩, 18), (⟨"CreaseFlat$Paper", "facesOver", "(I)I"⟩, 18), (⟨"CreaseFlat$Paper", "rivalsOf", "(I)I"⟩, 18), (⟨"CreaseFlat$Paper", "onOneSide", "(II)Z"⟩, 18), (⟨"CreaseFlat$Paper", "haveFourFaces", "(II)Z"⟩, 18), (⟨"CreaseFlat", "find", "(I)LCreaseFlat$Paper;"⟩, 15), (⟨"CreaseFlat$Pile", "demandsClash", "(LCreaseFlat$Paper;)Z"⟩, 10), (⟨"CreaseFlat$Pile", "candidates", "(LCreaseFlat$Paper;)I"⟩, 10), (⟨"CreaseFlat$Pile", "barredFromClosing", "(LCreaseFlat$Paper;I)I"⟩, 10), (⟨"CreaseFlat$Pile", "readyAmong", "(LCreaseFlat$Paper;I)I"⟩, 10), (⟨"CreaseFlat$Pile", "leastUntried", "()I"⟩, 10), (⟨"CreaseFlat$Pile", "put", "(LCreaseFlat$Paper;I)V"⟩, 10), (⟨"CreaseFlat$Pile", "takeOff", "()V"⟩, 10)]
theorem lw_r1 : ∀ q ∈ lw_privs_1, lw_okq q := List.forall_mem_cons.mpr ⟨lw_p0, List.forall_mem_cons.mpr ⟨lw_p1, List.forall_mem_cons.mpr ⟨lw_p2, List.forall_mem_cons.mpr ⟨lw_p3, List.forall_mem_cons.mpr ⟨lw_p4, List.forall_mem_cons.mpr ⟨lw_p5, List.forall_mem_cons.mpr ⟨lw_p6, List.forall_mem_cons.mpr ⟨lw_p7, List.forall_mem_cons.mpr ⟨lw_p8, List.forall_mem_cons.mpr ⟨lw_p9, List.forall_mem_cons.mpr ⟨lw_p10, List.forall_mem_cons.mpr ⟨lw_p11, List.forall_mem_cons.mpr ⟨lw_p12, List.forall_mem_cons.mpr ⟨lw_p13, List.forall_mem_cons.mpr ⟨lw_p14, List.forall_mem_cons.mpr ⟨lw_p15, fun _ h => absurd h List.not_mem_nil⟩⟩⟩⟩⟩⟩⟩⟩⟩⟩⟩⟩⟩⟩⟩⟩
theorem lw_p16 : lw_okq (⟨"CreaseFlat", "readOrder", "(IJ)Z"⟩, 15) := ⟨⟨by decide +kernel, by decide +kernel⟩, List.mem_of_getElem? (i := 12) (by decide +kernel), List.mem_of_getElem? (i := 438) (by decide +kernel), List.mem_of_getElem? (i := 439) (by decide +kernel)⟩
theorem lw_p17 : lw_okq (⟨"CreaseFlat$Paper", "liesWithin", "(II[I)Z"⟩, 18) := ⟨⟨by decide +kernel, by decide +kernel⟩, List.mem_of_getElem? (i := 154) (by decide +kernel), List.mem_of_getElem? (i := 456) (by decide +kernel), List.mem_of_getElem? (i := 457) (by decide +kernel)⟩
theorem lw_p18 : lw_okq (⟨"CreaseFlat", "canBecome", "(LCreaseFlat$Paper;II)Z"⟩, 15) := ⟨⟨by decide +kernel, by decide +kernel⟩, List.mem_of_getElem? (i := 12) (by decide +kernel), List.mem_of_getElem? (i := 468) (by decide +kernel), List.mem_of_getElem? (i := 469) (by decide +kernel)⟩
theorem lw_p19 : lw_okq (⟨"CreaseFlat", "canLieBelow", "(LCreaseFlat$Paper;II)Z"⟩, 15) := ⟨⟨by decide +kernel, by decide +kernel⟩, List.mem_of_getElem? (i := 12) (by decide +kernel), List.mem_of_getElem? (i := 477) (by decide +kernel), List.mem_of_getElem? (i := 478) (by decide +kernel)⟩
theorem lw_p20 : lw_okq (⟨"CreaseFlat", "allowTheSame", "(LCreaseFlat$Paper;LCreaseFlat$Paper;)Z"⟩, 15) := ⟨⟨by decide +kernel, by decide +kernel⟩, List.mem_of_getElem? (i := 12) (by decide +kernel), List.mem_of_getElem? (i := 486) (by decide +kernel), List.mem_of_getElem? (i := 487) (by decide +kernel)⟩
theorem lw_p21 : lw_okq (⟨"CreaseFlat", "isNew", "(I)Z"⟩, 15) := ⟨⟨by decide +kernel, by decide +kernel⟩, List.mem_of_getElem? (i := 12) (by decide +kernel), List.mem_of_getElem? (i := 501) (by decide +kernel), List.mem_of_getElem? (i := 502) (by decide +kernel)⟩
theorem lw_p22 : lw_okq (⟨"CreaseFlat", "allowsSome", "(LCreaseFlat$Paper;I)Z"⟩, 15) := ⟨⟨by decide +kernel, by decide +kernel⟩, List.mem_of_getElem? (i := 12) (by decide +kernel), List.mem_of_getElem? (i := 509) (by decide +kernel), List.mem_of_getElem? (i := 510) (by decide +kernel)⟩
theorem lw_p23 : lw_okq (⟨"CreaseFlat$Ways", "tryLines", "(LCreaseFlat$Paper;IILCreaseFlat$Lay;)V"⟩, 3) := ⟨⟨by decide +kernel, by decide +kernel⟩, List.mem_of_getElem? (i := 84) (by decide +kernel), List.mem_of_getElem? (i := 544) (by decide +kernel), List.mem_of_getElem? (i := 545) (by decide +kernel)⟩
theorem lw_p24 : lw_okq (⟨"CreaseFlat$Ways", "tryStep", "(LCreaseFlat$Paper;IILCreaseFlat$Lay;)V"⟩, 3) := ⟨⟨by decide +kernel, by decide +kernel⟩, List.mem_of_getElem? (i := 84) (by decide +kernel), List.mem_of_getElem? (i := 551) (by decide +kernel), List.mem_of_getElem? (i := 552) (by decide +kernel)⟩
theorem lw_p25 : lw_okq (⟨"CreaseFlat$Lay", "unfoldedAt", "(LCreaseFlat$Paper;II)I"⟩, 3) := ⟨⟨by decide +kernel, by decide +kernel⟩, List.mem_of_getElem? (i := 62) (by decide +kernel), List.mem_of_getElem? (i := 559) (by decide +kernel), List.mem_of_getElem? (i := 560) (by decide +kernel)⟩
theorem lw_p26 : lw_okq (⟨"CreaseFlat$Lay", "isWithinOne", "(LCreaseFlat$Paper;II)Z"⟩, 3) := ⟨⟨by decide +kernel, by decide +kernel⟩, List.mem_of_getElem? (i := 62) (by decide +kernel), List.mem_of_getElem? (i := 563) (by decide +kernel), List.mem_of_getElem? (i := 564) (by decide +kernel)⟩
theorem lw_p27 : lw_okq (⟨"CreaseFlat$Lay", "marksAllow", "(LCreaseFlat$Paper;IZ)Z"⟩, 3) := ⟨⟨by decide +kernel, by decide +kernel⟩, List.mem_of_getElem? (i := 62) (by decide +kernel), List.mem_of_getElem? (i := 568) (by decide +kernel), List.mem_of_getElem? (i := 569) (by decide +kernel)⟩
theorem lw_p28 : lw_okq (⟨"CreaseFlatModel", "add", "(II)I"⟩, 29) := ⟨⟨by decide +kernel, by decide +kernel⟩, List.mem_of_getElem? (i := 604) (by decide +kernel), List.mem_of_getElem? (i := 704) (by decide +kernel), List.mem_of_getElem? (i := 705) (by decide +kernel)⟩
theorem lw_p29 : lw_okq (⟨"CreaseFlatModel", "addCrease", "(III)V"⟩, 29) := ⟨⟨by decide +kernel, by decide +kernel⟩, List.mem_of_getElem? (i := 604) (by decide +kernel), List.mem_of_getElem? (i := 708) (by decide +kernel), List.mem_of_getElem? (i := 709) (by decide +kernel)⟩
theorem lw_p30 : lw_okq (⟨"CreaseFlatModel", "hasFace", "(II)Z"⟩, 29) := ⟨⟨by decide +kernel, by decide +kernel⟩, List.mem_of_getElem? (i := 604) (by decide +kernel), List.mem_of_getElem? (i := 724) (by decide +kernel), List.mem_of_getElem? (i := 725) (by decide +kernel)⟩
theorem lw_p31 : lw_okq (⟨"CreaseFlatModel", "has", "(I)Z"⟩, 29) := ⟨⟨by decide +kernel, by decide +kernel⟩, List.mem_of_getElem? (i := 604) (by decide +kernel), List.mem_of_getElem? (i := 728) (by decide +kernel), List.mem_of_getElem? (i := 729) (by decide +kernel)⟩
def lw_privs_2 : List (MethodName × Nat) := [(⟨"CreaseFlat", "readOrder", "(IJ)Z"⟩, 15), (⟨"CreaseFlat$Paper", "liesWithin", "(II[I)Z"⟩, 18), (⟨"CreaseFlat", "canBecome", "(LCreaseFlat$Paper;II)Z"⟩, 15), (⟨"CreaseFlat", "canLieBelow", "(LCreaseFlat$Paper;II)Z"⟩, 15), (⟨"CreaseFlat", "allowTheSame", "(LCreaseFlat$Paper;LCreaseFlat$Paper;)Z"⟩, 15), (⟨"CreaseFlat", "isNew", "(I)Z"⟩, 15), (⟨"CreaseFlat", "allowsSome", "(LCreaseFlat$Paper;I)Z"⟩, 15), (⟨"CreaseFlat$Ways", "tryLines", "(LCreaseFlat$Paper;IILCreaseFlat$Lay;)V"⟩, 3), (⟨"CreaseFlat$Ways", "tryStep", "(LCreaseFlat$Paper;IILCreaseFlat$Lay;)V"⟩, 3), (⟨"CreaseFlat$Lay", "unfoldedAt", "(LCreaseFlat$Paper;II)I"⟩, 3), (⟨"CreaseFlat$Lay", "isWithinOne", "(LCreaseFlat$Paper;II)Z"⟩, 3), (⟨"CreaseFlat$Lay", "marksAllow", "(LCreaseFlat$Paper;IZ)Z"⟩, 3), (⟨"CreaseFlatModel", "add", "(II)I"⟩, 29), (⟨"CreaseFlatModel", "addCrease", "(III)V"⟩, 29), (⟨"CreaseFlatModel", "hasFace", "(II)Z"⟩, 29), (⟨"CreaseFlatModel", "has", "(I)Z"⟩, 29)]
theorem lw_r2 : ∀ q ∈ lw_privs_2, lw_okq q := List.forall_mem_cons.mpr ⟨lw_p16, List.forall_mem_cons.mpr ⟨lw_p17, List.forall_mem_cons.mpr ⟨lw_p18, List.forall_mem_cons.mpr ⟨lw_p19, List.forall_mem_cons.mpr ⟨lw_p20, List.forall_mem_cons.mpr ⟨lw_p21, List.forall_mem_cons.mpr ⟨lw_p22, List.forall_mem_cons.mpr ⟨lw_p23, List.forall_mem_cons.mpr ⟨lw_p24, List.forall_mem_cons.mpr ⟨lw_p25, List.forall_mem_cons.mpr ⟨lw_p26, List.forall_mem_cons.mpr ⟨lw_p27, List.forall_mem_cons.mpr ⟨lw_p28, List.forall_mem_cons.mpr ⟨lw_p29, List.forall_mem_cons.mpr ⟨lw_p30, List.forall_mem_cons.mpr ⟨lw_p31, fun _ h => absurd h List.not_mem_nil⟩⟩⟩⟩⟩⟩⟩⟩⟩⟩⟩⟩⟩⟩⟩⟩
theorem lw_p32 : lw_okq (⟨"CreaseFlatModel", "hasCrease", "(II)Z"⟩, 29) := ⟨⟨by decide +kernel, by decide +kernel⟩, List.mem_of_getElem? (i := 604) (by decide +kernel), List.mem_of_getElem? (i := 736) (by decide +kernel), List.mem_of_getElem? (i := 737) (by decide +kernel)⟩
theorem lw_p33 : lw_okq (⟨"CreaseFlatModel", "marked", "(II)I"⟩, 29) := ⟨⟨by decide +kernel, by decide +kernel⟩, List.mem_of_getElem? (i := 604) (by decide +kernel), List.mem_of_getElem? (i := 744) (by decide +kernel), List.mem_of_getElem? (i := 745) (by decide +kernel)⟩
theorem lw_p34 : lw_okq (⟨"CreaseFlatModel", "uneven", "(I)I"⟩, 29) := ⟨⟨by decide +kernel, by decide +kernel⟩, List.mem_of_getElem? (i := 604) (by decide +kernel), List.mem_of_getElem? (i := 748) (by decide +kernel), List.mem_of_getElem? (i := 749) (by decide +kernel)⟩
theorem lw_p35 : lw_okq (⟨"CreaseFlatModel", "placeOf", "(II)I"⟩, 29) := ⟨⟨by decide +kernel, by decide +kernel⟩, List.mem_of_getElem? (i := 604) (by decide +kernel), List.mem_of_getElem? (i := 756) (by decide +kernel), List.mem_of_getElem? (i := 757) (by decide +kernel)⟩
theorem lw_p36 : lw_okq (⟨"CreaseFlatModel", "begins", "(II)I"⟩, 29) := ⟨⟨by decide +kernel, by decide +kernel⟩, List.mem_of_getElem? (i := 604) (by decide +kernel), List.mem_of_getElem? (i := 760) (by decide +kernel), List.mem_of_getElem? (i := 761) (by decide +kernel)⟩
theorem lw_p37 : lw_okq (⟨"CreaseFlatModel", "begin", "(I)V"⟩, 29) := ⟨⟨by decide +kernel, by decide +kernel⟩, List.mem_of_getElem? (i := 604) (by decide +kernel), List.mem_of_getElem? (i := 768) (by decide +kernel), List.mem_of_getElem? (i := 769) (by decide +kernel)⟩
theorem lw_p38 : lw_okq (⟨"CreaseFlatModel", "next", "()Z"⟩, 29) := ⟨⟨by decide +kernel, by decide +kernel⟩, List.mem_of_getElem? (i := 604) (by decide +kernel), List.mem_of_getElem? (i := 772) (by decide +kernel), List.mem_of_getElem? (i := 773) (by decide +kernel)⟩
theorem lw_p39 : lw_okq (⟨"CreaseFlatModel", "isFine", "(I)Z"⟩, 29) := ⟨⟨by decide +kernel, by decide +kernel⟩, List.mem_of_getElem? (i := 604) (by decide +kernel), List.mem_of_getElem? (i := 776) (by decide +kernel), List.mem_of_getElem? (i := 777) (by decide +kernel)⟩
theorem lw_p40 : lw_okq (⟨"CreaseFlatModel", "isClosed", "(III)Z"⟩, 29) := ⟨⟨by decide +kernel, by decide +kernel⟩, List.mem_of_getElem? (i := 604) (by decide +kernel), List.mem_of_getElem? (i := 780) (by decide +kernel), List.mem_of_getElem? (i := 781) (by decide +kernel)⟩
theorem lw_p41 : lw_okq (⟨"CreaseFlatModel", "markIn", "(I)I"⟩, 29) := ⟨⟨by decide +kernel, by decide +kernel⟩, List.mem_of_getElem? (i := 604) (by decide +kernel), List.mem_of_getElem? (i := 784) (by decide +kernel), List.mem_of_getElem? (i := 785) (by decide +kernel)⟩
theorem lw_p42 : lw_okq (⟨"CreaseFlatModel", "isUp", "(II)Z"⟩, 29) := ⟨⟨by decide +kernel, by decide +kernel⟩, List.mem_of_getElem? (i := 604) (by decide +kernel), List.mem_of_getElem? (i := 788) (by decide +kernel), List.mem_of_getElem? (i := 789) (by decide +kernel)⟩
theorem lw_p43 : lw_okq (⟨"CreaseFlatModel", "isOneSide", "(II)Z"⟩, 29) := ⟨⟨by decide +kernel, by decide +kernel⟩, List.mem_of_getElem? (i := 604) (by decide +kernel), List.mem_of_getElem? (i := 798) (by decide +kernel), List.mem_of_getElem? (i := 799) (by decide +kernel)⟩
theorem lw_p44 : lw_okq (⟨"CreaseFlatModel", "isFour", "(II)Z"⟩, 29) := ⟨⟨by decide +kernel, by decide +kernel⟩, List.mem_of_getElem? (i := 604) (by decide +kernel), List.mem_of_getElem? (i := 802) (by decide +kernel), List.mem_of_getElem? (i := 803) (by decide +kernel)⟩
theorem lw_p45 : lw_okq (⟨"CreaseFlatModel", "isWithin", "(II)Z"⟩, 29) := ⟨⟨by decide +kernel, by decide +kernel⟩, List.mem_of_getElem? (i := 604) (by decide +kernel), List.mem_of_getElem? (i := 806) (by decide +kernel), List.mem_of_getElem? (i := 807) (by decide +kernel)⟩
theorem lw_p46 : lw_okq (⟨"CreaseFlatModel", "number", "()J"⟩, 29) := ⟨⟨by decide +kernel, by decide +kernel⟩, List.mem_of_getElem? (i := 604) (by decide +kernel), List.mem_of_getElem? (i := 827) (by decide +kernel), List.mem_of_getElem? (i := 828) (by decide +kernel)⟩
theorem lw_p47 : lw_okq (⟨"CreaseFlatModel", "isBetween", "(II)Z"⟩, 29) := ⟨⟨by decide +kernel, by decide +kernel⟩, List.mem_of_getElem? (i := 604) (by decide +kernel), List.mem_of_getElem? (i := 838) (by decide +kernel), List.mem_of_getElem? (i := 839) (by decide +kernel)⟩
def lw_privs_3 : List (MethodName × Nat) := [(⟨"CreaseFlatModel", "hasCrease", "(II)Z"⟩, 29), (⟨"CreaseFlatModel", "marked", "(II)I"⟩, 29), (⟨"CreaseFlatModel", "uneven", "(I)I"⟩, 29), (⟨"CreaseFlatModel", "placeOf", "(II)I"⟩, 29), (⟨"CreaseFlatModel", "begins", "(II)I"⟩, 29), (⟨"CreaseFlatModel", "begin", "(I)V"⟩, 29), (⟨"CreaseFlatModel", "next", "()Z"⟩, 29), (⟨"CreaseFlatModel", "isFine", "(I)Z"⟩, 29), (⟨"CreaseFlatModel", "isClosed", "(III)Z"⟩, 29), (⟨"CreaseFlatModel", "markIn", "(I)I"⟩, 29), (⟨"CreaseFlatModel", "isUp", "(II)Z"⟩, 29), (⟨"CreaseFlatModel", "isOneSide", "(II)Z"⟩, 29), (⟨"CreaseFlatModel", "isFour", "(II)Z"⟩, 29), (⟨"CreaseFlatModel", "isWithin", "(II)Z"⟩, 29), (⟨"CreaseFlatModel", "number", "()J"⟩, 29), (⟨"CreaseFlatModel", "isBetween", "(II)Z"⟩, 29)]
theorem lw_r3 : ∀ q ∈ lw_privs_3, lw_okq q := List.forall_mem_cons.mpr ⟨lw_p32, List.forall_mem_cons.mpr ⟨lw_p33, List.forall_mem_cons.mpr ⟨lw_p34, List.forall_mem_cons.mpr ⟨lw_p35, List.forall_mem_cons.mpr ⟨lw_p36, List.forall_mem_cons.mpr ⟨lw_p37, List.forall_mem_cons.mpr ⟨lw_p38, List.forall_mem_cons.mpr ⟨lw_p39, List.forall_mem_cons.mpr ⟨lw_p40, List.forall_mem_cons.mpr ⟨lw_p41, List.forall_mem_cons.mpr ⟨lw_p42, List.forall_mem_cons.mpr ⟨lw_p43, List.forall_mem_cons.mpr ⟨lw_p44, List.forall_mem_cons.mpr ⟨lw_p45, List.forall_mem_cons.mpr ⟨lw_p46, List.forall_mem_cons.mpr ⟨lw_p47, fun _ h => absurd h List.not_mem_nil⟩⟩⟩⟩⟩⟩⟩⟩⟩⟩⟩⟩⟩⟩⟩⟩
theorem lw_p48 : lw_okq (⟨"CreaseFlatModel", "isAllowed", "(I)Z"⟩, 29) := ⟨⟨by decide +kernel, by decide +kernel⟩, List.mem_of_getElem? (i := 604) (by decide +kernel), List.mem_of_getElem? (i := 864) (by decide +kernel), List.mem_of_getElem? (i := 865) (by decide +kernel)⟩
theorem lw_p49 : lw_okq (⟨"CreaseFlatModel", "gapsOf", "(IZ)I"⟩, 29) := ⟨⟨by decide +kernel, by decide +kernel⟩, List.mem_of_getElem? (i := 604) (by decide +kernel), List.mem_of_getElem? (i := 876) (by decide +kernel), List.mem_of_getElem? (i := 877) (by decide +kernel)⟩
theorem lw_p50 : lw_okq (⟨"CreaseFlatModel", "stateOf", "(II)I"⟩, 29) := ⟨⟨by decide +kernel, by decide +kernel⟩, List.mem_of_getElem? (i := 604) (by decide +kernel), List.mem_of_getElem? (i := 880) (by decide +kernel), List.mem_of_getElem? (i := 881) (by decide +kernel)⟩
theorem lw_p51 : lw_okq (⟨"CreaseFlatModel", "best", "(IIIIIZ)I"⟩, 29) := ⟨⟨by decide +kernel, by decide +kernel⟩, List.mem_of_getElem? (i := 604) (by decide +kernel), List.mem_of_getElem? (i := 884) (by decide +kernel), List.mem_of_getElem? (i := 885) (by decide +kernel)⟩
theorem lw_p52 : lw_okq (⟨"CreaseFlatModel", "liesAt", "(III)I"⟩, 29) := ⟨⟨by decide +kernel, by decide +kernel⟩, List.mem_of_getElem? (i := 604) (by decide +kernel), List.mem_of_getElem? (i := 888) (by decide +kernel), List.mem_of_getElem? (i := 889) (by decide +kernel)⟩
theorem lw_p53 : lw_okq (⟨"CreaseFlatModel", "lengthOf", "(II)I"⟩, 29) := ⟨⟨by decide +kernel, by decide +kernel⟩, List.mem_of_getElem? (i := 604) (by decide +kernel), List.mem_of_getElem? (i := 895) (by decide +kernel), List.mem_of_getElem? (i := 896) (by decide +kernel)⟩
theorem lw_p54 : lw_okq (⟨"CreaseFlatModel", "done", "(IIII)I"⟩, 29) := ⟨⟨by decide +kernel, by decide +kernel⟩, List.mem_of_getElem? (i := 604) (by decide +kernel), List.mem_of_getElem? (i := 899) (by decide +kernel), List.mem_of_getElem? (i := 900) (by decide +kernel)⟩
theorem lw_p55 : lw_okq (⟨"CreaseFlatModel", "creasesIn", "(IIZ)I"⟩, 29) := ⟨⟨by decide +kernel, by decide +kernel⟩, List.mem_of_getElem? (i := 604) (by decide +kernel), List.mem_of_getElem? (i := 911) (by decide +kernel), List.mem_of_getElem? (i := 912) (by decide +kernel)⟩
def lw_privs_4 : List (MethodName × Nat) := [(⟨"CreaseFlatModel", "isAllowed", "(I)Z"⟩, 29), (⟨"CreaseFlatModel", "gapsOf", "(IZ)I"⟩, 29), (⟨"CreaseFlatModel", "stateOf", "(II)I"⟩, 29), (⟨"CreaseFlatModel", "best", "(IIIIIZ)I"⟩, 29), (⟨"CreaseFlatModel", "liesAt", "(III)I"⟩, 29), (⟨"CreaseFlatModel", "lengthOf", "(II)I"⟩, 29), (⟨"CreaseFlatModel", "done", "(IIII)I"⟩, 29), (⟨"CreaseFlatModel", "creasesIn", "(IIZ)I"⟩, 29)]
theorem lw_r4 : ∀ q ∈ lw_privs_4, lw_okq q := List.forall_mem_cons.mpr ⟨lw_p48, List.forall_mem_cons.mpr ⟨lw_p49, List.forall_mem_cons.mpr ⟨lw_p50, List.forall_mem_cons.mpr ⟨lw_p51, List.forall_mem_cons.mpr ⟨lw_p52, List.forall_mem_cons.mpr ⟨lw_p53, List.forall_mem_cons.mpr ⟨lw_p54, List.forall_mem_cons.mpr ⟨lw_p55, fun _ h => absurd h List.not_mem_nil⟩⟩⟩⟩⟩⟩⟩⟩
def lw_privs : List (MethodName × Nat) := lw_privs_1 ++ (lw_privs_2 ++ (lw_privs_3 ++ (lw_privs_4)))
def lw_tbl : List Cond := k2_sels lw_privs ++ tables_1
theorem lw_privs_ok : ∀ q ∈ lw_privs, lw_okq q := by
  show ∀ q ∈ lw_privs_1 ++ (lw_privs_2 ++ (lw_privs_3 ++ (lw_privs_4))), lw_okq q
  exact List.forall_mem_append.mpr ⟨lw_r1, List.forall_mem_append.mpr ⟨lw_r2, List.forall_mem_append.mpr ⟨lw_r3, lw_r4⟩⟩⟩
end
section
/-! ===== BEGIN printed: names, fields, word lists, decode rows ===== -/
def RX0 : String := "CreaseFlat$Lay"
def TX0 : u_T := fun k => match k with
  | 0 => ("CreaseFlat$Lay", "folded", "I", false)
  | 1 => ("CreaseFlat$Lay", "edges", "[[I", true)
  | _ => ("CreaseFlat$Lay", "turns", "[[I", true)
def tyX0 : Nat → FieldType := fun k => match k with
  | 0 => .int
  | 1 => .array (.array .int)
  | _ => .array (.array .int)
abbrev wsX00 : List Cond := u_ws RX0 TX0 3
theorem nmX0 : ∀ a, a < 3 → ∀ b, b < 3 → a ≠ b → (TX0 a).2.1 ≠ (TX0 b).2.1 := by decide +kernel
theorem tyX0_ok : ∀ k, k < 3 → parseFieldDescriptor (TX0 k).2.2.1 = some (tyX0 k) := by decide +kernel
abbrev cX0_init : ByteArray := prog_2_method_1_code
def yX0_init : MethodName := ⟨RX0, "<init>", "()V"⟩
abbrev cX0_put : ByteArray := prog_2_method_2_code
def yX0_put : MethodName := ⟨RX0, "put", "(LCreaseFlat$Paper;I)V"⟩
abbrev cX0_bands : ByteArray := prog_2_method_3_code
def yX0_bands : MethodName := ⟨RX0, "bands", "(LCreaseFlat$Paper;I)I"⟩
abbrev cX0_lineBehind : ByteArray := prog_2_method_4_code
def yX0_lineBehind : MethodName := ⟨RX0, "lineBehind", "(LCreaseFlat$Paper;II)I"⟩
abbrev cX0_isFrontUp : ByteArray := prog_2_method_5_code
def yX0_isFrontUp : MethodName := ⟨RX0, "isFrontUp", "(LCreaseFlat$Paper;I)Z"⟩
abbrev cX0_linesFoldedBy : ByteArray := prog_2_method_6_code
def yX0_linesFoldedBy : MethodName := ⟨RX0, "linesFoldedBy", "(LCreaseFlat$Paper;I)I"⟩
abbrev cX0_unfoldedAt : ByteArray := prog_2_method_7_code
def yX0_unfoldedAt : MethodName := ⟨RX0, "unfoldedAt", "(LCreaseFlat$Paper;II)I"⟩
abbrev cX0_isWithinOne : ByteArray := prog_2_method_8_code
def yX0_isWithinOne : MethodName := ⟨RX0, "isWithinOne", "(LCreaseFlat$Paper;II)Z"⟩
abbrev cX0_marksAllow : ByteArray := prog_2_method_9_code
def yX0_marksAllow : MethodName := ⟨RX0, "marksAllow", "(LCreaseFlat$Paper;IZ)Z"⟩
def RX1 : String := "CreaseFlat$Paper"
def TX1 : u_T := fun k => match k with
  | 0 => ("CreaseFlat$Paper", "kind", "I", true)
  | 1 => ("CreaseFlat$Paper", "rows", "I", true)
  | 2 => ("CreaseFlat$Paper", "columns", "I", true)
  | 3 => ("CreaseFlat$Paper", "faces", "I", true)
  | 4 => ("CreaseFlat$Paper", "creases", "I", false)
  | 5 => ("CreaseFlat$Paper", "rowOf", "[I", true)
  | 6 => ("CreaseFlat$Paper", "columnOf", "[I", true)
  | 7 => ("CreaseFlat$Paper", "lengths", "[I", true)
  | 8 => ("CreaseFlat$Paper", "edges", "[I", true)
  | 9 => ("CreaseFlat$Paper", "firsts", "[I", true)
  | 10 => ("CreaseFlat$Paper", "seconds", "[I", true)
  | 11 => ("CreaseFlat$Paper", "lineOf", "[I", true)
  | 12 => ("CreaseFlat$Paper", "marks", "[I", true)
  | 13 => ("CreaseFlat$Paper", "places", "[I", true)
  | 14 => ("CreaseFlat$Paper", "through", "[I", true)
  | 15 => ("CreaseFlat$Paper", "across", "[I", true)
  | 16 => ("CreaseFlat$Paper", "touching", "[I", true)
  | _ => ("CreaseFlat$Paper", "folded", "I", false)
def tyX1 : Nat → FieldType := fun k => match k with
  | 0 => .int
  | 1 => .int
  | 2 => .int
  | 3 => .int
  | 4 => .int
  | 5 => .array .int
  | 6 => .array .int
  | 7 => .array .int
  | 8 => .array .int
  | 9 => .array .int
  | 10 => .array .int
  | 11 => .array .int
  | 12 => .array .int
  | 13 => .array .int
  | 14 => .array .int
  | 15 => .array .int
  | 16 => .array .int
  | _ => .int
abbrev wsX10 : List Cond := u_ws RX1 TX1 18
theorem nmX1 : ∀ a, a < 18 → ∀ b, b < 18 → a ≠ b → (TX1 a).2.1 ≠ (TX1 b).2.1 := by decide +kernel
theorem tyX1_ok : ∀ k, k < 18 → parseFieldDescriptor (TX1 k).2.2.1 = some (tyX1 k) := by decide +kernel
abbrev cX1_init : ByteArray := prog_3_method_1_code
def yX1_init : MethodName := ⟨RX1, "<init>", "(III)V"⟩
abbrev cX1_joinFaces : ByteArray := prog_3_method_2_code
def yX1_joinFaces : MethodName := ⟨RX1, "joinFaces", "()V"⟩
abbrev cX1_join : ByteArray := prog_3_method_3_code
def yX1_join : MethodName := ⟨RX1, "join", "(III)V"⟩
abbrev cX1_measure : ByteArray := prog_3_method_4_code
def yX1_measure : MethodName := ⟨RX1, "measure", "()V"⟩
abbrev cX1_sideOf : ByteArray := prog_3_method_5_code
def yX1_sideOf : MethodName := ⟨RX1, "sideOf", "(I)I"⟩
abbrev cX1_facesOver : ByteArray := prog_3_method_6_code
def yX1_facesOver : MethodName := ⟨RX1, "facesOver", "(I)I"⟩
abbrev cX1_rivalsOf : ByteArray := prog_3_method_7_code
def yX1_rivalsOf : MethodName := ⟨RX1, "rivalsOf", "(I)I"⟩
abbrev cX1_onOneSide : ByteArray := prog_3_method_8_code
def yX1_onOneSide : MethodName := ⟨RX1, "onOneSide", "(II)Z"⟩
abbrev cX1_haveFourFaces : ByteArray := prog_3_method_9_code
def yX1_haveFourFaces : MethodName := ⟨RX1, "haveFourFaces", "(II)Z"⟩
abbrev cX1_hasFace : ByteArray := prog_3_method_10_code
def yX1_hasFace : MethodName := ⟨RX1, "hasFace", "(I)Z"⟩
abbrev cX1_hasCrease : ByteArray := prog_3_method_11_code
def yX1_hasCrease : MethodName := ⟨RX1, "hasCrease", "(I)Z"⟩
abbrev cX1_isFrontUp : ByteArray := prog_3_method_12_code
def yX1_isFrontUp : MethodName := ⟨RX1, "isFrontUp", "(I)Z"⟩
abbrev cX1_isUneven : ByteArray := prog_3_method_13_code
def yX1_isUneven : MethodName := ⟨RX1, "isUneven", "()Z"⟩
abbrev cX1_marked : ByteArray := prog_3_method_14_code
def yX1_marked : MethodName := ⟨RX1, "marked", "(I)I"⟩
abbrev cX1_becomes : ByteArray := prog_3_method_15_code
def yX1_becomes : MethodName := ⟨RX1, "becomes", "(I[I)I"⟩
abbrev cX1_valleysIn : ByteArray := prog_3_method_16_code
def yX1_valleysIn : MethodName := ⟨RX1, "valleysIn", "([I)I"⟩
abbrev cX1_brokenMark : ByteArray := prog_3_method_17_code
def yX1_brokenMark : MethodName := ⟨RX1, "brokenMark", "([I)I"⟩
abbrev cX1_brokenThrough : ByteArray := prog_3_method_18_code
def yX1_brokenThrough : MethodName := ⟨RX1, "brokenThrough", "([I)I"⟩
abbrev cX1_brokenAcross : ByteArray := prog_3_method_19_code
def yX1_brokenAcross : MethodName := ⟨RX1, "brokenAcross", "([I)I"⟩
abbrev cX1_liesWithin : ByteArray := prog_3_method_20_code
def yX1_liesWithin : MethodName := ⟨RX1, "liesWithin", "(II[I)Z"⟩
abbrev cX1_isBetween : ByteArray := prog_3_method_21_code
def yX1_isBetween : MethodName := ⟨RX1, "isBetween", "(III)Z"⟩
abbrev cX1_allLines : ByteArray := prog_3_method_22_code
def yX1_allLines : MethodName := ⟨RX1, "allLines", "()I"⟩
abbrev cX1_creasesOn : ByteArray := prog_3_method_23_code
def yX1_creasesOn : MethodName := ⟨RX1, "creasesOn", "(I)I"⟩
def RX2 : String := "CreaseFlat$Pile"
def TX2 : u_T := fun k => match k with
  | 0 => ("CreaseFlat$Pile", "paper", "LCreaseFlat$Paper;", false)
  | 1 => ("CreaseFlat$Pile", "stack", "[I", true)
  | 2 => ("CreaseFlat$Pile", "heights", "[I", true)
  | 3 => ("CreaseFlat$Pile", "size", "I", false)
  | 4 => ("CreaseFlat$Pile", "inPile", "I", false)
  | 5 => ("CreaseFlat$Pile", "below", "[I", true)
  | 6 => ("CreaseFlat$Pile", "demanding", "I", false)
  | 7 => ("CreaseFlat$Pile", "open", "[I", true)
  | 8 => ("CreaseFlat$Pile", "untried", "[I", true)
  | _ => ("CreaseFlat$Pile", "begun", "Z", false)
def tyX2 : Nat → FieldType := fun k => match k with
  | 0 => .object "CreaseFlat$Paper"
  | 1 => .array .int
  | 2 => .array .int
  | 3 => .int
  | 4 => .int
  | 5 => .array .int
  | 6 => .int
  | 7 => .array .int
  | 8 => .array .int
  | _ => .boolean
abbrev wsX20 : List Cond := u_ws RX2 TX2 10
theorem nmX2 : ∀ a, a < 10 → ∀ b, b < 10 → a ≠ b → (TX2 a).2.1 ≠ (TX2 b).2.1 := by decide +kernel
theorem tyX2_ok : ∀ k, k < 10 → parseFieldDescriptor (TX2 k).2.2.1 = some (tyX2 k) := by decide +kernel
abbrev cX2_init : ByteArray := prog_4_method_1_code
def yX2_init : MethodName := ⟨RX2, "<init>", "()V"⟩
abbrev cX2_begin : ByteArray := prog_4_method_2_code
def yX2_begin : MethodName := ⟨RX2, "begin", "(LCreaseFlat$Paper;)V"⟩
abbrev cX2_beginWith : ByteArray := prog_4_method_3_code
def yX2_beginWith : MethodName := ⟨RX2, "beginWith", "(LCreaseFlat$Paper;I)V"⟩
abbrev cX2_demandTurn : ByteArray := prog_4_method_4_code
def yX2_demandTurn : MethodName := ⟨RX2, "demandTurn", "(II)V"⟩
abbrev cX2_demandBelow : ByteArray := prog_4_method_5_code
def yX2_demandBelow : MethodName := ⟨RX2, "demandBelow", "(II)V"⟩
abbrev cX2_next : ByteArray := prog_4_method_6_code
def yX2_next : MethodName := ⟨RX2, "next", "()Z"⟩
abbrev cX2_asNumber : ByteArray := prog_4_method_7_code
def yX2_asNumber : MethodName := ⟨RX2, "asNumber", "()J"⟩
abbrev cX2_demandsClash : ByteArray := prog_4_method_8_code
def yX2_demandsClash : MethodName := ⟨RX2, "demandsClash", "(LCreaseFlat$Paper;)Z"⟩
abbrev cX2_leastUntried : ByteArray := prog_4_method_9_code
def yX2_leastUntried : MethodName := ⟨RX2, "leastUntried", "()I"⟩
abbrev cX2_put : ByteArray := prog_4_method_10_code
def yX2_put : MethodName := ⟨RX2, "put", "(LCreaseFlat$Paper;I)V"⟩
abbrev cX2_takeOff : ByteArray := prog_4_method_11_code
def yX2_takeOff : MethodName := ⟨RX2, "takeOff", "()V"⟩
abbrev cX2_candidates : ByteArray := prog_4_method_12_code
def yX2_candidates : MethodName := ⟨RX2, "candidates", "(LCreaseFlat$Paper;)I"⟩
abbrev cX2_readyAmong : ByteArray := prog_4_method_13_code
def yX2_readyAmong : MethodName := ⟨RX2, "readyAmong", "(LCreaseFlat$Paper;I)I"⟩
abbrev cX2_barredFromClosing : ByteArray := prog_4_method_14_code
def yX2_barredFromClosing : MethodName := ⟨RX2, "barredFromClosing", "(LCreaseFlat$Paper;I)I"⟩
def RX3 : String := "CreaseFlat$Ways"
def TX3 : u_T := fun k => match k with
  | 0 => ("CreaseFlat$Ways", "fewest", "[I", true)
  | 1 => ("CreaseFlat$Ways", "firstSteps", "[I", true)
  | _ => ("CreaseFlat$Ways", "nexts", "[I", true)
def tyX3 : Nat → FieldType := fun k => match k with
  | 0 => .array .int
  | 1 => .array .int
  | _ => .array .int
abbrev wsX30 : List Cond := u_ws RX3 TX3 3
theorem nmX3 : ∀ a, a < 3 → ∀ b, b < 3 → a ≠ b → (TX3 a).2.1 ≠ (TX3 b).2.1 := by decide +kernel
theorem tyX3_ok : ∀ k, k < 3 → parseFieldDescriptor (TX3 k).2.2.1 = some (tyX3 k) := by decide +kernel
abbrev cX3_init : ByteArray := prog_5_method_1_code
def yX3_init : MethodName := ⟨RX3, "<init>", "()V"⟩
abbrev cX3_explore : ByteArray := prog_5_method_2_code
def yX3_explore : MethodName := ⟨RX3, "explore", "(LCreaseFlat$Paper;LCreaseFlat$Lay;)V"⟩
abbrev cX3_tryLines : ByteArray := prog_5_method_3_code
def yX3_tryLines : MethodName := ⟨RX3, "tryLines", "(LCreaseFlat$Paper;IILCreaseFlat$Lay;)V"⟩
abbrev cX3_tryStep : ByteArray := prog_5_method_4_code
def yX3_tryStep : MethodName := ⟨RX3, "tryStep", "(LCreaseFlat$Paper;IILCreaseFlat$Lay;)V"⟩
abbrev cX3_trace : ByteArray := prog_5_method_5_code
def yX3_trace : MethodName := ⟨RX3, "trace", "(I[I)I"⟩
def RX4 : String := "CreaseFlat"
def TX4 : u_T := fun k => match k with
  | 0 => ("CreaseFlat", "papers", "[LCreaseFlat$Paper;", true)
  | 1 => ("CreaseFlat", "paperCount", "I", false)
  | 2 => ("CreaseFlat", "pile", "LCreaseFlat$Pile;", true)
  | 3 => ("CreaseFlat", "otherPile", "LCreaseFlat$Pile;", true)
  | 4 => ("CreaseFlat", "toldPaper", "LCreaseFlat$Paper;", false)
  | 5 => ("CreaseFlat", "toldFaces", "[I", true)
  | 6 => ("CreaseFlat", "toldHeights", "[I", true)
  | 7 => ("CreaseFlat", "readHeights", "[I", true)
  | 8 => ("CreaseFlat", "met", "[J", true)
  | 9 => ("CreaseFlat", "clashing", "[I", true)
  | 10 => ("CreaseFlat", "clashCount", "I", false)
  | 11 => ("CreaseFlat", "lay", "LCreaseFlat$Lay;", true)
  | 12 => ("CreaseFlat", "ways", "LCreaseFlat$Ways;", true)
  | 13 => ("CreaseFlat", "toldSteps", "[I", true)
  | _ => ("CreaseFlat", "stepCount", "I", false)
def tyX4 : Nat → FieldType := fun k => match k with
  | 0 => .array (.object "CreaseFlat$Paper")
  | 1 => .int
  | 2 => .object "CreaseFlat$Pile"
  | 3 => .object "CreaseFlat$Pile"
  | 4 => .object "CreaseFlat$Paper"
  | 5 => .array .int
  | 6 => .array .int
  | 7 => .array .int
  | 8 => .array .long
  | 9 => .array .int
  | 10 => .int
  | 11 => .object "CreaseFlat$Lay"
  | 12 => .object "CreaseFlat$Ways"
  | 13 => .array .int
  | _ => .int
abbrev wsX40 : List Cond := u_ws RX4 TX4 15
theorem nmX4 : ∀ a, a < 15 → ∀ b, b < 15 → a ≠ b → (TX4 a).2.1 ≠ (TX4 b).2.1 := by decide +kernel
theorem tyX4_ok : ∀ k, k < 15 → parseFieldDescriptor (TX4 k).2.2.1 = some (tyX4 k) := by decide +kernel
abbrev cX4_init : ByteArray := prog_1_method_1_code
def yX4_init : MethodName := ⟨RX4, "<init>", "()V"⟩
abbrev cX4_strip : ByteArray := prog_1_method_2_code
def yX4_strip : MethodName := ⟨RX4, "strip", "(I)I"⟩
abbrev cX4_corner : ByteArray := prog_1_method_3_code
def yX4_corner : MethodName := ⟨RX4, "corner", "(I)I"⟩
abbrev cX4_map : ByteArray := prog_1_method_4_code
def yX4_map : MethodName := ⟨RX4, "map", "(II)I"⟩
abbrev cX4_length : ByteArray := prog_1_method_5_code
def yX4_length : MethodName := ⟨RX4, "length", "(III)I"⟩
abbrev cX4_mark : ByteArray := prog_1_method_6_code
def yX4_mark : MethodName := ⟨RX4, "mark", "(III)I"⟩
abbrev cX4_about : ByteArray := prog_1_method_7_code
def yX4_about : MethodName := ⟨RX4, "about", "(II)I"⟩
abbrev cX4_crease : ByteArray := prog_1_method_8_code
def yX4_crease : MethodName := ⟨RX4, "crease", "(III)I"⟩
abbrev cX4_judge : ByteArray := prog_1_method_9_code
def yX4_judge : MethodName := ⟨RX4, "judge", "(I)I"⟩
abbrev cX4_layer : ByteArray := prog_1_method_10_code
def yX4_layer : MethodName := ⟨RX4, "layer", "(I)I"⟩
abbrev cX4_turned : ByteArray := prog_1_method_11_code
def yX4_turned : MethodName := ⟨RX4, "turned", "(I)I"⟩
abbrev cX4_orders : ByteArray := prog_1_method_12_code
def yX4_orders : MethodName := ⟨RX4, "orders", "(I)I"⟩
abbrev cX4_order : ByteArray := prog_1_method_13_code
def yX4_order : MethodName := ⟨RX4, "order", "(II)J"⟩
abbrev cX4_check : ByteArray := prog_1_method_14_code
def yX4_check : MethodName := ⟨RX4, "check", "(IJ)I"⟩
abbrev cX4_forced : ByteArray := prog_1_method_15_code
def yX4_forced : MethodName := ⟨RX4, "forced", "(II)I"⟩
abbrev cX4_above : ByteArray := prog_1_method_16_code
def yX4_above : MethodName := ⟨RX4, "above", "(III)I"⟩
abbrev cX4_alike : ByteArray := prog_1_method_17_code
def yX4_alike : MethodName := ⟨RX4, "alike", "(II)I"⟩
abbrev cX4_foldings : ByteArray := prog_1_method_18_code
def yX4_foldings : MethodName := ⟨RX4, "foldings", "(I)I"⟩
abbrev cX4_clash : ByteArray := prog_1_method_19_code
def yX4_clash : MethodName := ⟨RX4, "clash", "(I)I"⟩
abbrev cX4_inClash : ByteArray := prog_1_method_20_code
def yX4_inClash : MethodName := ⟨RX4, "inClash", "(I)I"⟩
abbrev cX4_simple : ByteArray := prog_1_method_21_code
def yX4_simple : MethodName := ⟨RX4, "simple", "(I)I"⟩
abbrev cX4_step : ByteArray := prog_1_method_22_code
def yX4_step : MethodName := ⟨RX4, "step", "(I)I"⟩
abbrev cX4_fold : ByteArray := prog_1_method_23_code
def yX4_fold : MethodName := ⟨RX4, "fold", "(II)I"⟩
abbrev cX4_flatten : ByteArray := prog_1_method_24_code
def yX4_flatten : MethodName := ⟨RX4, "flatten", "(I)I"⟩
abbrev cX4_lies : ByteArray := prog_1_method_25_code
def yX4_lies : MethodName := ⟨RX4, "lies", "(III)I"⟩
abbrev cX4_addPaper : ByteArray := prog_1_method_26_code
def yX4_addPaper : MethodName := ⟨RX4, "addPaper", "(III)I"⟩
abbrev cX4_find : ByteArray := prog_1_method_27_code
def yX4_find : MethodName := ⟨RX4, "find", "(I)LCreaseFlat$Paper;"⟩
abbrev cX4_has : ByteArray := prog_1_method_28_code
def yX4_has : MethodName := ⟨RX4, "has", "(II)Z"⟩
abbrev cX4_readOrder : ByteArray := prog_1_method_29_code
def yX4_readOrder : MethodName := ⟨RX4, "readOrder", "(IJ)Z"⟩
abbrev cX4_canBecome : ByteArray := prog_1_method_30_code
def yX4_canBecome : MethodName := ⟨RX4, "canBecome", "(LCreaseFlat$Paper;II)Z"⟩
abbrev cX4_canLieBelow : ByteArray := prog_1_method_31_code
def yX4_canLieBelow : MethodName := ⟨RX4, "canLieBelow", "(LCreaseFlat$Paper;II)Z"⟩
abbrev cX4_allowsSome : ByteArray := prog_1_method_32_code
def yX4_allowsSome : MethodName := ⟨RX4, "allowsSome", "(LCreaseFlat$Paper;I)Z"⟩
abbrev cX4_allowTheSame : ByteArray := prog_1_method_33_code
def yX4_allowTheSame : MethodName := ⟨RX4, "allowTheSame", "(LCreaseFlat$Paper;LCreaseFlat$Paper;)Z"⟩
abbrev cX4_isNew : ByteArray := prog_1_method_34_code
def yX4_isNew : MethodName := ⟨RX4, "isNew", "(I)Z"⟩
def RX5 : String := "CreaseFlatModel"
def TX5 : u_T := fun k => match k with
  | 0 => ("CreaseFlatModel", "papers", "I", false)
  | 1 => ("CreaseFlatModel", "kind", "[I", true)
  | 2 => ("CreaseFlatModel", "faces", "[I", true)
  | 3 => ("CreaseFlatModel", "rows", "[I", true)
  | 4 => ("CreaseFlatModel", "columns", "[I", true)
  | 5 => ("CreaseFlatModel", "creases", "[I", true)
  | 6 => ("CreaseFlatModel", "lengths", "[I", true)
  | 7 => ("CreaseFlatModel", "first", "[I", true)
  | 8 => ("CreaseFlatModel", "second", "[I", true)
  | 9 => ("CreaseFlatModel", "marks", "[I", true)
  | 10 => ("CreaseFlatModel", "gaps", "[I", true)
  | 11 => ("CreaseFlatModel", "rowGaps", "[I", true)
  | 12 => ("CreaseFlatModel", "paper", "I", false)
  | 13 => ("CreaseFlatModel", "begun", "Z", false)
  | 14 => ("CreaseFlatModel", "now", "[I", true)
  | 15 => ("CreaseFlatModel", "laid", "I", false)
  | 16 => ("CreaseFlatModel", "height", "[I", true)
  | 17 => ("CreaseFlatModel", "place", "[I", true)
  | 18 => ("CreaseFlatModel", "toldPaper", "I", false)
  | 19 => ("CreaseFlatModel", "told", "[I", true)
  | 20 => ("CreaseFlatModel", "keptNow", "[I", true)
  | 21 => ("CreaseFlatModel", "keptHeight", "[I", true)
  | 22 => ("CreaseFlatModel", "seen", "[Z", true)
  | 23 => ("CreaseFlatModel", "clashing", "[I", true)
  | 24 => ("CreaseFlatModel", "clashes", "I", false)
  | 25 => ("CreaseFlatModel", "keptMarks", "[I", true)
  | 26 => ("CreaseFlatModel", "least", "[I", true)
  | 27 => ("CreaseFlatModel", "steps", "[I", true)
  | _ => ("CreaseFlatModel", "stepCount", "I", false)
def tyX5 : Nat → FieldType := fun k => match k with
  | 0 => .int
  | 1 => .array .int
  | 2 => .array .int
  | 3 => .array .int
  | 4 => .array .int
  | 5 => .array .int
  | 6 => .array .int
  | 7 => .array .int
  | 8 => .array .int
  | 9 => .array .int
  | 10 => .array .int
  | 11 => .array .int
  | 12 => .int
  | 13 => .boolean
  | 14 => .array .int
  | 15 => .int
  | 16 => .array .int
  | 17 => .array .int
  | 18 => .int
  | 19 => .array .int
  | 20 => .array .int
  | 21 => .array .int
  | 22 => .array .boolean
  | 23 => .array .int
  | 24 => .int
  | 25 => .array .int
  | 26 => .array .int
  | 27 => .array .int
  | _ => .int
abbrev wsX50 : List Cond := u_ws RX5 TX5 29
theorem nmX5 : ∀ a, a < 29 → ∀ b, b < 29 → a ≠ b → (TX5 a).2.1 ≠ (TX5 b).2.1 := by decide +kernel
theorem tyX5_ok : ∀ k, k < 29 → parseFieldDescriptor (TX5 k).2.2.1 = some (tyX5 k) := by decide +kernel
abbrev cX5_init : ByteArray := prog_7_method_1_code
def yX5_init : MethodName := ⟨RX5, "<init>", "()V"⟩
abbrev cX5_lesser : ByteArray := prog_7_method_2_code
def yX5_lesser : MethodName := ⟨RX5, "lesser", "(II)I"⟩
abbrev cX5_greater : ByteArray := prog_7_method_3_code
def yX5_greater : MethodName := ⟨RX5, "greater", "(II)I"⟩
abbrev cX5_bits : ByteArray := prog_7_method_4_code
def yX5_bits : MethodName := ⟨RX5, "bits", "(I)I"⟩
abbrev cX5_has : ByteArray := prog_7_method_5_code
def yX5_has : MethodName := ⟨RX5, "has", "(I)Z"⟩
abbrev cX5_hasFace : ByteArray := prog_7_method_6_code
def yX5_hasFace : MethodName := ⟨RX5, "hasFace", "(II)Z"⟩
abbrev cX5_hasCrease : ByteArray := prog_7_method_7_code
def yX5_hasCrease : MethodName := ⟨RX5, "hasCrease", "(II)Z"⟩
abbrev cX5_add : ByteArray := prog_7_method_8_code
def yX5_add : MethodName := ⟨RX5, "add", "(II)I"⟩
abbrev cX5_addCrease : ByteArray := prog_7_method_9_code
def yX5_addCrease : MethodName := ⟨RX5, "addCrease", "(III)V"⟩
abbrev cX5_strip : ByteArray := prog_7_method_10_code
def yX5_strip : MethodName := ⟨RX5, "strip", "(I)I"⟩
abbrev cX5_corner : ByteArray := prog_7_method_11_code
def yX5_corner : MethodName := ⟨RX5, "corner", "(I)I"⟩
abbrev cX5_map : ByteArray := prog_7_method_12_code
def yX5_map : MethodName := ⟨RX5, "map", "(II)I"⟩
abbrev cX5_length : ByteArray := prog_7_method_13_code
def yX5_length : MethodName := ⟨RX5, "length", "(III)I"⟩
abbrev cX5_mark : ByteArray := prog_7_method_14_code
def yX5_mark : MethodName := ⟨RX5, "mark", "(III)I"⟩
abbrev cX5_uneven : ByteArray := prog_7_method_15_code
def yX5_uneven : MethodName := ⟨RX5, "uneven", "(I)I"⟩
abbrev cX5_marked : ByteArray := prog_7_method_16_code
def yX5_marked : MethodName := ⟨RX5, "marked", "(II)I"⟩
abbrev cX5_about : ByteArray := prog_7_method_17_code
def yX5_about : MethodName := ⟨RX5, "about", "(II)I"⟩
abbrev cX5_begins : ByteArray := prog_7_method_18_code
def yX5_begins : MethodName := ⟨RX5, "begins", "(II)I"⟩
abbrev cX5_placeOf : ByteArray := prog_7_method_19_code
def yX5_placeOf : MethodName := ⟨RX5, "placeOf", "(II)I"⟩
abbrev cX5_crease : ByteArray := prog_7_method_20_code
def yX5_crease : MethodName := ⟨RX5, "crease", "(III)I"⟩
abbrev cX5_isUp : ByteArray := prog_7_method_21_code
def yX5_isUp : MethodName := ⟨RX5, "isUp", "(II)Z"⟩
abbrev cX5_begin : ByteArray := prog_7_method_22_code
def yX5_begin : MethodName := ⟨RX5, "begin", "(I)V"⟩
abbrev cX5_isWithin : ByteArray := prog_7_method_23_code
def yX5_isWithin : MethodName := ⟨RX5, "isWithin", "(II)Z"⟩
abbrev cX5_isOneSide : ByteArray := prog_7_method_24_code
def yX5_isOneSide : MethodName := ⟨RX5, "isOneSide", "(II)Z"⟩
abbrev cX5_isFour : ByteArray := prog_7_method_25_code
def yX5_isFour : MethodName := ⟨RX5, "isFour", "(II)Z"⟩
abbrev cX5_markIn : ByteArray := prog_7_method_26_code
def yX5_markIn : MethodName := ⟨RX5, "markIn", "(I)I"⟩
abbrev cX5_isFine : ByteArray := prog_7_method_27_code
def yX5_isFine : MethodName := ⟨RX5, "isFine", "(I)Z"⟩
abbrev cX5_isClosed : ByteArray := prog_7_method_28_code
def yX5_isClosed : MethodName := ⟨RX5, "isClosed", "(III)Z"⟩
abbrev cX5_next : ByteArray := prog_7_method_29_code
def yX5_next : MethodName := ⟨RX5, "next", "()Z"⟩
abbrev cX5_number : ByteArray := prog_7_method_30_code
def yX5_number : MethodName := ⟨RX5, "number", "()J"⟩
abbrev cX5_judge : ByteArray := prog_7_method_31_code
def yX5_judge : MethodName := ⟨RX5, "judge", "(I)I"⟩
abbrev cX5_layer : ByteArray := prog_7_method_32_code
def yX5_layer : MethodName := ⟨RX5, "layer", "(I)I"⟩
abbrev cX5_turned : ByteArray := prog_7_method_33_code
def yX5_turned : MethodName := ⟨RX5, "turned", "(I)I"⟩
abbrev cX5_orders : ByteArray := prog_7_method_34_code
def yX5_orders : MethodName := ⟨RX5, "orders", "(I)I"⟩
abbrev cX5_order : ByteArray := prog_7_method_35_code
def yX5_order : MethodName := ⟨RX5, "order", "(II)J"⟩
abbrev cX5_check : ByteArray := prog_7_method_36_code
def yX5_check : MethodName := ⟨RX5, "check", "(IJ)I"⟩
abbrev cX5_isBetween : ByteArray := prog_7_method_37_code
def yX5_isBetween : MethodName := ⟨RX5, "isBetween", "(II)Z"⟩
abbrev cX5_forced : ByteArray := prog_7_method_38_code
def yX5_forced : MethodName := ⟨RX5, "forced", "(II)I"⟩
abbrev cX5_above : ByteArray := prog_7_method_39_code
def yX5_above : MethodName := ⟨RX5, "above", "(III)I"⟩
abbrev cX5_alike : ByteArray := prog_7_method_40_code
def yX5_alike : MethodName := ⟨RX5, "alike", "(II)I"⟩
abbrev cX5_foldings : ByteArray := prog_7_method_41_code
def yX5_foldings : MethodName := ⟨RX5, "foldings", "(I)I"⟩
abbrev cX5_isAllowed : ByteArray := prog_7_method_42_code
def yX5_isAllowed : MethodName := ⟨RX5, "isAllowed", "(I)Z"⟩
abbrev cX5_clash : ByteArray := prog_7_method_43_code
def yX5_clash : MethodName := ⟨RX5, "clash", "(I)I"⟩
abbrev cX5_inClash : ByteArray := prog_7_method_44_code
def yX5_inClash : MethodName := ⟨RX5, "inClash", "(I)I"⟩
abbrev cX5_gapsOf : ByteArray := prog_7_method_45_code
def yX5_gapsOf : MethodName := ⟨RX5, "gapsOf", "(IZ)I"⟩
abbrev cX5_lengthOf : ByteArray := prog_7_method_46_code
def yX5_lengthOf : MethodName := ⟨RX5, "lengthOf", "(II)I"⟩
abbrev cX5_goesUp : ByteArray := prog_7_method_47_code
def yX5_goesUp : MethodName := ⟨RX5, "goesUp", "(II)Z"⟩
abbrev cX5_liesAt : ByteArray := prog_7_method_48_code
def yX5_liesAt : MethodName := ⟨RX5, "liesAt", "(III)I"⟩
abbrev cX5_done : ByteArray := prog_7_method_49_code
def yX5_done : MethodName := ⟨RX5, "done", "(IIII)I"⟩
abbrev cX5_stateOf : ByteArray := prog_7_method_50_code
def yX5_stateOf : MethodName := ⟨RX5, "stateOf", "(II)I"⟩
abbrev cX5_simple : ByteArray := prog_7_method_51_code
def yX5_simple : MethodName := ⟨RX5, "simple", "(I)I"⟩
abbrev cX5_best : ByteArray := prog_7_method_52_code
def yX5_best : MethodName := ⟨RX5, "best", "(IIIIIZ)I"⟩
abbrev cX5_step : ByteArray := prog_7_method_53_code
def yX5_step : MethodName := ⟨RX5, "step", "(I)I"⟩
abbrev cX5_creasesIn : ByteArray := prog_7_method_54_code
def yX5_creasesIn : MethodName := ⟨RX5, "creasesIn", "(IIZ)I"⟩
abbrev cX5_fold : ByteArray := prog_7_method_55_code
def yX5_fold : MethodName := ⟨RX5, "fold", "(II)I"⟩
abbrev cX5_flatten : ByteArray := prog_7_method_56_code
def yX5_flatten : MethodName := ⟨RX5, "flatten", "(I)I"⟩
abbrev cX5_lies : ByteArray := prog_7_method_57_code
def yX5_lies : MethodName := ⟨RX5, "lies", "(III)I"⟩
def RJ6 : String := "java/lang/Integer"
def TJ6 : u_T := fun k => match k with
  | _ => ("", "", "", false)
def tyJ6 : Nat → FieldType := fun k => match k with
  | _ => .int
abbrev wsJ60 : List Cond := u_ws RJ6 TJ6 0
theorem nmJ6 : ∀ a, a < 0 → ∀ b, b < 0 → a ≠ b → (TJ6 a).2.1 ≠ (TJ6 b).2.1 := by decide +kernel
theorem tyJ6_ok : ∀ k, k < 0 → parseFieldDescriptor (TJ6 k).2.2.1 = some (tyJ6 k) := by decide +kernel
abbrev cJ6_bitCount_0f7a4 : ByteArray := prog_8_method_49_code
def yJ6_bitCount_0f7a4 : MethodName := ⟨RJ6, "bitCount", "(I)I"⟩
def RJ9 : String := "java/lang/Math"
def TJ9 : u_T := fun k => match k with
  | _ => ("", "", "", false)
def tyJ9 : Nat → FieldType := fun k => match k with
  | _ => .int
abbrev wsJ90 : List Cond := u_ws RJ9 TJ9 0
theorem nmJ9 : ∀ a, a < 0 → ∀ b, b < 0 → a ≠ b → (TJ9 a).2.1 ≠ (TJ9 b).2.1 := by decide +kernel
theorem tyJ9_ok : ∀ k, k < 0 → parseFieldDescriptor (TJ9 k).2.2.1 = some (tyJ9 k) := by decide +kernel
abbrev cJ9_max_7cf53 : ByteArray := prog_9_method_65_code
def yJ9_max_7cf53 : MethodName := ⟨RJ9, "max", "(II)I"⟩
abbrev cJ9_min_7cf53 : ByteArray := prog_9_method_69_code
def yJ9_min_7cf53 : MethodName := ⟨RJ9, "min", "(II)I"⟩
def RJ10 : String := "java/lang/System"
def TJ10 : u_T := fun k => match k with
  | _ => ("", "", "", false)
def tyJ10 : Nat → FieldType := fun k => match k with
  | _ => .int
abbrev wsJ100 : List Cond := u_ws RJ10 TJ10 0
theorem nmJ10 : ∀ a, a < 0 → ∀ b, b < 0 → a ≠ b → (TJ10 a).2.1 ≠ (TJ10 b).2.1 := by decide +kernel
theorem tyJ10_ok : ∀ k, k < 0 → parseFieldDescriptor (TJ10 k).2.2.1 = some (tyJ10 k) := by decide +kernel
def RJ7 : String := "java/util/Arrays"
def TJ7 : u_T := fun k => match k with
  | _ => ("", "", "", false)
def tyJ7 : Nat → FieldType := fun k => match k with
  | _ => .int
abbrev wsJ70 : List Cond := u_ws RJ7 TJ7 0
theorem nmJ7 : ∀ a, a < 0 → ∀ b, b < 0 → a ≠ b → (TJ7 a).2.1 ≠ (TJ7 b).2.1 := by decide +kernel
theorem tyJ7_ok : ∀ k, k < 0 → parseFieldDescriptor (TJ7 k).2.2.1 = some (tyJ7 k) := by decide +kernel
abbrev cJ7_fill_d0a16 : ByteArray := prog_11_method_101_code
def yJ7_fill_d0a16 : MethodName := ⟨RJ7, "fill", "([JJ)V"⟩
abbrev cJ7_fill_53178 : ByteArray := prog_11_method_103_code
def yJ7_fill_53178 : MethodName := ⟨RJ7, "fill", "([II)V"⟩
def RL : String := "CreaseFlatLaw"
abbrev cL_law : ByteArray := code
def yL_law : MethodName := ⟨RL, "law", "([I)Z"⟩
abbrev vwCl : List vw_C := [(RX0, TX0, 3), (RX1, TX1, 18), (RX2, TX2, 10), (RX3, TX3, 3), (RX4, TX4, 15), (RX5, TX5, 29)]
end
section
/-! WHAT IS GIVEN OF THE TABLES, for every method alike: pz_U, the words that last; pz_NM, the links to private members of nest mates; pz_ty, the array classes by their tags. -/
def pz_U : List Cond := lw_tbl.filter goodWord
theorem pz_in {w : Cond} (i : Nat) (h : lw_tbl[i]? = some w) (g : goodWord w = true) : w ∈ pz_U := List.mem_filter.mpr ⟨List.mem_of_getElem? h, g⟩
theorem pz_good : ∀ w ∈ pz_U, (w.onTables && w.keeps) = true ∨ ∃ ty, w = .arrayClass ty := fun _ h => good_of_word (List.mem_filter.mp h).2
def pz_ty : List FieldType := [.int, .long, .object "CreaseFlat$Paper", .array .int, .boolean]
def pz_NF : List (String × Nat × String × String × String × String) := []
def pz_NM : List (String × Nat × MethodName × String) := [("CreaseFlat", 21, ⟨"CreaseFlat$Pile", "<init>", "()V"⟩, "CreaseFlat"), ("CreaseFlat", 55, ⟨"CreaseFlat$Lay", "<init>", "()V"⟩, "CreaseFlat"), ("CreaseFlat", 62, ⟨"CreaseFlat$Ways", "<init>", "()V"⟩, "CreaseFlat"), ("CreaseFlat$Pile", 60, ⟨"CreaseFlat", "has", "(II)Z"⟩, "CreaseFlat"), ("CreaseFlat$Paper", 112, ⟨"CreaseFlat", "has", "(II)Z"⟩, "CreaseFlat"), ("CreaseFlat$Lay", 31, ⟨"CreaseFlat", "has", "(II)Z"⟩, "CreaseFlat"), ("CreaseFlat$Ways", 51, ⟨"CreaseFlat", "has", "(II)Z"⟩, "CreaseFlat")]
def pz_AO : List String := ["CreaseFlat$Paper"]
end
section
/-! A SMALL PROGRAM LOGIC OVER W. Every cell that was made since the law's start (from address X.2.2 on) is ours: a heap is held as a pure function h = (cells by address, size). pz_W X M d pc lv st h rc rs Q: from here method M returns r with heap h', and Q r h'; d frames, rc cells and rs slots are still to be had. pz_Call: the same of a whole method. -/
abbrev pz_E : Type := (Nat × vp_A) ⊕ (Nat × List Value)
abbrev pz_H : Type := (Nat → Option pz_E) × Nat
abbrev pz_M : Type := MethodName × ByteArray × Nat × Option FieldType
abbrev pz_X : Type := va_G × (Nat → ClassId) × Nat
def pz_cv (d : Nat → ClassId) (c : pz_E) : va_E := match c with
  | .inl a => .inl (d a.1, a.2)
  | .inr o => .inr o
def pz_R (X : pz_X) (h : pz_H) (H : Heap) : Prop := H.size = h.2 ∧ X.2.2 ≤ h.2 ∧ ∀ (q : Nat) (c : pz_E), h.1 q = some c → X.2.2 ≤ q ∧ va_at X.1 vwCl (q, pz_cv X.2.1 c) H
def pz_kt (X : pz_X) : List (ClassId × FieldType) := (List.range pz_ty.length).map (fun t => (X.2.1 t, pz_ty.getD t .int))
def pz_K (X : pz_X) (U : State) : Prop := va_K X.1 vwCl (pz_kt X) U ∧ (∀ q ∈ pz_NF, va_Nw (.fieldLinkNest q.1 q.2.1 q.2.2.1 q.2.2.2.1 q.2.2.2.2.1 q.2.2.2.2.2) U) ∧ (∀ q ∈ pz_NM, va_Nw (.methodLinkNest q.1 q.2.1 q.2.2.1 q.2.2.2) U) ∧ (∀ C ∈ pz_AO, va_AO C U)
def pz_C (M : pz_M) (d : Nat) (X : pz_X) (p : Program) (R : Room) (s : State) (m : MethodId) (args : Array Value) (meth : Method) (c : Code) : Prop :=
  p.tables.exec = Jvm.exec ∧ c.code = M.2.1 ∧ c.maxLocals = M.2.2.1 ∧ s.vm.findClass M.1.cls = some m.cls ∧ (∀ w ∈ pz_U, w.before args s = true) ∧ pz_K X s ∧ meth.name = M.1.name ∧ d ≤ R.frames ∧ 38 * d ≤ R.locals
def pz_rt (M : pz_M) (pc : Nat) (r : Option Value) : Prop := match r with
  | none => M.2.2.2 = none ∧ decode M.2.1 pc = .ok (.return_, 1)
  | some (.int v) => ∃ ty, M.2.2.2 = some ty ∧ narrow ty (.int v) = .int v ∧ decode M.2.1 pc = .ok (.ireturn, 1)
  | some (.long _) => M.2.2.2 = some .long ∧ decode M.2.1 pc = .ok (.lreturn, 1)
  | some (.ref _) => (∃ rt, M.2.2.2 = some rt ∧ ((∃ n, rt = .object n) ∨ ∃ t, rt = .array t)) ∧ decode M.2.1 pc = .ok (.areturn, 1)
  | some .null => (∃ rt, M.2.2.2 = some rt ∧ ((∃ n, rt = .object n) ∨ ∃ t, rt = .array t)) ∧ decode M.2.1 pc = .ok (.areturn, 1)
  | _ => False
abbrev pz_A (X : pz_X) : Nat → Prop := fun q => X.2.2 ≤ q
def pz_I (X : pz_X) (M : pz_M) (d : Nat) (h : pz_H) (rc rs : Nat) (Q : Option Value → pz_H → Prop) (p : Program) (l : Launch) (e : Env) (R : Room) (s : State) (m : MethodId) (args : Array Value) (below : List Frame) (meth : Method) (c : Code) (Z : State → Prop) (H : Heap) (locs : List Loc) (cells slots : Nat) : Prop :=
  pz_C M d X p R s m args meth c ∧ X.2.2 ≤ s.heap.size ∧
  (∀ (r : Option Value) (h' : pz_H) (H' : Heap) (locs' : List Loc) (pc' : Nat) (ls' : Array Slot), Q r h' → pz_R X h' H' → va_S (pz_A X) s.heap H' locs' → pz_rt M pc' r → W p l e R s m args below meth c H' locs' R.cells R.slots Z (F0 m pc' ls' r.toList)) ∧
  pz_R X h H ∧ va_S (pz_A X) s.heap H locs ∧ cells + rc ≤ R.cells ∧ slots + rs ≤ R.slots
def pz_W (X : pz_X) (M : pz_M) (d pc : Nat) (lv : List (Nat × Value)) (st : List Value) (h : pz_H) (rc rs : Nat) (Q : Option Value → pz_H → Prop) : Prop :=
  ∀ (p : Program) (l : Launch) (e : Env) (R : Room) (s : State) (m : MethodId) (args : Array Value) (below : List Frame) (meth : Method) (c : Code) (Z : State → Prop) (H : Heap) (locs : List Loc) (cells slots : Nat) (ls : Array Slot),
    pz_I X M d h rc rs Q p l e R s m args below meth c Z H locs cells slots → lv_has ls M.2.2.1 lv → W p l e R s m args below meth c H locs cells slots Z (F0 m pc ls st)
def pz_rm (d mc ms : Nat) : Room := { frames := d, cells := mc, slots := ms, locals := 38 * d }
def pz_Pc (X : pz_X) (as : List Value) (h : pz_H) : Array Value → State → Prop := va_Pc as (fun U => pz_R X h U.heap ∧ pz_K X U)
def pz_Qc (X : pz_X) (Q : Option Value → pz_H → Prop) : Array Value → State → Outcome → State → Prop := fun _ st o t => (∃ (r : Option Value) (h' : pz_H), o = .returned r ∧ Q r h' ∧ pz_R X h' t.heap) ∧ va_F (pz_A X) st t
def pz_ws (M : pz_M) : List Cond := .code M.1 M.2.1 M.2.2.1 M.2.2.2 :: pz_U
def pz_Call (X : pz_X) (M : pz_M) (d mc ms : Nat) (as : List Value) (h : pz_H) (Q : Option Value → pz_H → Prop) : Prop :=
  ∀ l : Launch, Met l M.1 (pz_ws M) (pz_rm d mc ms) (pz_Pc X as h) (pz_Qc X Q) mc ms (pz_A X)
def pz_up (h : pz_H) (a : Nat) (c : pz_E) : pz_H := (va_up h.1 a (some c), h.2)
def pz_nw (h : pz_H) (c : pz_E) : pz_H := (va_up h.1 h.2 (some c), h.2 + 1)
theorem pz_up_at {h : pz_H} {a : Nat} {c : pz_E} : (pz_up h a c).1 a = some c := va_up_self _ _ _
theorem pz_up_ne {h : pz_H} {a b : Nat} {c : pz_E} (hb : b ≠ a) : (pz_up h a c).1 b = h.1 b := va_up_ne _ _ hb
theorem pz_nw_at {h : pz_H} {c : pz_E} : (pz_nw h c).1 h.2 = some c := va_up_self _ _ _
theorem pz_nw_ne {h : pz_H} {b : Nat} {c : pz_E} (hb : b ≠ h.2) : (pz_nw h c).1 b = h.1 b := va_up_ne _ _ hb
theorem pz_R.lt {X : pz_X} {h : pz_H} {H : Heap} (hR : pz_R X h H) {q : Nat} {c : pz_E} (hq : h.1 q = some c) : q < h.2 := by
  have h1 := (hR.2.2 q c hq).2.lt
  rw [hR.1] at h1
  exact h1
theorem pz_R.set {X : pz_X} {h : pz_H} {H H1 : Heap} {a : Nat} {c0 c : pz_E} (hR : pz_R X h H) (hG : h.1 a = some c0) (he : va_at X.1 vwCl (a, pz_cv X.2.1 c) H1) (z : H1.size = H.size) (oq : ∀ q : Nat, q ≠ a → H1[q]? = H[q]?) : pz_R X (pz_up h a c) H1 := by
  refine ⟨z.trans hR.1, hR.2.1, fun q c1 hq => ?_⟩
  by_cases hqa : q = a
  · subst hqa
    rw [pz_up_at] at hq
    cases hq
    exact ⟨(hR.2.2 _ _ hG).1, he⟩
  · rw [pz_up_ne hqa] at hq
    obtain ⟨h1, h2⟩ := hR.2.2 q c1 hq
    exact ⟨h1, h2.kept (oq q hqa)⟩
theorem pz_R.push {X : pz_X} {h : pz_H} {H H1 : Heap} {c : pz_E} (hR : pz_R X h H) (he : va_at X.1 vwCl (h.2, pz_cv X.2.1 c) H1) (z : H1.size = h.2 + 1) (o : ∀ q : Nat, q < h.2 → H1[q]? = H[q]?) : pz_R X (pz_nw h c) H1 := by
  refine ⟨z, Nat.le_trans hR.2.1 (Nat.le_succ _), fun q c1 hq => ?_⟩
  by_cases hqa : q = h.2
  · subst hqa
    rw [pz_nw_at] at hq
    cases hq
    exact ⟨hR.2.1, he⟩
  · rw [pz_nw_ne hqa] at hq
    obtain ⟨h1, h2⟩ := hR.2.2 q c1 hq
    exact ⟨h1, h2.kept (o q (hR.lt hq))⟩
theorem pz_kt_at (X : pz_X) {t : Nat} {ty : FieldType} (ht : pz_ty[t]? = some ty) : (pz_kt X)[t]? = some (X.2.1 t, ty) := by
  have hl : t < pz_ty.length := (List.getElem?_eq_some_iff.mp ht).1
  simp only [pz_kt, List.getElem?_map, List.getElem?_range hl, Option.map_some, List.getD_eq_getElem?_getD, ht, Option.getD_some]
theorem pz_K.warm {X : pz_X} {s U : State} (hW : s.WarmedH U.vm) (h : pz_K X s) : pz_K X U :=
  ⟨va_K.moved hW.alike h.1, fun q hq => va_Nw.warmF hW (h.2.1 q hq), fun q hq => va_Nw.warmM hW (h.2.2.1 q hq), fun C hC => va_AO.moved hW.alike (h.2.2.2 C hC)⟩
theorem pz_K.same {X : pz_X} {s U : State} (hvm : s.vm = U.vm) (h : pz_K X s) : pz_K X U :=
  ⟨va_K.moved (by rw [hvm]; exact Vm.Alike.refl U.vm) h.1, fun q hq => va_Nw.same rfl hvm (h.2.1 q hq), fun q hq => va_Nw.same rfl hvm (h.2.2.1 q hq), fun C hC => va_AO.moved (by rw [hvm]; exact Vm.Alike.refl U.vm) (h.2.2.2 C hC)⟩
theorem lv_has.sub {ls : Array Slot} {n : Nat} {l l' : List (Nat × Value)} (h : lv_has ls n l) (hs : ∀ q ∈ l', q ∈ l) : lv_has ls n l' := ⟨h.1, h.2.1, fun q hq => h.2.2 q (hs q hq)⟩
/-- the locals, by their numbers -/
def pz_lk : List (Nat × Value) → Nat → Option Value
  | [], _ => none
  | q :: l, i => if q.1 = i then some q.2 else pz_lk l i
theorem pz_lk_mem : ∀ {l : List (Nat × Value)} {i : Nat} {v : Value}, pz_lk l i = some v → (i, v) ∈ l
  | [], _, _, h => by cases h
  | q :: l, i, v, h => by
    unfold pz_lk at h
    by_cases hq : q.1 = i
    · rw [if_pos hq] at h
      cases h
      rw [← hq]
      exact List.mem_cons_self
    · rw [if_neg hq] at h
      exact List.mem_cons_of_mem _ (pz_lk_mem h)
def pz_ins (i : Nat) (v : Value) : List (Nat × Value) → List (Nat × Value)
  | [] => [(i, v)]
  | q :: l => if i < q.1 then (i, v) :: q :: l else q :: pz_ins i v l
theorem pz_ins_mem {i : Nat} {v : Value} : ∀ {l : List (Nat × Value)} {q : Nat × Value}, q ∈ pz_ins i v l → q ∈ (i, v) :: l
  | [], q, h => h
  | a :: l, q, h => by
    unfold pz_ins at h
    split at h
    · exact h
    · rcases List.mem_cons.mp h with h | h
      · rw [h]; exact List.mem_cons_of_mem _ List.mem_cons_self
      · rcases List.mem_cons.mp (pz_ins_mem h) with h | h
        · rw [h]; exact List.mem_cons_self
        · exact List.mem_cons_of_mem _ (List.mem_cons_of_mem _ h)
def pz_set1 (i : Nat) (v : Value) (l : List (Nat × Value)) : List (Nat × Value) := pz_ins i v (l.filter (fun q => !(q.1 == i) && !(q.1 + 1 == i && q.2.category == 2)))
def pz_set2 (i : Nat) (v : Value) (l : List (Nat × Value)) : List (Nat × Value) := pz_ins i v (l.filter (fun q => !(q.1 == i) && (!(q.1 == i + 1) && !(q.1 + 1 == i && q.2.category == 2))))
/-- the part of the locals that is wanted further on -/
def pz_part (l : List (Nat × Value)) (l' : List (Nat × Value)) : Prop := ∀ q ∈ l', q ∈ l
theorem pz_part_of {l l' : List (Nat × Value)} (is : List Nat) (h : is.filterMap (fun i => (pz_lk l i).map (fun v => (i, v))) = l') : pz_part l l' := by
  intro q hq
  rw [← h] at hq
  obtain ⟨i, -, hi⟩ := List.mem_filterMap.mp hq
  cases hv : pz_lk l i with
  | none => rw [hv] at hi; cases hi
  | some v => rw [hv] at hi; cases hi; exact pz_lk_mem hv
section PZR
variable {X : pz_X} {M : pz_M} {d pc rc rs : Nat} {lv lv' : List (Nat × Value)} {st : List Value} {h : pz_H} {Q : Option Value → pz_H → Prop}
theorem pz_drop (hs : pz_part lv lv') (kk : pz_W X M d pc lv' st h rc rs Q) : pz_W X M d pc lv st h rc rs Q := by
  intro p l e R s m args below meth c Z H locs cells slots ls I hL
  exact kk p l e R s m args below meth c Z H locs cells slots ls I (hL.sub hs)
theorem pz_iconst {n : Int} {v : Int32} (hdg : decode M.2.1 pc = .ok (.iconst n, 1)) (hv : Int32.ofInt n = v) (kk : pz_W X M d (pc + 1) lv (.int v :: st) h rc rs Q) : pz_W X M d pc lv (st) h rc rs Q := by
  intro p l e R s m args below meth c Z H locs cells slots ls I hL
  exact lv_iconst I.1.1 I.1.2.1 hdg hv (kk p l e R s m args below meth c Z H locs cells slots ls I hL)
theorem pz_bipush {n : Int} {v : Int32} (hdg : decode M.2.1 pc = .ok (.bipush n, 2)) (hv : (Int8.ofInt n).toInt32 = v) (kk : pz_W X M d (pc + 2) lv (.int v :: st) h rc rs Q) : pz_W X M d pc lv (st) h rc rs Q := by
  intro p l e R s m args below meth c Z H locs cells slots ls I hL
  exact lv_bipush I.1.1 I.1.2.1 hdg hv (kk p l e R s m args below meth c Z H locs cells slots ls I hL)
theorem pz_sipush {n : Int} {v : Int32} (hdg : decode M.2.1 pc = .ok (.sipush n, 3)) (hv : (Int16.ofInt n).toInt32 = v) (kk : pz_W X M d (pc + 3) lv (.int v :: st) h rc rs Q) : pz_W X M d pc lv (st) h rc rs Q := by
  intro p l e R s m args below meth c Z H locs cells slots ls I hL
  exact lv_sipush I.1.1 I.1.2.1 hdg hv (kk p l e R s m args below meth c Z H locs cells slots ls I hL)
theorem pz_lconst {n : Fin 2} {v : Int64} (hdg : decode M.2.1 pc = .ok (.lconst n, 1)) (hv : Int64.ofNat (n : Nat) = v) (kk : pz_W X M d (pc + 1) lv (.long v :: st) h rc rs Q) : pz_W X M d pc lv (st) h rc rs Q := by
  intro p l e R s m args below meth c Z H locs cells slots ls I hL
  exact lv_lconst I.1.1 I.1.2.1 hdg hv (kk p l e R s m args below meth c Z H locs cells slots ls I hL)
theorem pz_null  (hdg : decode M.2.1 pc = .ok (.aconst_null, 1))  (kk : pz_W X M d (pc + 1) lv (.null :: st) h rc rs Q) : pz_W X M d pc lv (st) h rc rs Q := by
  intro p l e R s m args below meth c Z H locs cells slots ls I hL
  exact lv_null I.1.1 I.1.2.1 hdg (kk p l e R s m args below meth c Z H locs cells slots ls I hL)
theorem pz_iload_n {k : Fin 4} {x : Int32} (hdg : decode M.2.1 pc = .ok (.iload_n k, 1)) (hl : pz_lk lv (k : Nat) = some (.int x)) (kk : pz_W X M d (pc + 1) lv (.int x :: st) h rc rs Q) : pz_W X M d pc lv (st) h rc rs Q := by
  intro p l e R s m args below meth c Z H locs cells slots ls I hL
  exact lv_iload_n I.1.1 I.1.2.1 hdg rfl (hL.2.2 _ (pz_lk_mem hl)) (kk p l e R s m args below meth c Z H locs cells slots ls I hL)
theorem pz_iload {i : Nat} {x : Int32} (hdg : decode M.2.1 pc = .ok (.iload i, 2)) (hl : pz_lk lv i = some (.int x)) (kk : pz_W X M d (pc + 2) lv (.int x :: st) h rc rs Q) : pz_W X M d pc lv (st) h rc rs Q := by
  intro p l e R s m args below meth c Z H locs cells slots ls I hL
  exact lv_iload I.1.1 I.1.2.1 hdg (hL.2.2 _ (pz_lk_mem hl)) (kk p l e R s m args below meth c Z H locs cells slots ls I hL)
theorem pz_lload_n {k : Fin 4} {x : Int64} (hdg : decode M.2.1 pc = .ok (.lload_n k, 1)) (hl : pz_lk lv (k : Nat) = some (.long x)) (kk : pz_W X M d (pc + 1) lv (.long x :: st) h rc rs Q) : pz_W X M d pc lv (st) h rc rs Q := by
  intro p l e R s m args below meth c Z H locs cells slots ls I hL
  exact lv_lload_n I.1.1 I.1.2.1 hdg rfl (hL.2.2 _ (pz_lk_mem hl)) (kk p l e R s m args below meth c Z H locs cells slots ls I hL)
theorem pz_lload {i : Nat} {x : Int64} (hdg : decode M.2.1 pc = .ok (.lload i, 2)) (hl : pz_lk lv i = some (.long x)) (kk : pz_W X M d (pc + 2) lv (.long x :: st) h rc rs Q) : pz_W X M d pc lv (st) h rc rs Q := by
  intro p l e R s m args below meth c Z H locs cells slots ls I hL
  exact lv_lload I.1.1 I.1.2.1 hdg (hL.2.2 _ (pz_lk_mem hl)) (kk p l e R s m args below meth c Z H locs cells slots ls I hL)
theorem pz_aload_n {k : Fin 4} {x : Nat} (hdg : decode M.2.1 pc = .ok (.aload_n k, 1)) (hl : pz_lk lv (k : Nat) = some (.ref x)) (kk : pz_W X M d (pc + 1) lv (.ref x :: st) h rc rs Q) : pz_W X M d pc lv (st) h rc rs Q := by
  intro p l e R s m args below meth c Z H locs cells slots ls I hL
  exact lv_aload_n I.1.1 I.1.2.1 hdg rfl (hL.2.2 _ (pz_lk_mem hl)) (kk p l e R s m args below meth c Z H locs cells slots ls I hL)
theorem pz_aload {i : Nat} {x : Nat} (hdg : decode M.2.1 pc = .ok (.aload i, 2)) (hl : pz_lk lv i = some (.ref x)) (kk : pz_W X M d (pc + 2) lv (.ref x :: st) h rc rs Q) : pz_W X M d pc lv (st) h rc rs Q := by
  intro p l e R s m args below meth c Z H locs cells slots ls I hL
  exact lv_aload I.1.1 I.1.2.1 hdg (hL.2.2 _ (pz_lk_mem hl)) (kk p l e R s m args below meth c Z H locs cells slots ls I hL)
theorem pz_istore_n {k : Fin 4} {i : Nat} {x : Int32} (hdg : decode M.2.1 pc = .ok (.istore_n k, 1)) (hi : (k : Nat) = i) (hn : i < M.2.2.1) (hl : pz_set1 i (.int x) lv = lv') (kk : pz_W X M d (pc + 1) lv' st h rc rs Q) : pz_W X M d pc lv (.int x :: st) h rc rs Q := by
  intro p l e R s m args below meth c Z H locs cells slots ls I hL
  exact lv_istore_n I.1.1 I.1.2.1 hdg hi hL hn rfl (fun ls' hL' => kk p l e R s m args below meth c Z H locs cells slots ls' I (hL'.sub (fun q hq => pz_ins_mem (by rw [← hl] at hq; exact hq))))
theorem pz_istore {i : Nat} {x : Int32} (hdg : decode M.2.1 pc = .ok (.istore i, 2))  (hn : i < M.2.2.1) (hl : pz_set1 i (.int x) lv = lv') (kk : pz_W X M d (pc + 2) lv' st h rc rs Q) : pz_W X M d pc lv (.int x :: st) h rc rs Q := by
  intro p l e R s m args below meth c Z H locs cells slots ls I hL
  exact lv_istore I.1.1 I.1.2.1 hdg hL hn rfl (fun ls' hL' => kk p l e R s m args below meth c Z H locs cells slots ls' I (hL'.sub (fun q hq => pz_ins_mem (by rw [← hl] at hq; exact hq))))
theorem pz_astore_n {k : Fin 4} {i : Nat} {x : Nat} (hdg : decode M.2.1 pc = .ok (.astore_n k, 1)) (hi : (k : Nat) = i) (hn : i < M.2.2.1) (hl : pz_set1 i (.ref x) lv = lv') (kk : pz_W X M d (pc + 1) lv' st h rc rs Q) : pz_W X M d pc lv (.ref x :: st) h rc rs Q := by
  intro p l e R s m args below meth c Z H locs cells slots ls I hL
  exact lv_astore_n I.1.1 I.1.2.1 hdg hi hL hn rfl (fun ls' hL' => kk p l e R s m args below meth c Z H locs cells slots ls' I (hL'.sub (fun q hq => pz_ins_mem (by rw [← hl] at hq; exact hq))))
theorem pz_astore {i : Nat} {x : Nat} (hdg : decode M.2.1 pc = .ok (.astore i, 2))  (hn : i < M.2.2.1) (hl : pz_set1 i (.ref x) lv = lv') (kk : pz_W X M d (pc + 2) lv' st h rc rs Q) : pz_W X M d pc lv (.ref x :: st) h rc rs Q := by
  intro p l e R s m args below meth c Z H locs cells slots ls I hL
  exact lv_astore I.1.1 I.1.2.1 hdg hL hn rfl (fun ls' hL' => kk p l e R s m args below meth c Z H locs cells slots ls' I (hL'.sub (fun q hq => pz_ins_mem (by rw [← hl] at hq; exact hq))))
theorem pz_lstore_n {k : Fin 4} {i : Nat} {x : Int64} (hdg : decode M.2.1 pc = .ok (.lstore_n k, 1)) (hi : (k : Nat) = i) (hn : i + 1 < M.2.2.1) (hl : pz_set2 i (.long x) lv = lv') (kk : pz_W X M d (pc + 1) lv' st h rc rs Q) : pz_W X M d pc lv (.long x :: st) h rc rs Q := by
  intro p l e R s m args below meth c Z H locs cells slots ls I hL
  exact lv_lstore_n I.1.1 I.1.2.1 hdg hi hL hn rfl (fun ls' hL' => kk p l e R s m args below meth c Z H locs cells slots ls' I (hL'.sub (fun q hq => pz_ins_mem (by rw [← hl] at hq; exact hq))))
theorem pz_lstore {i : Nat} {x : Int64} (hdg : decode M.2.1 pc = .ok (.lstore i, 2))  (hn : i + 1 < M.2.2.1) (hl : pz_set2 i (.long x) lv = lv') (kk : pz_W X M d (pc + 2) lv' st h rc rs Q) : pz_W X M d pc lv (.long x :: st) h rc rs Q := by
  intro p l e R s m args below meth c Z H locs cells slots ls I hL
  exact lv_lstore I.1.1 I.1.2.1 hdg hL hn rfl (fun ls' hL' => kk p l e R s m args below meth c Z H locs cells slots ls' I (hL'.sub (fun q hq => pz_ins_mem (by rw [← hl] at hq; exact hq))))
theorem pz_iinc {i : Nat} {n : Int} {x v : Int32} (hdg : decode M.2.1 pc = .ok (.iinc i n, 3)) (hk : pz_lk lv i = some (.int x)) (hv : x + Int32.ofInt n = v) (hn : i < M.2.2.1) (hl : pz_set1 i (.int v) lv = lv') (kk : pz_W X M d (pc + 3) lv' st h rc rs Q) : pz_W X M d pc lv st h rc rs Q := by
  intro p l e R s m args below meth c Z H locs cells slots ls I hL
  obtain ⟨k, hk2⟩ := List.getElem?_of_mem (pz_lk_mem hk)
  exact lv_iinc (k := k) I.1.1 I.1.2.1 hdg hL hk2 hv hn rfl (fun ls' hL' => kk p l e R s m args below meth c Z H locs cells slots ls' I (hL'.sub (fun q hq => pz_ins_mem (by rw [← hl] at hq; exact hq))))
theorem pz_iadd {x y : Int32} (hdg : decode M.2.1 pc = .ok (.iadd, 1))  (kk : pz_W X M d (pc + 1) lv (.int (x + y) :: st) h rc rs Q) : pz_W X M d pc lv (.int y :: .int x :: st) h rc rs Q := by
  intro p l e R s m args below meth c Z H locs cells slots ls I hL
  exact lv_iadd I.1.1 I.1.2.1 hdg (kk p l e R s m args below meth c Z H locs cells slots ls I hL)
theorem pz_isub {x y : Int32} (hdg : decode M.2.1 pc = .ok (.isub, 1))  (kk : pz_W X M d (pc + 1) lv (.int (x - y) :: st) h rc rs Q) : pz_W X M d pc lv (.int y :: .int x :: st) h rc rs Q := by
  intro p l e R s m args below meth c Z H locs cells slots ls I hL
  exact lv_isub I.1.1 I.1.2.1 hdg (kk p l e R s m args below meth c Z H locs cells slots ls I hL)
theorem pz_imul {x y : Int32} (hdg : decode M.2.1 pc = .ok (.imul, 1))  (kk : pz_W X M d (pc + 1) lv (.int (x * y) :: st) h rc rs Q) : pz_W X M d pc lv (.int y :: .int x :: st) h rc rs Q := by
  intro p l e R s m args below meth c Z H locs cells slots ls I hL
  exact lv_imul I.1.1 I.1.2.1 hdg (kk p l e R s m args below meth c Z H locs cells slots ls I hL)
theorem pz_iand {x y : Int32} (hdg : decode M.2.1 pc = .ok (.iand, 1))  (kk : pz_W X M d (pc + 1) lv (.int (x &&& y) :: st) h rc rs Q) : pz_W X M d pc lv (.int y :: .int x :: st) h rc rs Q := by
  intro p l e R s m args below meth c Z H locs cells slots ls I hL
  exact lv_iand I.1.1 I.1.2.1 hdg (kk p l e R s m args below meth c Z H locs cells slots ls I hL)
theorem pz_ior {x y : Int32} (hdg : decode M.2.1 pc = .ok (.ior, 1))  (kk : pz_W X M d (pc + 1) lv (.int (x ||| y) :: st) h rc rs Q) : pz_W X M d pc lv (.int y :: .int x :: st) h rc rs Q := by
  intro p l e R s m args below meth c Z H locs cells slots ls I hL
  exact lv_ior I.1.1 I.1.2.1 hdg (kk p l e R s m args below meth c Z H locs cells slots ls I hL)
theorem pz_ixor {x y : Int32} (hdg : decode M.2.1 pc = .ok (.ixor, 1))  (kk : pz_W X M d (pc + 1) lv (.int (x ^^^ y) :: st) h rc rs Q) : pz_W X M d pc lv (.int y :: .int x :: st) h rc rs Q := by
  intro p l e R s m args below meth c Z H locs cells slots ls I hL
  exact lv_ixor I.1.1 I.1.2.1 hdg (kk p l e R s m args below meth c Z H locs cells slots ls I hL)
theorem pz_ishl {x y : Int32} (hdg : decode M.2.1 pc = .ok (.ishl, 1))  (kk : pz_W X M d (pc + 1) lv (.int (x <<< (y &&& 31)) :: st) h rc rs Q) : pz_W X M d pc lv (.int y :: .int x :: st) h rc rs Q := by
  intro p l e R s m args below meth c Z H locs cells slots ls I hL
  exact lv_ishl I.1.1 I.1.2.1 hdg (kk p l e R s m args below meth c Z H locs cells slots ls I hL)
theorem pz_ishr {x y : Int32} (hdg : decode M.2.1 pc = .ok (.ishr, 1))  (kk : pz_W X M d (pc + 1) lv (.int (x >>> (y &&& 31)) :: st) h rc rs Q) : pz_W X M d pc lv (.int y :: .int x :: st) h rc rs Q := by
  intro p l e R s m args below meth c Z H locs cells slots ls I hL
  exact lv_ishr I.1.1 I.1.2.1 hdg (kk p l e R s m args below meth c Z H locs cells slots ls I hL)
theorem pz_iushr {x y v : Int32} (hdg : decode M.2.1 pc = .ok (.iushr, 1)) (hv : (x.toUInt32 >>> (y.toUInt32 &&& Int32.toUInt32 31)).toInt32 = v) (kk : pz_W X M d (pc + 1) lv (.int v :: st) h rc rs Q) : pz_W X M d pc lv (.int y :: .int x :: st) h rc rs Q := by
  intro p l e R s m args below meth c Z H locs cells slots ls I hL
  exact lv_iushr I.1.1 I.1.2.1 hdg hv (kk p l e R s m args below meth c Z H locs cells slots ls I hL)
theorem pz_idiv {x y : Int32} (hdg : decode M.2.1 pc = .ok (.idiv, 1)) (hne : ¬ y = 0) (kk : pz_W X M d (pc + 1) lv (.int (x / y) :: st) h rc rs Q) : pz_W X M d pc lv (.int y :: .int x :: st) h rc rs Q := by
  intro p l e R s m args below meth c Z H locs cells slots ls I hL
  exact lv_idiv I.1.1 I.1.2.1 hdg hne (kk p l e R s m args below meth c Z H locs cells slots ls I hL)
theorem pz_irem {x y : Int32} (hdg : decode M.2.1 pc = .ok (.irem, 1)) (hne : ¬ y = 0) (kk : pz_W X M d (pc + 1) lv (.int (x - x / y * y) :: st) h rc rs Q) : pz_W X M d pc lv (.int y :: .int x :: st) h rc rs Q := by
  intro p l e R s m args below meth c Z H locs cells slots ls I hL
  exact lv_irem I.1.1 I.1.2.1 hdg hne (kk p l e R s m args below meth c Z H locs cells slots ls I hL)
theorem pz_ineg {x : Int32} (hdg : decode M.2.1 pc = .ok (.ineg, 1))  (kk : pz_W X M d (pc + 1) lv (.int (-x) :: st) h rc rs Q) : pz_W X M d pc lv (.int x :: st) h rc rs Q := by
  intro p l e R s m args below meth c Z H locs cells slots ls I hL
  exact lv_ineg I.1.1 I.1.2.1 hdg (kk p l e R s m args below meth c Z H locs cells slots ls I hL)
theorem pz_ladd {x y : Int64} (hdg : decode M.2.1 pc = .ok (.ladd, 1))  (kk : pz_W X M d (pc + 1) lv (.long (x + y) :: st) h rc rs Q) : pz_W X M d pc lv (.long y :: .long x :: st) h rc rs Q := by
  intro p l e R s m args below meth c Z H locs cells slots ls I hL
  exact lv_ladd I.1.1 I.1.2.1 hdg (kk p l e R s m args below meth c Z H locs cells slots ls I hL)
theorem pz_lsub {x y : Int64} (hdg : decode M.2.1 pc = .ok (.lsub, 1))  (kk : pz_W X M d (pc + 1) lv (.long (x - y) :: st) h rc rs Q) : pz_W X M d pc lv (.long y :: .long x :: st) h rc rs Q := by
  intro p l e R s m args below meth c Z H locs cells slots ls I hL
  exact lv_lsub I.1.1 I.1.2.1 hdg (kk p l e R s m args below meth c Z H locs cells slots ls I hL)
theorem pz_lmul {x y : Int64} (hdg : decode M.2.1 pc = .ok (.lmul, 1))  (kk : pz_W X M d (pc + 1) lv (.long (x * y) :: st) h rc rs Q) : pz_W X M d pc lv (.long y :: .long x :: st) h rc rs Q := by
  intro p l e R s m args below meth c Z H locs cells slots ls I hL
  exact lv_lmul I.1.1 I.1.2.1 hdg (kk p l e R s m args below meth c Z H locs cells slots ls I hL)
theorem pz_land {x y : Int64} (hdg : decode M.2.1 pc = .ok (.land, 1))  (kk : pz_W X M d (pc + 1) lv (.long (x &&& y) :: st) h rc rs Q) : pz_W X M d pc lv (.long y :: .long x :: st) h rc rs Q := by
  intro p l e R s m args below meth c Z H locs cells slots ls I hL
  exact lv_land I.1.1 I.1.2.1 hdg (kk p l e R s m args below meth c Z H locs cells slots ls I hL)
theorem pz_lor {x y : Int64} (hdg : decode M.2.1 pc = .ok (.lor, 1))  (kk : pz_W X M d (pc + 1) lv (.long (x ||| y) :: st) h rc rs Q) : pz_W X M d pc lv (.long y :: .long x :: st) h rc rs Q := by
  intro p l e R s m args below meth c Z H locs cells slots ls I hL
  exact lv_lor I.1.1 I.1.2.1 hdg (kk p l e R s m args below meth c Z H locs cells slots ls I hL)
theorem pz_lxor {x y : Int64} (hdg : decode M.2.1 pc = .ok (.lxor, 1))  (kk : pz_W X M d (pc + 1) lv (.long (x ^^^ y) :: st) h rc rs Q) : pz_W X M d pc lv (.long y :: .long x :: st) h rc rs Q := by
  intro p l e R s m args below meth c Z H locs cells slots ls I hL
  exact lv_lxor I.1.1 I.1.2.1 hdg (kk p l e R s m args below meth c Z H locs cells slots ls I hL)
theorem pz_ldiv {x y : Int64} (hdg : decode M.2.1 pc = .ok (.ldiv, 1)) (hne : ¬ y = 0) (kk : pz_W X M d (pc + 1) lv (.long (x / y) :: st) h rc rs Q) : pz_W X M d pc lv (.long y :: .long x :: st) h rc rs Q := by
  intro p l e R s m args below meth c Z H locs cells slots ls I hL
  exact lv_ldiv I.1.1 I.1.2.1 hdg hne (kk p l e R s m args below meth c Z H locs cells slots ls I hL)
theorem pz_lrem {x y : Int64} (hdg : decode M.2.1 pc = .ok (.lrem, 1)) (hne : ¬ y = 0) (kk : pz_W X M d (pc + 1) lv (.long (x - x / y * y) :: st) h rc rs Q) : pz_W X M d pc lv (.long y :: .long x :: st) h rc rs Q := by
  intro p l e R s m args below meth c Z H locs cells slots ls I hL
  exact lv_lrem I.1.1 I.1.2.1 hdg hne (kk p l e R s m args below meth c Z H locs cells slots ls I hL)
theorem pz_lshl {x v : Int64} {y : Int32} (hdg : decode M.2.1 pc = .ok (.lshl, 1)) (hv : x <<< (y.toInt64 &&& 63) = v) (kk : pz_W X M d (pc + 1) lv (.long v :: st) h rc rs Q) : pz_W X M d pc lv (.int y :: .long x :: st) h rc rs Q := by
  intro p l e R s m args below meth c Z H locs cells slots ls I hL
  exact lv_lshl I.1.1 I.1.2.1 hdg hv (kk p l e R s m args below meth c Z H locs cells slots ls I hL)
theorem pz_lshr {x v : Int64} {y : Int32} (hdg : decode M.2.1 pc = .ok (.lshr, 1)) (hv : x >>> (y.toInt64 &&& 63) = v) (kk : pz_W X M d (pc + 1) lv (.long v :: st) h rc rs Q) : pz_W X M d pc lv (.int y :: .long x :: st) h rc rs Q := by
  intro p l e R s m args below meth c Z H locs cells slots ls I hL
  exact lv_lshr I.1.1 I.1.2.1 hdg hv (kk p l e R s m args below meth c Z H locs cells slots ls I hL)
theorem pz_lcmp {x y : Int64} (hdg : decode M.2.1 pc = .ok (.lcmp, 1))  (kk : pz_W X M d (pc + 1) lv (.int (lg_cmp x y) :: st) h rc rs Q) : pz_W X M d pc lv (.long y :: .long x :: st) h rc rs Q := by
  intro p l e R s m args below meth c Z H locs cells slots ls I hL
  exact W.lcmp I.1.1 I.1.2.1 hdg (kk p l e R s m args below meth c Z H locs cells slots ls I hL)
theorem pz_i2l {x : Int32} (hdg : decode M.2.1 pc = .ok (.i2l, 1))  (kk : pz_W X M d (pc + 1) lv (.long x.toInt64 :: st) h rc rs Q) : pz_W X M d pc lv (.int x :: st) h rc rs Q := by
  intro p l e R s m args below meth c Z H locs cells slots ls I hL
  exact lv_i2l I.1.1 I.1.2.1 hdg rfl (kk p l e R s m args below meth c Z H locs cells slots ls I hL)
theorem pz_l2i {x : Int64} (hdg : decode M.2.1 pc = .ok (.l2i, 1))  (kk : pz_W X M d (pc + 1) lv (.int x.toInt32 :: st) h rc rs Q) : pz_W X M d pc lv (.long x :: st) h rc rs Q := by
  intro p l e R s m args below meth c Z H locs cells slots ls I hL
  exact lv_l2i I.1.1 I.1.2.1 hdg rfl (kk p l e R s m args below meth c Z H locs cells slots ls I hL)
theorem pz_dup {va : Value} (hdg : decode M.2.1 pc = .ok (.dup, 1)) (hva : va.category = 1) (kk : pz_W X M d (pc + 1) lv (va :: va :: st) h rc rs Q) : pz_W X M d pc lv (va :: st) h rc rs Q := by
  intro p l e R s m args below meth c Z H locs cells slots ls I hL
  exact lv_dup I.1.1 I.1.2.1 hdg hva (kk p l e R s m args below meth c Z H locs cells slots ls I hL)
theorem pz_pop {va : Value} (hdg : decode M.2.1 pc = .ok (.pop, 1)) (hva : va.category = 1) (kk : pz_W X M d (pc + 1) lv (st) h rc rs Q) : pz_W X M d pc lv (va :: st) h rc rs Q := by
  intro p l e R s m args below meth c Z H locs cells slots ls I hL
  exact lv_pop I.1.1 I.1.2.1 hdg hva (kk p l e R s m args below meth c Z H locs cells slots ls I hL)
theorem pz_dup_x1 {va vb : Value} (hdg : decode M.2.1 pc = .ok (.dup_x1, 1)) (hva : va.category = 1) (hvb : vb.category = 1) (kk : pz_W X M d (pc + 1) lv (va :: vb :: va :: st) h rc rs Q) : pz_W X M d pc lv (va :: vb :: st) h rc rs Q := by
  intro p l e R s m args below meth c Z H locs cells slots ls I hL
  exact lv_dup_x1 I.1.1 I.1.2.1 hdg hva hvb (kk p l e R s m args below meth c Z H locs cells slots ls I hL)
theorem pz_dup_x2 {va vb vd : Value} (hdg : decode M.2.1 pc = .ok (.dup_x2, 1)) (hva : va.category = 1) (hvb : vb.category = 1) (hvd : vd.category = 1) (kk : pz_W X M d (pc + 1) lv (va :: vb :: vd :: va :: st) h rc rs Q) : pz_W X M d pc lv (va :: vb :: vd :: st) h rc rs Q := by
  intro p l e R s m args below meth c Z H locs cells slots ls I hL
  exact lv_dup_x2 I.1.1 I.1.2.1 hdg hva hvb hvd (kk p l e R s m args below meth c Z H locs cells slots ls I hL)
theorem pz_dup2 {va vb : Value} (hdg : decode M.2.1 pc = .ok (.dup2, 1)) (hva : va.category = 1) (hvb : vb.category = 1) (kk : pz_W X M d (pc + 1) lv (va :: vb :: va :: vb :: st) h rc rs Q) : pz_W X M d pc lv (va :: vb :: st) h rc rs Q := by
  intro p l e R s m args below meth c Z H locs cells slots ls I hL
  exact lv_dup2_11 I.1.1 I.1.2.1 hdg hva hvb (kk p l e R s m args below meth c Z H locs cells slots ls I hL)
theorem pz_if_eq {x : Int32} {off : Int} {tgt : Nat} (hdg : decode M.2.1 pc = .ok (.ifCond .eq off, 3)) (ht : (pc : Int) + off = (tgt : Int)) (kt : x = 0 → pz_W X M d tgt lv st h rc rs Q) (kf : ¬ x = 0 → pz_W X M d (pc + 3) lv st h rc rs Q) : pz_W X M d pc lv (.int x :: st) h rc rs Q := by
  intro p l e R s m args below meth c Z H locs cells slots ls I hL
  exact lv_if_eq I.1.1 I.1.2.1 hdg ht (fun z => kt z p l e R s m args below meth c Z H locs cells slots ls I hL) (fun z => kf z p l e R s m args below meth c Z H locs cells slots ls I hL)
theorem pz_icmp_eq {x y : Int32} {off : Int} {tgt : Nat} (hdg : decode M.2.1 pc = .ok (.if_icmp .eq off, 3)) (ht : (pc : Int) + off = (tgt : Int)) (kt : x = y → pz_W X M d tgt lv st h rc rs Q) (kf : ¬ x = y → pz_W X M d (pc + 3) lv st h rc rs Q) : pz_W X M d pc lv (.int y :: .int x :: st) h rc rs Q := by
  intro p l e R s m args below meth c Z H locs cells slots ls I hL
  exact lv_icmp_eq I.1.1 I.1.2.1 hdg ht (fun z => kt z p l e R s m args below meth c Z H locs cells slots ls I hL) (fun z => kf z p l e R s m args below meth c Z H locs cells slots ls I hL)
theorem pz_if_ne {x : Int32} {off : Int} {tgt : Nat} (hdg : decode M.2.1 pc = .ok (.ifCond .ne off, 3)) (ht : (pc : Int) + off = (tgt : Int)) (kt : ¬ x = 0 → pz_W X M d tgt lv st h rc rs Q) (kf : x = 0 → pz_W X M d (pc + 3) lv st h rc rs Q) : pz_W X M d pc lv (.int x :: st) h rc rs Q := by
  intro p l e R s m args below meth c Z H locs cells slots ls I hL
  exact lv_if_ne I.1.1 I.1.2.1 hdg ht (fun z => kt z p l e R s m args below meth c Z H locs cells slots ls I hL) (fun z => kf z p l e R s m args below meth c Z H locs cells slots ls I hL)
theorem pz_icmp_ne {x y : Int32} {off : Int} {tgt : Nat} (hdg : decode M.2.1 pc = .ok (.if_icmp .ne off, 3)) (ht : (pc : Int) + off = (tgt : Int)) (kt : ¬ x = y → pz_W X M d tgt lv st h rc rs Q) (kf : x = y → pz_W X M d (pc + 3) lv st h rc rs Q) : pz_W X M d pc lv (.int y :: .int x :: st) h rc rs Q := by
  intro p l e R s m args below meth c Z H locs cells slots ls I hL
  exact lv_icmp_ne I.1.1 I.1.2.1 hdg ht (fun z => kt z p l e R s m args below meth c Z H locs cells slots ls I hL) (fun z => kf z p l e R s m args below meth c Z H locs cells slots ls I hL)
theorem pz_if_lt {x : Int32} {off : Int} {tgt : Nat} (hdg : decode M.2.1 pc = .ok (.ifCond .lt off, 3)) (ht : (pc : Int) + off = (tgt : Int)) (kt : x < 0 → pz_W X M d tgt lv st h rc rs Q) (kf : ¬ x < 0 → pz_W X M d (pc + 3) lv st h rc rs Q) : pz_W X M d pc lv (.int x :: st) h rc rs Q := by
  intro p l e R s m args below meth c Z H locs cells slots ls I hL
  exact lv_if_lt I.1.1 I.1.2.1 hdg ht (fun z => kt z p l e R s m args below meth c Z H locs cells slots ls I hL) (fun z => kf z p l e R s m args below meth c Z H locs cells slots ls I hL)
theorem pz_icmp_lt {x y : Int32} {off : Int} {tgt : Nat} (hdg : decode M.2.1 pc = .ok (.if_icmp .lt off, 3)) (ht : (pc : Int) + off = (tgt : Int)) (kt : x < y → pz_W X M d tgt lv st h rc rs Q) (kf : ¬ x < y → pz_W X M d (pc + 3) lv st h rc rs Q) : pz_W X M d pc lv (.int y :: .int x :: st) h rc rs Q := by
  intro p l e R s m args below meth c Z H locs cells slots ls I hL
  exact lv_icmp_lt I.1.1 I.1.2.1 hdg ht (fun z => kt z p l e R s m args below meth c Z H locs cells slots ls I hL) (fun z => kf z p l e R s m args below meth c Z H locs cells slots ls I hL)
theorem pz_if_ge {x : Int32} {off : Int} {tgt : Nat} (hdg : decode M.2.1 pc = .ok (.ifCond .ge off, 3)) (ht : (pc : Int) + off = (tgt : Int)) (kt : 0 ≤ x → pz_W X M d tgt lv st h rc rs Q) (kf : ¬ 0 ≤ x → pz_W X M d (pc + 3) lv st h rc rs Q) : pz_W X M d pc lv (.int x :: st) h rc rs Q := by
  intro p l e R s m args below meth c Z H locs cells slots ls I hL
  exact lv_if_ge I.1.1 I.1.2.1 hdg ht (fun z => kt z p l e R s m args below meth c Z H locs cells slots ls I hL) (fun z => kf z p l e R s m args below meth c Z H locs cells slots ls I hL)
theorem pz_icmp_ge {x y : Int32} {off : Int} {tgt : Nat} (hdg : decode M.2.1 pc = .ok (.if_icmp .ge off, 3)) (ht : (pc : Int) + off = (tgt : Int)) (kt : y ≤ x → pz_W X M d tgt lv st h rc rs Q) (kf : ¬ y ≤ x → pz_W X M d (pc + 3) lv st h rc rs Q) : pz_W X M d pc lv (.int y :: .int x :: st) h rc rs Q := by
  intro p l e R s m args below meth c Z H locs cells slots ls I hL
  exact lv_icmp_ge I.1.1 I.1.2.1 hdg ht (fun z => kt z p l e R s m args below meth c Z H locs cells slots ls I hL) (fun z => kf z p l e R s m args below meth c Z H locs cells slots ls I hL)
theorem pz_if_gt {x : Int32} {off : Int} {tgt : Nat} (hdg : decode M.2.1 pc = .ok (.ifCond .gt off, 3)) (ht : (pc : Int) + off = (tgt : Int)) (kt : 0 < x → pz_W X M d tgt lv st h rc rs Q) (kf : ¬ 0 < x → pz_W X M d (pc + 3) lv st h rc rs Q) : pz_W X M d pc lv (.int x :: st) h rc rs Q := by
  intro p l e R s m args below meth c Z H locs cells slots ls I hL
  exact lv_if_gt I.1.1 I.1.2.1 hdg ht (fun z => kt z p l e R s m args below meth c Z H locs cells slots ls I hL) (fun z => kf z p l e R s m args below meth c Z H locs cells slots ls I hL)
theorem pz_icmp_gt {x y : Int32} {off : Int} {tgt : Nat} (hdg : decode M.2.1 pc = .ok (.if_icmp .gt off, 3)) (ht : (pc : Int) + off = (tgt : Int)) (kt : y < x → pz_W X M d tgt lv st h rc rs Q) (kf : ¬ y < x → pz_W X M d (pc + 3) lv st h rc rs Q) : pz_W X M d pc lv (.int y :: .int x :: st) h rc rs Q := by
  intro p l e R s m args below meth c Z H locs cells slots ls I hL
  exact lv_icmp_gt I.1.1 I.1.2.1 hdg ht (fun z => kt z p l e R s m args below meth c Z H locs cells slots ls I hL) (fun z => kf z p l e R s m args below meth c Z H locs cells slots ls I hL)
theorem pz_if_le {x : Int32} {off : Int} {tgt : Nat} (hdg : decode M.2.1 pc = .ok (.ifCond .le off, 3)) (ht : (pc : Int) + off = (tgt : Int)) (kt : x ≤ 0 → pz_W X M d tgt lv st h rc rs Q) (kf : ¬ x ≤ 0 → pz_W X M d (pc + 3) lv st h rc rs Q) : pz_W X M d pc lv (.int x :: st) h rc rs Q := by
  intro p l e R s m args below meth c Z H locs cells slots ls I hL
  exact lv_if_le I.1.1 I.1.2.1 hdg ht (fun z => kt z p l e R s m args below meth c Z H locs cells slots ls I hL) (fun z => kf z p l e R s m args below meth c Z H locs cells slots ls I hL)
theorem pz_icmp_le {x y : Int32} {off : Int} {tgt : Nat} (hdg : decode M.2.1 pc = .ok (.if_icmp .le off, 3)) (ht : (pc : Int) + off = (tgt : Int)) (kt : x ≤ y → pz_W X M d tgt lv st h rc rs Q) (kf : ¬ x ≤ y → pz_W X M d (pc + 3) lv st h rc rs Q) : pz_W X M d pc lv (.int y :: .int x :: st) h rc rs Q := by
  intro p l e R s m args below meth c Z H locs cells slots ls I hL
  exact lv_icmp_le I.1.1 I.1.2.1 hdg ht (fun z => kt z p l e R s m args below meth c Z H locs cells slots ls I hL) (fun z => kf z p l e R s m args below meth c Z H locs cells slots ls I hL)
theorem pz_goto {off : Int} {tgt : Nat} (hdg : decode M.2.1 pc = .ok (.goto off, 3)) (ht : (pc : Int) + off = (tgt : Int)) (kk : pz_W X M d tgt lv st h rc rs Q) : pz_W X M d pc lv st h rc rs Q := by
  intro p l e R s m args below meth c Z H locs cells slots ls I hL
  exact lv_goto I.1.1 I.1.2.1 hdg ht (kk p l e R s m args below meth c Z H locs cells slots ls I hL)
theorem pz_ifnull {x : Nat} {off : Int} (hdg : decode M.2.1 pc = .ok (.ifnull off, 3)) (kk : pz_W X M d (pc + 3) lv st h rc rs Q) : pz_W X M d pc lv (.ref x :: st) h rc rs Q := by
  intro p l e R s m args below meth c Z H locs cells slots ls I hL
  exact lv_ifnull I.1.1 I.1.2.1 hdg (kk p l e R s m args below meth c Z H locs cells slots ls I hL)
theorem pz_ifnullN {off : Int} {tgt : Nat} (hdg : decode M.2.1 pc = .ok (.ifnull off, 3)) (ht : (pc : Int) + off = (tgt : Int)) (kk : pz_W X M d tgt lv st h rc rs Q) : pz_W X M d pc lv (.null :: st) h rc rs Q := by
  intro p l e R s m args below meth c Z H locs cells slots ls I hL
  exact lv_ifnullN I.1.1 I.1.2.1 hdg ht (kk p l e R s m args below meth c Z H locs cells slots ls I hL)
theorem pz_ifnonnull {x : Nat} {off : Int} {tgt : Nat} (hdg : decode M.2.1 pc = .ok (.ifnonnull off, 3)) (ht : (pc : Int) + off = (tgt : Int)) (kk : pz_W X M d tgt lv st h rc rs Q) : pz_W X M d pc lv (.ref x :: st) h rc rs Q := by
  intro p l e R s m args below meth c Z H locs cells slots ls I hL
  exact lv_ifnonnull I.1.1 I.1.2.1 hdg ht (kk p l e R s m args below meth c Z H locs cells slots ls I hL)
theorem pz_ifnonnullN {off : Int} (hdg : decode M.2.1 pc = .ok (.ifnonnull off, 3)) (kk : pz_W X M d (pc + 3) lv st h rc rs Q) : pz_W X M d pc lv (.null :: st) h rc rs Q := by
  intro p l e R s m args below meth c Z H locs cells slots ls I hL
  exact lv_ifnonnullN I.1.1 I.1.2.1 hdg (kk p l e R s m args below meth c Z H locs cells slots ls I hL)
theorem pz_tableIn {dflt lo hi : Int} {offs : Array Int} {len : Nat} {x : Int32} {off : Int} {tgt : Nat} (hdg : decode M.2.1 pc = .ok (.tableswitch dflt lo hi offs, len)) (h1 : ¬ x.toInt < lo) (h2 : ¬ hi < x.toInt) (ho : offs[(x.toInt - lo).toNat]? = some off) (ht : (pc : Int) + off = (tgt : Int)) (kk : pz_W X M d tgt lv st h rc rs Q) : pz_W X M d pc lv (.int x :: st) h rc rs Q := by
  intro p l e R s m args below meth c Z H locs cells slots ls I hL
  exact lv_tableIn I.1.1 I.1.2.1 hdg h1 h2 ho ht (kk p l e R s m args below meth c Z H locs cells slots ls I hL)
theorem pz_tableOut {dflt lo hi : Int} {offs : Array Int} {len : Nat} {x : Int32} {tgt : Nat} (hdg : decode M.2.1 pc = .ok (.tableswitch dflt lo hi offs, len)) (hx : x.toInt < lo ∨ hi < x.toInt) (ht : (pc : Int) + dflt = (tgt : Int)) (kk : pz_W X M d tgt lv st h rc rs Q) : pz_W X M d pc lv (.int x :: st) h rc rs Q := by
  intro p l e R s m args below meth c Z H locs cells slots ls I hL
  exact lv_tableOut I.1.1 I.1.2.1 hdg hx ht (kk p l e R s m args below meth c Z H locs cells slots ls I hL)
theorem pz_ldc {index : Nat} {v : Int32} (hdg : decode M.2.1 pc = .ok (.ldc index, 2)) (hw : Jvm.Cond.constant M.1.cls index v ∈ pz_U) (kk : pz_W X M d (pc + 2) lv (.int v :: st) h rc rs Q) : pz_W X M d pc lv st h rc rs Q := by
  intro p l e R s m args below meth c Z H locs cells slots ls I hL
  exact lv_ldc I.1.1 I.1.2.1 I.1.2.2.2.1 (I.1.2.2.2.2.1 _ hw) hdg (kk p l e R s m args below meth c Z H locs cells slots ls I hL)
theorem pz_ret {r : Option Value} (hr : pz_rt M pc r) (hq : Q r h) : pz_W X M d pc lv (r.toList) h rc rs Q := by
  intro p l e R s m args below meth c Z H locs cells slots ls I hL
  obtain ⟨hC, hB, hZ, hR, hS, hc, hs⟩ := I
  exact W.widen (by omega) (by omega) (hZ r h H locs pc ls hq hR hS hr)
theorem pz_ireturn {v : Int32} {ty : FieldType} (hdg : decode M.2.1 pc = .ok (.ireturn, 1)) (ht : M.2.2.2 = some ty) (hn : narrow ty (.int v) = .int v) (hq : Q (some (.int v)) h) : pz_W X M d pc lv [.int v] h rc rs Q := pz_ret (r := some (.int v)) ⟨ty, ht, hn, hdg⟩ hq
theorem pz_lreturn {v : Int64} (hdg : decode M.2.1 pc = .ok (.lreturn, 1)) (ht : M.2.2.2 = some .long) (hq : Q (some (.long v)) h) : pz_W X M d pc lv [.long v] h rc rs Q := pz_ret (r := some (.long v)) ⟨ht, hdg⟩ hq
theorem pz_return (hdg : decode M.2.1 pc = .ok (.return_, 1)) (ht : M.2.2.2 = none) (hq : Q none h) : pz_W X M d pc lv [] h rc rs Q := pz_ret (r := none) ⟨ht, hdg⟩ hq
theorem pz_areturn {a : Nat} {C : String} (hdg : decode M.2.1 pc = .ok (.areturn, 1)) (ht : M.2.2.2 = some (.object C)) (hq : Q (some (.ref a)) h) : pz_W X M d pc lv [.ref a] h rc rs Q := pz_ret (r := some (.ref a)) ⟨⟨_, ht, Or.inl ⟨C, rfl⟩⟩, hdg⟩ hq
theorem pz_areturnN {C : String} (hdg : decode M.2.1 pc = .ok (.areturn, 1)) (ht : M.2.2.2 = some (.object C)) (hq : Q (some .null) h) : pz_W X M d pc lv [.null] h rc rs Q := pz_ret (r := some .null) ⟨⟨_, ht, Or.inl ⟨C, rfl⟩⟩, hdg⟩ hq
end PZR
end
section
/-! HEAP ROWS of the program logic -/
theorem pz_one {X : pz_X} {H : Heap} {q : Nat × va_E} (h : va_at X.1 vwCl q H) : va_P X.1 vwCl [q] H := by
  intro k x hk
  cases k with
  | zero => cases hk; exact h
  | succ k => simp at hk
/-- a link to a field: class ci, field k -/
def pz_FL (own : String) (idx ci k : Nat) : Prop := ∃ (C : String) (T : u_T) (N : Nat), vwCl[ci]? = some (C, T, N) ∧ k < N ∧ (∀ w ∈ u_ws C T N, w ∈ pz_U) ∧ Cond.fieldLink own idx (T k).1 (T k).2.1 (T k).2.2.1 ∈ pz_U
/-- and what a store to it needs: fin: it is final, and the storing method is a constructor -/
def pz_FP (own : String) (idx ci k : Nat) (ty : FieldType) (fin : Bool) : Prop := ∃ (C : String) (T : u_T) (N : Nat) (ty0 : Nat → FieldType), vwCl[ci]? = some (C, T, N) ∧ k < N ∧ (∀ w ∈ u_ws C T N, w ∈ pz_U) ∧ Cond.fieldLink own idx (T k).1 (T k).2.1 (T k).2.2.1 ∈ pz_U ∧ (∀ k, k < N → parseFieldDescriptor (T k).2.2.1 = some (ty0 k)) ∧ (∀ a, a < N → ∀ b, b < N → a ≠ b → (T a).2.1 ≠ (T b).2.1) ∧ (T k).2.2.2 = fin ∧ parseFieldDescriptor (T k).2.2.1 = some ty ∧ (fin = true → (T k).1 = own)
section PZH
variable {X : pz_X} {M : pz_M} {d pc rc rs : Nat} {lv : List (Nat × Value)} {st : List Value} {h : pz_H} {Q : Option Value → pz_H → Prop}
theorem pz_I.to {X : pz_X} {M : pz_M} {d : Nat} {h h' : pz_H} {rc rs rc' rs' : Nat} {Q : Option Value → pz_H → Prop} {p : Program} {l : Launch} {e : Env} {R : Room} {s : State} {m : MethodId} {args : Array Value} {below : List Frame} {meth : Method} {c : Code} {Z : State → Prop} {H H' : Heap} {locs locs' : List Loc} {cells slots cells' slots' : Nat} (I : pz_I X M d h rc rs Q p l e R s m args below meth c Z H locs cells slots) (hR : pz_R X h' H') (hS : va_S (pz_A X) s.heap H' locs') (hc : cells' + rc' ≤ R.cells) (hs : slots' + rs' ≤ R.slots) : pz_I X M d h' rc' rs' Q p l e R s m args below meth c Z H' locs' cells' slots' := ⟨I.1, I.2.1, I.2.2.1, hR, hS, hc, hs⟩
theorem pz_get {idx ci k a : Nat} {fs : List Value} {v : Value} (hdg : decode M.2.1 pc = .ok (.getfield idx, 3)) (hF : pz_FL M.1.cls idx ci k) (hG : h.1 a = some (.inr (ci, fs))) (hv : fs[k]? = some v) (kk : pz_W X M d (pc + 3) lv (v :: st) h rc rs Q) : pz_W X M d pc lv (.ref a :: st) h rc rs Q := by
  intro p l e R s m args below meth c Z H locs cells slots ls I hL
  obtain ⟨C, T, N, hc, hk, hin, hl⟩ := hF
  exact va_get I.1.1 I.1.2.1 I.1.2.2.2.2.1 hin I.1.2.2.2.1 I.1.2.2.2.2.2.1.1 (pz_one (I.2.2.2.1.2.2 _ _ hG).2) 0 rfl hc k hk (I.1.2.2.2.2.1 _ hl) (fun _ h9 => h9) hv hdg (kk p l e R s m args below meth c Z H locs cells slots ls I hL)
theorem pz_put {idx ci k a : Nat} {fs : List Value} {v : Value} {ty : FieldType} (hdg : decode M.2.1 pc = .ok (.putfield idx, 3)) (hF : pz_FP M.1.cls idx ci k ty false) (hG : h.1 a = some (.inr (ci, fs))) (hn : narrow ty v = v) (hfit : fits ty v = true) (hlen : k < fs.length) (kk : pz_W X M d (pc + 3) lv st (pz_up h a (.inr (ci, fs.set k v))) rc rs Q) : pz_W X M d pc lv (v :: .ref a :: st) h rc rs Q := by
  intro p l e R s m args below meth c Z H locs cells slots ls I hL
  obtain ⟨C, T, N, ty0, hc, hk, hin, hlk, hty, hnm, hfin, hd, -⟩ := hF
  have hK := I.1.2.2.2.2.2.1.1
  have hts := I.1.2.2.2.2.1
  have hap := va_apart (own := M.1.cls) hts hin ty0 hty hnm hK hc
  obtain ⟨hB, r, h1, cell, q1, q2, q3, q4⟩ := I.2.2.2.1.2.2 _ _ hG
  have hr : r = (C, T, N) := Option.some.inj (h1.symm.trans hc)
  subst hr
  obtain ⟨hS, hfc, kC, hkC, hkind⟩ := hK.1 ci _ hc
  obtain ⟨cf, kf, fi, f, hi, hsl⟩ := hS k hk
  have hlay := hts _ (hin _ (u_in_lay hk))
  unfold u_lay at hlay
  rw [if_neg (by rw [hfin]; decide)] at hlay
  have hst := (u_facts hfc hkC (u_lays hts hin hk) hi).1
  have h6 := u_store hfc hkC hkind hlay hi hd hn hfit
  refine W.putK I.1.1 I.1.2.1 (f := f) ⟨I.1.2.2.2.1, hts _ hlk, ⟨_, _, _, hi⟩, hst⟩ (by rw [q2]; exact h6) q1 q3 (by rw [hsl]; exact k2_hasslot (q4 k hk)) rfl rfl hdg fun H' e1 e2 e3 => ?_
  rw [hsl] at e1 ⊢
  exact kk p l e R s m args below meth c Z H' _ cells slots ls (I.to (I.2.2.2.1.set hG ⟨_, hc, t_OB.to (V := updV (vp_V fs) k v) ⟨_, e1, q2, q3, t_set q4 hap hk v⟩ (fun j _ => vp_updV_set hlen v j)⟩ e2 e3) (I.2.2.2.2.1.put e2 e3 hB) I.2.2.2.2.2.1 I.2.2.2.2.2.2) hL
theorem pz_putF {idx ci k a : Nat} {fs : List Value} {v : Value} {ty : FieldType} (hdg : decode M.2.1 pc = .ok (.putfield idx, 3)) (hF : pz_FP M.1.cls idx ci k ty true) (hini : M.1.name = "<init>") (hG : h.1 a = some (.inr (ci, fs))) (hn : narrow ty v = v) (hfit : fits ty v = true) (hlen : k < fs.length) (kk : pz_W X M d (pc + 3) lv st (pz_up h a (.inr (ci, fs.set k v))) rc rs Q) : pz_W X M d pc lv (v :: .ref a :: st) h rc rs Q := by
  intro p l e R s m args below meth c Z H locs cells slots ls I hL
  obtain ⟨C, T, N, ty0, hc, hk, hin, hlk, hty, hnm, hfin, hd, hdecl⟩ := hF
  have hdecl := hdecl rfl
  have hK := I.1.2.2.2.2.2.1.1
  have hts := I.1.2.2.2.2.1
  have hown := I.1.2.2.2.1
  have hap := va_apart (own := M.1.cls) hts hin ty0 hty hnm hK hc
  obtain ⟨hB, r, h1, cell, q1, q2, q3, q4⟩ := I.2.2.2.1.2.2 _ _ hG
  have hr : r = (C, T, N) := Option.some.inj (h1.symm.trans hc)
  subst hr
  obtain ⟨hS, hfc, kC, hkC, hkind⟩ := hK.1 ci _ hc
  obtain ⟨cf, kf, fi, f, hi, hsl⟩ := hS k hk
  have hlay := hts _ (hin _ (u_in_lay hk))
  unfold u_lay at hlay
  rw [if_pos hfin] at hlay
  have hst := (u_facts hfc hkC (u_lays hts hin hk) hi).1
  have hcf : m.cls = cf := by
    obtain ⟨_, _, c', _, _, _, -, -, hf', -, -, -, hown2, -⟩ := Cond.laysFinal_spec hlay
    have e1 : c' = cf := by have := hi.symm.trans hf'; simp at this; exact this.1.symm
    rw [hdecl] at hown2
    rw [← e1]; exact Option.some.inj (hown.symm.trans hown2)
  have h6 := u_fits hfc hkC hkind (Or.inr hlay) hi hd hn hfit
  refine W.putFinK I.1.1 I.1.2.1 hown (hts _ hlk) hi hst hcf (I.1.2.2.2.2.2.2.1.trans hini) (by rw [q2]; exact h6) q1 q3 (by rw [hsl]; exact k2_hasslot (q4 k hk)) rfl rfl hdg fun H' e1 e2 e3 => ?_
  rw [hsl] at e1 ⊢
  exact kk p l e R s m args below meth c Z H' _ cells slots ls (I.to (I.2.2.2.1.set hG ⟨_, hc, t_OB.to (V := updV (vp_V fs) k v) ⟨_, e1, q2, q3, t_set q4 hap hk v⟩ (fun j _ => vp_updV_set hlen v j)⟩ e2 e3) (I.2.2.2.2.1.put e2 e3 hB) I.2.2.2.2.2.1 I.2.2.2.2.2.2) hL
theorem pz_iald {a n : Nat} {f : Nat → Int32} {i : Int32} (hdg : decode M.2.1 pc = .ok (.iaload, 1)) (hG : h.1 a = some (.inl (0, n, .inl f))) (hin : vp_in i n) (kk : pz_W X M d (pc + 1) lv (.int (f i.toNatClampNeg) :: st) h rc rs Q) : pz_W X M d pc lv (.int i :: .ref a :: st) h rc rs Q := by
  intro p l e R s m args below meth c Z H locs cells slots ls I hL
  exact va_iald I.1.1 I.1.2.1 I.1.2.2.2.2.2.1.1 (pz_one (I.2.2.2.1.2.2 _ _ hG).2) 0 0 rfl (pz_kt_at X (t := 0) rfl) hin hdg (kk p l e R s m args below meth c Z H locs cells slots ls I hL)
theorem pz_lald {a n : Nat} {f : Nat → Int64} {i : Int32} (hdg : decode M.2.1 pc = .ok (.laload, 1)) (hG : h.1 a = some (.inl (1, n, .inr (.inl f)))) (hin : vp_in i n) (kk : pz_W X M d (pc + 1) lv (.long (f i.toNatClampNeg) :: st) h rc rs Q) : pz_W X M d pc lv (.int i :: .ref a :: st) h rc rs Q := by
  intro p l e R s m args below meth c Z H locs cells slots ls I hL
  exact va_lald I.1.1 I.1.2.1 I.1.2.2.2.2.2.1.1 (pz_one (I.2.2.2.1.2.2 _ _ hG).2) 0 1 rfl (pz_kt_at X (t := 1) rfl) hin hdg (kk p l e R s m args below meth c Z H locs cells slots ls I hL)
theorem pz_zald {a n : Nat} {f : Nat → Int32} {i : Int32} (hdg : decode M.2.1 pc = .ok (.baload, 1)) (hG : h.1 a = some (.inl (4, n, .inl f))) (hin : vp_in i n) (kk : pz_W X M d (pc + 1) lv (.int (f i.toNatClampNeg) :: st) h rc rs Q) : pz_W X M d pc lv (.int i :: .ref a :: st) h rc rs Q := by
  intro p l e R s m args below meth c Z H locs cells slots ls I hL
  exact va_zald I.1.1 I.1.2.1 I.1.2.2.2.2.2.1.1 (pz_one (I.2.2.2.1.2.2 _ _ hG).2) 0 4 rfl (pz_kt_at X (t := 4) rfl) hin hdg (kk p l e R s m args below meth c Z H locs cells slots ls I hL)
theorem pz_aald {a n : Nat} {f : Nat → Option Nat} {i : Int32} (hdg : decode M.2.1 pc = .ok (.aaload, 1)) (hG : h.1 a = some (.inl (2, n, .inr (.inr (.inr (.inr f)))))) (hin : vp_in i n) (kk : pz_W X M d (pc + 1) lv (va_rf (f i.toNatClampNeg) :: st) h rc rs Q) : pz_W X M d pc lv (.int i :: .ref a :: st) h rc rs Q := by
  intro p l e R s m args below meth c Z H locs cells slots ls I hL
  exact va_aldq I.1.1 I.1.2.1 I.1.2.2.2.2.2.1.1 (pz_one (I.2.2.2.1.2.2 _ _ hG).2) 0 2 rfl (pz_kt_at X (t := 2) rfl) hin hdg (kk p l e R s m args below meth c Z H locs cells slots ls I hL)
theorem pz_aald2 {a n : Nat} {f : Nat → Option Nat} {i : Int32} (hdg : decode M.2.1 pc = .ok (.aaload, 1)) (hG : h.1 a = some (.inl (3, n, .inr (.inr (.inr (.inr f)))))) (hin : vp_in i n) (kk : pz_W X M d (pc + 1) lv (va_rf (f i.toNatClampNeg) :: st) h rc rs Q) : pz_W X M d pc lv (.int i :: .ref a :: st) h rc rs Q := by
  intro p l e R s m args below meth c Z H locs cells slots ls I hL
  have hlt : i.toNatClampNeg < n := Nat.not_le.mp fun q => hin (Or.inr q)
  exact W.aald (v := va_rf (f i.toNatClampNeg)) (ty := .array .int) I.1.1 I.1.2.1 (I.2.2.2.1.2.2 _ _ hG).2 ((I.1.2.2.2.2.2.1.1.2 3 _ (pz_kt_at X (t := 3) rfl)).1 n (fun j => va_rf (f j))) rfl (fun q => by cases q) (by show ¬ (i < 0 ∨ (arrV _ _ _).slots.size ≤ _); rw [arrV_size]; exact hin) (by show (arrV _ _ _).slots[_]? = _; rw [arrV_read _ _ hlt]) rfl rfl hdg (kk p l e R s m args below meth c Z H locs cells slots ls I hL)
theorem pz_iast {a n : Nat} {f : Nat → Int32} {i : Int32} {x : Int32} (hdg : decode M.2.1 pc = .ok (.iastore, 1)) (hG : h.1 a = some (.inl (0, n, .inl f))) (hin : vp_in i n) (kk : pz_W X M d (pc + 1) lv st (pz_up h a (.inl (0, n, .inl (upd f i.toNatClampNeg x)))) rc rs Q) : pz_W X M d pc lv (.int x :: .int i :: .ref a :: st) h rc rs Q := by
  intro p l e R s m args below meth c Z H locs cells slots ls I hL
  have hG1 := I.2.2.2.1.2.2 _ _ hG
  refine W.iast I.1.1 I.1.2.1 hG1.2 ((I.1.2.2.2.2.2.1.1.2 0 _ (pz_kt_at X (t := 0) rfl)).1 n (fun j => .int (f j))) (fun q => by cases q) (by show ¬ (i < 0 ∨ (arrV _ _ _).slots.size ≤ _); rw [arrV_size]; exact hin) rfl rfl hdg fun H1 e1 z oq => ?_
  refine kk p l e R s m args below meth c Z H1 _ cells slots ls (I.to (I.2.2.2.1.set hG ?_ z oq) (I.2.2.2.2.1.put z oq hG1.1) I.2.2.2.2.2.1 I.2.2.2.2.2.2) hL
  show H1[a]? = some (vp_cell _ _)
  rw [e1]
  show some ((vp_cell _ _).setSlot _ _) = _
  rw [vp_cell_i, vp_cell_i, arrV_store]
  congr 2
  funext q
  by_cases hq : q = i.toNatClampNeg
  · subst hq
    simp [updV, upd]
    try rfl
  · simp [updV, upd, hq]
theorem pz_last {a n : Nat} {f : Nat → Int64} {i : Int32} {x : Int64} (hdg : decode M.2.1 pc = .ok (.lastore, 1)) (hG : h.1 a = some (.inl (1, n, .inr (.inl f)))) (hin : vp_in i n) (kk : pz_W X M d (pc + 1) lv st (pz_up h a (.inl (1, n, .inr (.inl (vp_updL f i.toNatClampNeg x))))) rc rs Q) : pz_W X M d pc lv (.long x :: .int i :: .ref a :: st) h rc rs Q := by
  intro p l e R s m args below meth c Z H locs cells slots ls I hL
  have hG1 := I.2.2.2.1.2.2 _ _ hG
  refine W.last I.1.1 I.1.2.1 hG1.2 ((I.1.2.2.2.2.2.1.1.2 1 _ (pz_kt_at X (t := 1) rfl)).1 n (fun j => .long (f j))) (fun q => by cases q) (by show ¬ (i < 0 ∨ (arrV _ _ _).slots.size ≤ _); rw [arrV_size]; exact hin) rfl rfl hdg fun H1 e1 z oq => ?_
  refine kk p l e R s m args below meth c Z H1 _ cells slots ls (I.to (I.2.2.2.1.set hG ?_ z oq) (I.2.2.2.2.1.put z oq hG1.1) I.2.2.2.2.2.1 I.2.2.2.2.2.2) hL
  show H1[a]? = some (vp_cell _ _)
  rw [e1]
  show some ((vp_cell _ _).setSlot _ _) = _
  rw [vp_cell_l, vp_cell_l, arrV_store]
  congr 2
  funext q
  by_cases hq : q = i.toNatClampNeg
  · subst hq
    simp [updV, vp_updL]
    try rfl
  · simp [updV, vp_updL, hq]
theorem pz_zast {a n : Nat} {f : Nat → Int32} {i : Int32} {x : Int32} (hdg : decode M.2.1 pc = .ok (.bastore, 1)) (hG : h.1 a = some (.inl (4, n, .inl f))) (hin : vp_in i n) (kk : pz_W X M d (pc + 1) lv st (pz_up h a (.inl (4, n, .inl (upd f i.toNatClampNeg (vp_nar .boolean x))))) rc rs Q) : pz_W X M d pc lv (.int x :: .int i :: .ref a :: st) h rc rs Q := by
  intro p l e R s m args below meth c Z H locs cells slots ls I hL
  have hG1 := I.2.2.2.1.2.2 _ _ hG
  refine W.zast I.1.1 I.1.2.1 hG1.2 ((I.1.2.2.2.2.2.1.1.2 4 _ (pz_kt_at X (t := 4) rfl)).1 n (fun j => .int (f j))) (fun q => by cases q) (by show ¬ (i < 0 ∨ (arrV _ _ _).slots.size ≤ _); rw [arrV_size]; exact hin) rfl rfl hdg fun H1 e1 z oq => ?_
  refine kk p l e R s m args below meth c Z H1 _ cells slots ls (I.to (I.2.2.2.1.set hG ?_ z oq) (I.2.2.2.2.1.put z oq hG1.1) I.2.2.2.2.2.1 I.2.2.2.2.2.2) hL
  show H1[a]? = some (vp_cell _ _)
  rw [e1]
  show some ((vp_cell _ _).setSlot _ _) = _
  rw [vp_cell_i, vp_cell_i, arrV_store]
  congr 2
  funext q
  by_cases hq : q = i.toNatClampNeg
  · subst hq
    simp [updV, upd, vp_nar]
    try rfl
  · simp [updV, upd, vp_nar, hq]
theorem pz_alen {a t : Nat} {x : vp_A} {ty : FieldType} {v : Int32} (hdg : decode M.2.1 pc = .ok (.arraylength, 1)) (hG : h.1 a = some (.inl (t, x))) (ht : pz_ty[t]? = some ty) (hv : Int32.ofNat x.1 = v) (kk : pz_W X M d (pc + 1) lv (.int v :: st) h rc rs Q) : pz_W X M d pc lv (.ref a :: st) h rc rs Q := by
  intro p l e R s m args below meth c Z H locs cells slots ls I hL
  exact va_alen I.1.1 I.1.2.1 I.1.2.2.2.2.2.1.1 (pz_one (I.2.2.2.1.2.2 _ _ hG).2) 0 t rfl (pz_kt_at X ht) hv hdg (kk p l e R s m args below meth c Z H locs cells slots ls I hL)
theorem pz_aast {a n v ci : Nat} {vs : List Value} {f : Nat → Option Nat} {i : Int32} (hdg : decode M.2.1 pc = .ok (.aastore, 1)) (hG : h.1 a = some (.inl (2, n, .inr (.inr (.inr (.inr f)))))) (hV : h.1 v = some (.inr (1, vs))) (hin : vp_in i n) (kk : pz_W X M d (pc + 1) lv st (pz_up h a (.inl (2, n, .inr (.inr (.inr (.inr (va_up f i.toNatClampNeg (some v)))))))) rc rs Q) : pz_W X M d pc lv (.ref v :: .int i :: .ref a :: st) h rc rs Q := by
  intro p l e R s m args below meth c Z H locs cells slots ls I hL
  have hG1 := I.2.2.2.1.2.2 _ _ hG
  have hK := I.1.2.2.2.2.2.1.1
  have hlt : i.toNatClampNeg < n := Nat.not_le.mp fun q => hin (Or.inr q)
  have h0 : ¬ i < 0 := fun q => hin (Or.inl q)
  obtain ⟨-, r', hr', cellV, g1, g2, g3, -⟩ := I.2.2.2.1.2.2 _ _ hV
  have hcls := (hK.1 1 (RX1, TX1, 18) rfl).2
  obtain ⟨kA, comp, k1, k2, k3, -⟩ := (hK.2 2 _ (pz_kt_at X (t := 2) rfl)).2
  have hcomp : comp = X.1.1 1 := Option.some.inj (k3.symm.trans hcls.1)
  subst hcomp
  obtain ⟨kC, hkC, -⟩ := hcls.2
  refine W.aast I.1.1 I.1.2.1 hG1.2 (fun q h => by cases h) (fun h => by cases h) k1 k2 rfl hkC ⟨h0, by show _ < (arrV _ _ _).slots.size; rw [arrV_size]; exact hlt⟩ g1 (fun q h => by rw [g3] at h; cases h) (by rw [g2]; exact hkC) (by rw [g2]; exact va_assign hcls) rfl rfl hdg fun H1 e1 z oq => ?_
  refine kk p l e R s m args below meth c Z H1 _ cells slots ls (I.to (I.2.2.2.1.set hG ?_ z oq) (I.2.2.2.2.1.put z oq hG1.1) I.2.2.2.2.2.1 I.2.2.2.2.2.2) hL
  show H1[a]? = some (vp_cell _ _)
  rw [e1]
  show some ((vp_cell _ _).setSlot _ _) = _
  rw [vp_cell_q, vp_cell_q, arrV_store]
  congr 2
  funext q
  by_cases hq : q = i.toNatClampNeg
  · subst hq
    simp [updV, va_up, va_rf]
  · simp [updV, va_up, hq]
theorem pz_objInit {a idx : Nat} (hdg : decode M.2.1 pc = .ok (.invokespecial idx, 3)) (hl : Cond.methodLink M.1.cls idx objectInit ∈ pz_U) (hi : Cond.instanceMethod objectInit ∈ pz_U) (hcd : Cond.code objectInit ⟨#[0xb1]⟩ 1 none ∈ pz_U) (hr : (st.map fun v => v.category).sum ≤ 8) (kk : pz_W X M (d + 1) (pc + 3) lv st h rc rs Q) : pz_W X M (d + 1) pc lv (.ref a :: st) h rc rs Q := by
  intro p l e R s m args below meth c Z H locs cells slots ls I hL
  have hf := I.1.2.2.2.2.2.2.2.1
  have hlo := I.1.2.2.2.2.2.2.2.2
  exact W.objInit I.1.1 I.1.2.1 I.1.2.2.2.1 (I.1.2.2.2.2.1 _ hl) (I.1.2.2.2.2.1 _ hi) (I.1.2.2.2.2.1 _ hcd) rfl (by rw [I.1.2.2.1]; exact hL.1) rfl hdg (by omega) (by show 2 * 0 + _ + 12 ≤ _; omega) (W.eq (g2 := F0 m (pc + 3) ls st) rfl (kk p l e R s m args below meth c Z H locs cells slots ls I hL))
theorem pz_new {idx ci N : Nat} {C : String} {T : u_T} {ty : Nat → FieldType} {fs : List Value} (hdg : decode M.2.1 pc = .ok (.new idx, 3)) (hc : vwCl[ci]? = some (C, T, N)) (hin : ∀ w ∈ u_ws C T N, w ∈ pz_U) (hty : ∀ k, k < N → parseFieldDescriptor (T k).2.2.1 = some (ty k)) (h1 : Cond.classLink M.1.cls idx C ∈ pz_U) (h2 : Cond.instantiable C N ∈ pz_U) (h3 : Cond.initialized C ∈ pz_U) (hfs : ∀ j, j < N → defaultValue (ty j) = vp_V fs j)
    (kk : (∀ (q : Nat) (c : pz_E), h.1 q = some c → q < h.2) → pz_W X M d (pc + 3) lv (.ref h.2 :: st) (pz_nw h (.inr (ci, fs))) rc rs Q) : pz_W X M d pc lv st h (rc + 1) (rs + N) Q := by
  intro p l e R s m args below meth c Z H locs cells slots ls I hL
  have hK := I.1.2.2.2.2.2.1.1
  have hts := I.1.2.2.2.2.1
  have hR := I.2.2.2.1
  have hS := I.2.2.2.2.1
  have hcc := I.2.2.2.2.2.1
  have hss := I.2.2.2.2.2.2
  have hKn := hK.1 ci _ hc
  refine W.newcK I.1.1 I.1.2.1 I.1.2.2.2.1 (hts _ h1) (hts _ h2) (hts _ h3) rfl hdg (by omega) (by omega) hKn.2.1 hR.1 fun H1 kC hkC e1 z1 o1 => ?_
  exact kk (fun q c hq => hR.lt hq) p l e R s m args below meth c Z H1 locs (cells + 1) (slots + N) ls (I.to (hR.push ⟨_, hc, (u_born ty hts hin hKn hkC e1 hty).to hfs⟩ z1 o1) ⟨Nat.le_trans hS.1 (by rw [z1, hR.1]; omega), fun x g1 g2 => (o1 x (by rw [← hR.1]; exact Nat.lt_of_lt_of_le g1 hS.1)).trans (hS.2.1 x g1 g2), hS.2.2⟩ (by omega) (by omega)) hL
theorem pz_newa {t N : Nat} {at_ : ArrayType} {n : Int32} {a0 : vp_A} (hdg : decode M.2.1 pc = .ok (.newarray at_, 2)) (ht : pz_ty[t]? = some (newarray.typeOf at_)) (hp : ∀ (U : State) (cA : ClassId), va_RA U cA (newarray.typeOf at_) → U.vm.findClass ("[" ++ (newarray.typeOf at_).toString) = some cA) (hw : Cond.arrayClass (newarray.typeOf at_) ∈ pz_U) (ha : ∀ cA : ClassId, vp_cell cA a0 = arrV cA N (fun _ => defaultValue (newarray.typeOf at_))) (hn : ¬ n < 0) (hN : n.toNatClampNeg = N) (hby : N * componentBytes (newarray.typeOf at_) ≤ 536870912)
    (kk : (∀ (q : Nat) (c : pz_E), h.1 q = some c → q < h.2) → pz_W X M d (pc + 2) lv (.ref h.2 :: st) (pz_nw h (.inl (t, a0))) rc rs Q) : pz_W X M d pc lv (.int n :: st) h (rc + 1) (rs + N) Q := by
  intro p l e R s m args below meth c Z H locs cells slots ls I hL
  have hK := I.1.2.2.2.2.2.1.1
  have hts := I.1.2.2.2.2.1
  have hR := I.2.2.2.1
  have hS := I.2.2.2.2.1
  have hcc := I.2.2.2.2.2.1
  have hss := I.2.2.2.2.2.2
  refine va_newaK I.1.1 I.1.2.1 (hts _ hw) rfl hdg rfl hn hN hby (by omega) (by omega) hR.1 fun H1 cA e1 z1 o1 hAr hNm => ?_
  have hid : cA = X.2.1 t := Option.some.inj (hNm.symm.trans (hp _ _ (hK.2 t _ (pz_kt_at X ht)).2))
  subst hid
  refine kk (fun q c hq => hR.lt hq) p l e R s m args below meth c Z H1 locs (cells + 1) (slots + N) ls (I.to (hR.push ?_ z1 o1) ⟨Nat.le_trans hS.1 (by rw [z1, hR.1]; omega), fun x g1 g2 => (o1 x (by rw [← hR.1]; exact Nat.lt_of_lt_of_le g1 hS.1)).trans (hS.2.1 x g1 g2), hS.2.2⟩ (by omega) (by omega)) hL
  show H1[h.2]? = some (vp_cell _ _)
  rw [ha]
  exact e1
theorem pz_anew {N idx : Nat} {n : Int32} (hdg : decode M.2.1 pc = .ok (.anewarray idx, 3)) (hcl : Cond.classLink M.1.cls idx "CreaseFlat$Paper" ∈ pz_U) (hn : ¬ n < 0) (hN : n.toNatClampNeg = N) (hby : N * 4 ≤ 536870912)
    (kk : (∀ (q : Nat) (c : pz_E), h.1 q = some c → q < h.2) → pz_W X M d (pc + 3) lv (.ref h.2 :: st) (pz_nw h (.inl (2, N, .inr (.inr (.inr (.inr (fun _ => none))))))) rc rs Q) : pz_W X M d pc lv (.int n :: st) h (rc + 1) (rs + N) Q := by
  intro p l e R s m args below meth c Z H locs cells slots ls I hL
  have hK := I.1.2.2.2.2.2.1.1
  have hts := I.1.2.2.2.2.1
  have hR := I.2.2.2.1
  have hS := I.2.2.2.2.1
  have hcc := I.2.2.2.2.2.1
  have hss := I.2.2.2.2.2.2
  subst hN
  refine W.anew I.1.1 I.1.2.1 I.1.2.2.2.1 (hts _ hcl) (va_AO.use (I.1.2.2.2.2.2.1.2.2.2 _ List.mem_cons_self)) rfl hdg rfl hn hby (by omega) (by omega) fun cA kA comp f1 f2 f3 f4 => ?_
  have hid : cA = X.2.1 2 := by
    obtain ⟨kA, comp, k1, k2, k3, k4⟩ := (hK.2 2 _ (pz_kt_at X (t := 2) rfl)).2
    exact Option.some.inj (f1.symm.trans k4)
  subst hid
  generalize hH1 : H.push ({ cls := X.2.1 2, slots := Array.replicate n.toNatClampNeg .null, vm := .none } : Cell) = H1
  have z1 : H1.size = H.size + 1 := by rw [← hH1, Array.size_push]
  have e1 : H1[H.size]? = some (arrV (X.2.1 2) n.toNatClampNeg (fun _ => .null)) := by rw [← hH1, Array.getElem?_push_size, ← arrV_new]
  have o1 : ∀ q : Nat, q < H.size → H1[q]? = H[q]? := fun q hq => by rw [← hH1, Array.getElem?_push, if_neg (Nat.ne_of_lt hq)]
  rw [hR.1] at z1 e1 o1 ⊢
  refine kk (fun q c hq => hR.lt hq) p l e R s m args below meth c Z H1 locs (cells + 1) (slots + n.toNatClampNeg) ls (I.to (hR.push ?_ z1 o1) ⟨Nat.le_trans hS.1 (by rw [z1, hR.1]; omega), fun x g1 g2 => (o1 x (by rw [← hR.1]; exact Nat.lt_of_lt_of_le g1 hS.1)).trans (hS.2.1 x g1 g2), hS.2.2⟩ (by omega) (by omega)) hL
  show H1[h.2]? = some (vp_cell _ _)
  rw [vp_cell_q, e1]
  rfl
theorem pz_mmin {idx : Nat} {x y : Int32} (hdg : decode M.2.1 pc = .ok (.invokestatic idx, 3)) (hl : Cond.methodLink M.1.cls idx Lib.Math.min.name ∈ pz_U) (hs1 : Cond.static Lib.Math.min.name ∈ pz_U) (hi : Cond.initialized "java/lang/Math" ∈ pz_U) (hcd : Cond.code Lib.Math.min.name Lib.Math.min.code 2 (some .int) ∈ pz_U) (hr : (st.map fun v => v.category).sum ≤ 8) (kk : pz_W X M (d + 1) (pc + 3) lv (.int (if y < x then y else x) :: st) h rc rs Q) : pz_W X M (d + 1) pc lv (.int y :: .int x :: st) h rc rs Q := by
  intro p l e R s m args below meth c Z H locs cells slots ls I hL
  have hf := I.1.2.2.2.2.2.2.2.1
  have hlo := I.1.2.2.2.2.2.2.2.2
  have hts := I.1.2.2.2.2.1
  have hcc := I.2.2.2.2.2.1
  have hss := I.2.2.2.2.2.2
  exact va_mmin I.1.1 I.1.2.1 (I.1.2.2.1.trans hL.1.symm) I.1.2.2.2.1 (hts _ hl) (hts _ hs1) (hts _ hi) (hts _ hcd) (by omega) (by omega) (by omega) (by omega) hdg (kk p l e R s m args below meth c Z H locs cells slots ls I hL)
theorem pz_mmax {idx : Nat} {x y : Int32} (hdg : decode M.2.1 pc = .ok (.invokestatic idx, 3)) (hl : Cond.methodLink M.1.cls idx Lib.Math.max.name ∈ pz_U) (hs1 : Cond.static Lib.Math.max.name ∈ pz_U) (hi : Cond.initialized "java/lang/Math" ∈ pz_U) (hcd : Cond.code Lib.Math.max.name Lib.Math.max.code 2 (some .int) ∈ pz_U) (hr : (st.map fun v => v.category).sum ≤ 8) (kk : pz_W X M (d + 1) (pc + 3) lv (.int (if x < y then y else x) :: st) h rc rs Q) : pz_W X M (d + 1) pc lv (.int y :: .int x :: st) h rc rs Q := by
  intro p l e R s m args below meth c Z H locs cells slots ls I hL
  have hf := I.1.2.2.2.2.2.2.2.1
  have hlo := I.1.2.2.2.2.2.2.2.2
  have hts := I.1.2.2.2.2.1
  have hcc := I.2.2.2.2.2.1
  have hss := I.2.2.2.2.2.2
  exact va_mmax I.1.1 I.1.2.1 (I.1.2.2.1.trans hL.1.symm) I.1.2.2.2.1 (hts _ hl) (hts _ hs1) (hts _ hi) (hts _ hcd) (by omega) (by omega) (by omega) (by omega) hdg (kk p l e R s m args below meth c Z H locs cells slots ls I hL)
end PZH
end
section
/-! CALLS in the program logic -/
def pz_MF (M : pz_M) (n : Nat) : Prop := Cond.code M.1 M.2.1 M.2.2.1 M.2.2.2 ∈ pz_U ∧ Cond.initialized M.1.cls ∈ pz_U ∧ (M.1.cls ≠ "java/lang/invoke/MethodHandle" ∧ M.1.cls ≠ "java/lang/invoke/VarHandle" ∧ (parseMethodDescriptor M.1.desc).map (fun d => d.parameters.length) = some n) ∧ M.2.2.1 ≤ 19
theorem pz_goodW {M : pz_M} (h : Cond.code M.1 M.2.1 M.2.2.1 M.2.2.2 ∈ pz_U) : GoodIn pz_U (pz_ws M) := fun w hw => by
  rcases List.mem_cons.mp hw with e | hw
  · rw [e]; exact ⟨h, pz_good _ h⟩
  · exact ⟨hw, pz_good _ hw⟩
theorem pz_blind {X : pz_X} {as : List Value} {h : pz_H} : FrameBlind (pz_Pc X as h) := fun a U g mk q => by
  obtain ⟨q0, qR, qK⟩ := q
  exact ⟨q0, qR, qK.same (U := U.calling g mk a) rfl⟩
theorem pz_go {X : pz_X} {p : Program} {l : Launch} {e : Env} {R : Room} {s : State} {m : MethodId} {args : Array Value} {below : List Frame} {meth : Method} {c : Code} {H : Heap} {locs : List Loc} {cells slots mc ms pc : Nat} {ls : Array Slot} {st0 rest : List Value} {Q' : Option Value → pz_H → Prop} {a : Array Value} {Z : State → Prop}
    (hr : va_Run p l e R s m args below meth c H locs cells slots mc ms (F0 m pc ls st0) rest (pz_Qc X Q' a) (pz_A X)) (hS : va_S (pz_A X) s.heap H locs)
    (kk : ∀ (r : Option Value) (h' : pz_H) (H1 : Heap) (locs1 : List Loc), Q' r h' → pz_R X h' H1 → va_S (pz_A X) s.heap H1 locs1 → W p l e R s m args below meth c H1 locs1 (cells + mc) (slots + ms) Z (F0 m (pc + 3) ls (r.toList ++ rest))) : W p l e R s m args below meth c H locs cells slots Z (F0 m pc ls st0) := by
  intro T hT X0
  obtain ⟨v, st₀, t, T', L, h0, X', hL, e1, e2, ⟨⟨r, h', hv, hq, hR⟩, hz, hk⟩, st⟩ := hr T hT X0
  cases hv
  rw [h0] at hz hk
  obtain ⟨t2, a1, b1⟩ := kk v h' T'.heap (locs ++ L) hq (by rw [e1]; exact hR)
    ⟨Nat.le_trans hS.1 (by rw [e1]; exact hz), fun q h1 h2 => by rw [e1, hk q (Nat.lt_of_lt_of_le h1 hS.1) h2]; exact hS.2.1 q h1 h2, fun q hq => by
      rcases List.mem_append.mp hq with h | h
      · exact hS.2.2 q h
      · exact hL q h⟩ T' rfl X'
  exact ⟨t2, st t2 a1, b1⟩
section PZC
variable {X : pz_X} {M M' : pz_M} {d pc rc rs mc ms idx n : Nat} {lv : List (Nat × Value)} {st rest As : List Value} {h : pz_H} {Q Q' : Option Value → pz_H → Prop}
theorem pz_pre {as : List Value} {s : State} {H : Heap} (hR : pz_R X h H) (hK : pz_K X s) : ∀ U : State, U.heap = H → s.WarmedH U.vm → pz_Pc X as h as.toArray U := fun U hU hW => ⟨rfl, by rw [hU]; exact hR, hK.warm hW⟩
theorem pz_callV {b ci N : Nat} {fs : List Value} {T : u_T} (hdg : decode M.2.1 pc = .ok (.invokevirtual idx, 3)) (hCall : pz_Call X M' d mc ms (.ref b :: As) h Q') (hst : st = As.reverse ++ .ref b :: rest) (hrest : (rest.map fun v => v.category).sum ≤ 8) (hMF : pz_MF M' As.length) (hl : Cond.methodLink M.1.cls idx M'.1 ∈ pz_U) (hG : h.1 b = some (.inr (ci, fs))) (hc : vwCl[ci]? = some (M'.1.cls, T, N)) (hin : Cond.instanceMethod M'.1 ∈ pz_U) (hse : Cond.selects M'.1.cls M'.1 M'.1 ∈ pz_U)
    (kk : ∀ (r : Option Value) (h' : pz_H), Q' r h' → pz_W X M (d + 1) (pc + 3) lv (r.toList ++ rest) h' rc rs Q) : pz_W X M (d + 1) pc lv st h (rc + mc) (rs + ms) Q := by
  intro p l e R s m args below meth c Z H locs cells slots ls I hL
  have hf := I.1.2.2.2.2.2.2.2.1
  have hlo := I.1.2.2.2.2.2.2.2.2
  have hts := I.1.2.2.2.2.1
  have hcc := I.2.2.2.2.2.1
  have hss := I.2.2.2.2.2.2
  have hK := I.1.2.2.2.2.2.1
  have hR := I.2.2.2.1
  obtain ⟨hcd, hini, hd, hL19⟩ := hMF
  have hroom : (pz_rm d mc ms).frames + 1 ≤ R.frames ∧ 8 + (M'.2.2.1 + 11) + (pz_rm d mc ms).locals ≤ R.locals := ⟨hf, by show 8 + (M'.2.2.1 + 11) + 38 * d ≤ _; omega⟩
  have cw := callB_of (R := R) (rm := pz_rm d mc ms) (mc := mc) (ms := ms) As.length hts (pz_goodW hcd) rfl rfl rfl (hts _ hini) (hts _ hl) hd hroom
  refine pz_go (va_runV (C := M'.1.cls) (As := As) (rest := rest) ⟨I.1.1, I.1.2.1, I.1.2.2.1, I.1.2.2.2.1, hts⟩ (hCall l) ⟨cw, hts _ hin, hts _ hse⟩ ⟨pz_blind, va_recv hK.1 (pz_one (hR.2.2 _ _ hG).2) hc (q0 := 0) rfl, pz_pre hR hK⟩ rfl rfl hL.1 hst (by show 2 * 0 + _ ≤ 8; omega) hdg ⟨by omega, by omega⟩) I.2.2.2.2.1 fun r h' H1 locs1 hq hR1 hS1 => ?_
  exact kk r h' hq p l e R s m args below meth c Z H1 locs1 _ _ ls (I.to hR1 hS1 (by omega) (by omega)) hL
theorem pz_callS  (hdg : decode M.2.1 pc = .ok (.invokestatic idx, 3)) (hCall : pz_Call X M' d mc ms As h Q') (hst : st = As.reverse ++ rest) (hrest : (rest.map fun v => v.category).sum ≤ 8) (hMF : pz_MF M' As.length) (hl : Cond.methodLink M.1.cls idx M'.1 ∈ pz_U) (hstt : Cond.static M'.1 ∈ pz_U)
    (kk : ∀ (r : Option Value) (h' : pz_H), Q' r h' → pz_W X M (d + 1) (pc + 3) lv (r.toList ++ rest) h' rc rs Q) : pz_W X M (d + 1) pc lv st h (rc + mc) (rs + ms) Q := by
  intro p l e R s m args below meth c Z H locs cells slots ls I hL
  have hf := I.1.2.2.2.2.2.2.2.1
  have hlo := I.1.2.2.2.2.2.2.2.2
  have hts := I.1.2.2.2.2.1
  have hcc := I.2.2.2.2.2.1
  have hss := I.2.2.2.2.2.2
  have hK := I.1.2.2.2.2.2.1
  have hR := I.2.2.2.1
  obtain ⟨hcd, hini, hd, hL19⟩ := hMF
  have hroom : (pz_rm d mc ms).frames + 1 ≤ R.frames ∧ 8 + (M'.2.2.1 + 11) + (pz_rm d mc ms).locals ≤ R.locals := ⟨hf, by show 8 + (M'.2.2.1 + 11) + 38 * d ≤ _; omega⟩
  have cw := callB_of (R := R) (rm := pz_rm d mc ms) (mc := mc) (ms := ms) As.length hts (pz_goodW hcd) rfl rfl rfl (hts _ hini) (hts _ hl) hd hroom
  refine pz_go (va_runS (As := As) (rest := rest) ⟨I.1.1, I.1.2.1, I.1.2.2.1, I.1.2.2.2.1, hts⟩ (hCall l) ⟨cw, hts _ hstt⟩ ⟨pz_blind, pz_pre hR hK⟩ rfl rfl hL.1 hst (by show 2 * 0 + _ ≤ 8; omega) hdg ⟨by omega, by omega⟩) I.2.2.2.2.1 fun r h' H1 locs1 hq hR1 hS1 => ?_
  exact kk r h' hq p l e R s m args below meth c Z H1 locs1 _ _ ls (I.to hR1 hS1 (by omega) (by omega)) hL
theorem pz_callSN  {host : String} (hdg : decode M.2.1 pc = .ok (.invokestatic idx, 3)) (hCall : pz_Call X M' d mc ms As h Q') (hst : st = As.reverse ++ rest) (hrest : (rest.map fun v => v.category).sum ≤ 8) (hMF : pz_MF M' As.length) (hl : (M.1.cls, idx, M'.1, host) ∈ pz_NM) (hstt : Cond.static M'.1 ∈ pz_U)
    (kk : ∀ (r : Option Value) (h' : pz_H), Q' r h' → pz_W X M (d + 1) (pc + 3) lv (r.toList ++ rest) h' rc rs Q) : pz_W X M (d + 1) pc lv st h (rc + mc) (rs + ms) Q := by
  intro p l e R s m args below meth c Z H locs cells slots ls I hL
  have hf := I.1.2.2.2.2.2.2.2.1
  have hlo := I.1.2.2.2.2.2.2.2.2
  have hts := I.1.2.2.2.2.1
  have hcc := I.2.2.2.2.2.1
  have hss := I.2.2.2.2.2.2
  have hK := I.1.2.2.2.2.2.1
  have hR := I.2.2.2.1
  obtain ⟨hcd, hini, hd, hL19⟩ := hMF
  have hroom : (pz_rm d mc ms).frames + 1 ≤ R.frames ∧ 8 + (M'.2.2.1 + 11) + (pz_rm d mc ms).locals ≤ R.locals := ⟨hf, by show 8 + (M'.2.2.1 + 11) + 38 * d ≤ _; omega⟩
  have cw := va_cnB (R := R) (rm := pz_rm d mc ms) (mc := mc) (ms := ms) As.length hts (pz_goodW hcd) rfl rfl rfl (hK.2.2.1 _ hl) (hts _ hini) hd hroom
  refine pz_go (va_runSN (As := As) (rest := rest) ⟨I.1.1, I.1.2.1, I.1.2.2.1, I.1.2.2.2.1, hts⟩ (hCall l) ⟨cw, hts _ hstt, trivial⟩ ⟨pz_blind, pz_pre hR hK⟩ rfl rfl hL.1 hst (by show 2 * 0 + _ ≤ 8; omega) hdg ⟨by omega, by omega⟩) I.2.2.2.2.1 fun r h' H1 locs1 hq hR1 hS1 => ?_
  exact kk r h' hq p l e R s m args below meth c Z H1 locs1 _ _ ls (I.to hR1 hS1 (by omega) (by omega)) hL
theorem pz_callI {b : Nat} (hdg : decode M.2.1 pc = .ok (.invokespecial idx, 3)) (hCall : pz_Call X M' d mc ms (.ref b :: As) h Q') (hst : st = As.reverse ++ .ref b :: rest) (hrest : (rest.map fun v => v.category).sum ≤ 8) (hMF : pz_MF M' As.length) (hl : Cond.methodLink M.1.cls idx M'.1 ∈ pz_U) (hret : M'.2.2.2 = none) (hname : M'.1.name = "<init>") (hin : Cond.instanceMethod M'.1 ∈ pz_U)
    (kk : ∀ (r : Option Value) (h' : pz_H), Q' r h' → pz_W X M (d + 1) (pc + 3) lv (r.toList ++ rest) h' rc rs Q) : pz_W X M (d + 1) pc lv st h (rc + mc) (rs + ms) Q := by
  intro p l e R s m args below meth c Z H locs cells slots ls I hL
  have hf := I.1.2.2.2.2.2.2.2.1
  have hlo := I.1.2.2.2.2.2.2.2.2
  have hts := I.1.2.2.2.2.1
  have hcc := I.2.2.2.2.2.1
  have hss := I.2.2.2.2.2.2
  have hK := I.1.2.2.2.2.2.1
  have hR := I.2.2.2.1
  obtain ⟨hcd, hini, hd, hL19⟩ := hMF
  have hroom : (pz_rm d mc ms).frames + 1 ≤ R.frames ∧ 8 + (M'.2.2.1 + 11) + (pz_rm d mc ms).locals ≤ R.locals := ⟨hf, by show 8 + (M'.2.2.1 + 11) + 38 * d ≤ _; omega⟩
  have cw := callB_of (R := R) (rm := pz_rm d mc ms) (mc := mc) (ms := ms) As.length hts (pz_goodW hcd) rfl rfl rfl (hts _ hini) (hts _ hl) hd hroom
  rw [hret] at cw
  refine pz_go (va_runI (As := As) (rest := rest) ⟨I.1.1, I.1.2.1, I.1.2.2.1, I.1.2.2.2.1, hts⟩ (hCall l) ⟨cw, hname, hts _ hin⟩ ⟨pz_blind, pz_pre hR hK⟩ rfl rfl hL.1 hst (by show 2 * 0 + _ ≤ 8; omega) hdg ⟨by omega, by omega⟩) I.2.2.2.2.1 fun r h' H1 locs1 hq hR1 hS1 => ?_
  exact kk r h' hq p l e R s m args below meth c Z H1 locs1 _ _ ls (I.to hR1 hS1 (by omega) (by omega)) hL
theorem pz_callIN {b : Nat} {host : String} (hdg : decode M.2.1 pc = .ok (.invokespecial idx, 3)) (hCall : pz_Call X M' d mc ms (.ref b :: As) h Q') (hst : st = As.reverse ++ .ref b :: rest) (hrest : (rest.map fun v => v.category).sum ≤ 8) (hMF : pz_MF M' As.length) (hl : (M.1.cls, idx, M'.1, host) ∈ pz_NM) (hret : M'.2.2.2 = none) (hname : M'.1.name = "<init>") (hin : Cond.instanceMethod M'.1 ∈ pz_U)
    (kk : ∀ (r : Option Value) (h' : pz_H), Q' r h' → pz_W X M (d + 1) (pc + 3) lv (r.toList ++ rest) h' rc rs Q) : pz_W X M (d + 1) pc lv st h (rc + mc) (rs + ms) Q := by
  intro p l e R s m args below meth c Z H locs cells slots ls I hL
  have hf := I.1.2.2.2.2.2.2.2.1
  have hlo := I.1.2.2.2.2.2.2.2.2
  have hts := I.1.2.2.2.2.1
  have hcc := I.2.2.2.2.2.1
  have hss := I.2.2.2.2.2.2
  have hK := I.1.2.2.2.2.2.1
  have hR := I.2.2.2.1
  obtain ⟨hcd, hini, hd, hL19⟩ := hMF
  have hroom : (pz_rm d mc ms).frames + 1 ≤ R.frames ∧ 8 + (M'.2.2.1 + 11) + (pz_rm d mc ms).locals ≤ R.locals := ⟨hf, by show 8 + (M'.2.2.1 + 11) + 38 * d ≤ _; omega⟩
  have cw := va_cnB (R := R) (rm := pz_rm d mc ms) (mc := mc) (ms := ms) As.length hts (pz_goodW hcd) rfl rfl rfl (hK.2.2.1 _ hl) (hts _ hini) hd hroom
  rw [hret] at cw
  refine pz_go (va_runIN (As := As) (rest := rest) ⟨I.1.1, I.1.2.1, I.1.2.2.1, I.1.2.2.2.1, hts⟩ (hCall l) ⟨cw, hname, hts _ hin⟩ ⟨pz_blind, pz_pre hR hK⟩ rfl rfl hL.1 hst (by show 2 * 0 + _ ≤ 8; omega) hdg ⟨by omega, by omega⟩) I.2.2.2.2.1 fun r h' H1 locs1 hq hR1 hS1 => ?_
  exact kk r h' hq p l e R s m args below meth c Z H1 locs1 _ _ ls (I.to hR1 hS1 (by omega) (by omega)) hL
/-- a method's contract, out of the walk of its body -/
theorem pz_call_of {as : List Value} (hy : plainName M.1.cls = true) (hlen : (lg_sl as).length ≤ M.2.2.1) (kk : pz_W X M d 0 (lv_args 0 as) [] h mc ms Q) : pz_Call X M d mc ms as h Q := by
  intro l
  refine Met.ofW (cc := M.2.1) (maxL := M.2.2.1) (ret := M.2.2.2) hy rfl ?_
  intro p e s m args below meth c s₁ B hml hv
  obtain ⟨rfl, hR, hK⟩ := hv
  have hx := B.exec
  have hb := B.bytes
  have hr := B.returns
  have hlocks := B.notSynchronized
  have hnm : meth.name = M.1.name := (name_of_methodNamed B.named B.method).1
  have hts := atoms_spec (ws := pz_ws M) B.pre
  have hl := lv_entry as (n := M.2.2.1) hlen
  rw [lg_entry_eq]
  refine kk p l e _ s m _ below meth c _ s.heap [] 0 0 _ ⟨⟨hx, hb, hml, findClass_of_methodNamed B.named, fun w hw => hts w (List.mem_cons_of_mem _ hw), hK, hnm, Nat.le_refl _, Nat.le_refl _⟩, by rw [hR.1]; exact hR.2.1, ?_, hR, va_S.rf, Nat.le_of_eq (Nat.zero_add _), Nat.le_of_eq (Nat.zero_add _)⟩ hl
  intro r h' H' locs' pc' ls' hq hR' hS' hrt
  match r, hrt with
  | none, hrt => exact W.vret hx hb (hr.trans hrt.1) (fun t ht hW => ⟨⟨none, h', rfl, hq, by rw [ht]; exact hR'⟩, hS'.F ht⟩) hS'.2.2 hrt.2
  | some (.int v), ⟨ty, h1, h2, h3⟩ => exact W.zret hx hb (hr.trans h1) h2 (fun t ht hW => ⟨⟨_, h', rfl, hq, by rw [ht]; exact hR'⟩, hS'.F ht⟩) hS'.2.2 h3
  | some (.long v), ⟨h1, h3⟩ => exact W.lret hx hb (hr.trans h1) (fun t ht hW => ⟨⟨_, h', rfl, hq, by rw [ht]; exact hR'⟩, hS'.F ht⟩) hS'.2.2 h3
  | some (.ref a), ⟨⟨rt, h1, h2⟩, h3⟩ => exact W.aret hx hb (hr.trans h1) h2 (Or.inr ⟨a, rfl⟩) (fun t ht hW => ⟨⟨_, h', rfl, hq, by rw [ht]; exact hR'⟩, hS'.F ht⟩) hS'.2.2 h3
  | some .null, ⟨⟨rt, h1, h2⟩, h3⟩ => exact W.aret hx hb (hr.trans h1) h2 (Or.inl rfl) (fun t ht hW => ⟨⟨_, h', rfl, hq, by rw [ht]; exact hR'⟩, hS'.F ht⟩) hS'.2.2 h3
theorem pz_ldc2 {index : Nat} {v : Int64} (hdg : decode M.2.1 pc = .ok (.ldc2_w index, 3)) (hw : Jvm.Cond.constantLong M.1.cls index v ∈ pz_U) (kk : pz_W X M d (pc + 3) lv (.long v :: st) h rc rs Q) : pz_W X M d pc lv st h rc rs Q := by
  intro p l e R s m args below meth c Z H locs cells slots ls I hL
  exact lv_ldc2 I.1.1 I.1.2.1 I.1.2.2.2.1 (I.1.2.2.2.2.1 _ hw) hdg (kk p l e R s m args below meth c Z H locs cells slots ls I hL)
theorem pz_ldcw {index : Nat} {v : Int32} (hdg : decode M.2.1 pc = .ok (.ldc_w index, 3)) (hw : Jvm.Cond.constant M.1.cls index v ∈ pz_U) (kk : pz_W X M d (pc + 3) lv (.int v :: st) h rc rs Q) : pz_W X M d pc lv st h rc rs Q := by
  intro p l e R s m args below meth c Z H locs cells slots ls I hL
  exact lv_ldcw I.1.1 I.1.2.1 I.1.2.2.2.1 (I.1.2.2.2.2.1 _ hw) hdg (kk p l e R s m args below meth c Z H locs cells slots ls I hL)
end PZC
end
